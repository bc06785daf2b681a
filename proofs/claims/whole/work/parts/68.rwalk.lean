/-! THE REFERENCE: one walks -/
theorem up_up {α : Type} (g : Nat → α) (k : Nat) (x y : α) : up (up g k x) k y = up g k y := by
  funext i
  unfold up
  split <;> rfl
theorem up_id {α : Type} (g : Nat → α) (k : Nat) : up g k (g k) = g := by
  funext i
  unfold up
  split
  · rename_i h; rw [h]
  · rfl
abbrev bitI (p : Nat) : Int32 := (1 : Int32) <<< (I p &&& 31)
/-- while p walks: where he is, how many steps -/
def WS (b p : Nat) (μ : Mem) (x m : Nat) (M : Mem) : Prop := RD b μ M ∧ rwb M b = up (rwb μ b) (55 + p) (I x) ∧ M.2.1 508 = up (μ.2.1 508) p (I m) ∧ M.2.1 492 = μ.2.1 492
theorem walks_lp {C : Cel} {G Fd : List Itm} {μ : Mem} (h : RC C μ) (hk : RK G Fd μ) {b p to : Nat} (hb : b ≤ 79) (hs : StOK C (rwb μ b)) (hp : p < C.P) (hto : there C to = true) :
    ∀ (d x m : Nat) (M : Mem) (n : Nat), d + 1 < n → m + d < 1000 → WS b p μ x m M → (∀ y, there C y = true → M.2.1 506 y = I (dst (adj C (rwb μ b)) (wh C (rwb μ b)) to y)) → there C x = true → dst (adj C (rwb μ b)) (wh C (rwb μ b)) to x = d → d < 48 →
    ∃ n' M', fX11_walks_39 n 492 (I b) (I p) (I to) 1 M = fX11_walks_39 (n' + 1) 492 (I b) (I p) (I to) 0 M' ∧ WS b p μ (wlk C G to p (rwb μ b) d x m).1 (wlk C G to p (rwb μ b) d x m).2 M' := by
  intro d
  have hC := h.2.1
  have hP := hC.2.1
  have hto48 := there_lt hC hto
  induction d with
  | zero =>
    intro x m M n hn hmd hW hF hx hd hd48
    obtain ⟨n, rfl⟩ : ∃ k, n = k + 1 + 1 := ⟨n - 2, by omega⟩
    have hxt : x = to := by
      rcases dst_wh hC hs hto x with q | ⟨_, q⟩
      · rw [hd] at q; exact absurd q.1 (by decide)
      · rw [hd] at q; exact q.1
    have hGM : Gr M := (hW.1.rc h).1
    have hat : M.2.1 502 (b + (55 + p)) = I x := by
      have := congrFun hW.2.1 (55 + p)
      rw [up_s] at this
      exact this
    refine ⟨n, M, ?_, hW⟩
    conv => lhs; rw [fX11_walks_39]
    rw [if_neg (by decide)]
    simp (disch := omega) only [bs, g_492_34 hGM, I_addl, I_add, ld_502, Nat.add_assoc, hat]
    rw [if_pos (by rw [hxt])]
    unfold fX11_walks_115
    rw [if_pos rfl]
  | succ d ih =>
    intro x m M n hn hmd hW hF hx hd hd48
    obtain ⟨n, rfl⟩ : ∃ k, n = k + 1 + 1 := ⟨n - 2, by omega⟩
    have hx48 := there_lt hC hx
    have hRM := hW.1.rc h
    have hKM := hW.1.rk hk
    have hGM : Gr M := hRM.1
    have hxt : x ≠ to := by
      intro e
      rw [e, dst_of (k := 0) ⟨rfl, fun j hj => absurd hj (Nat.not_lt_zero j)⟩] at hd
      omega
    have hat : M.2.1 502 (b + (55 + p)) = I x := by
      have := congrFun hW.2.1 (55 + p)
      rw [up_s] at this
      exact this
    have hpa : M.2.1 502 (b + (73 + p)) = rwb μ b (73 + p) := by
      have := congrFun hW.2.1 (73 + p)
      rw [up_n _ _ (by omega)] at this
      exact this
    have hma : M.2.1 508 p = I m := by rw [hW.2.2.1, up_s]
    have hfx := hF x hx
    rw [hd] at hfx
    have e0 : fX11_walks_39 (n + 1 + 1) 492 (I b) (I p) (I to) 1 M = if I m < rwb μ b (73 + p) then (fX11_isGoing 492 (I b) (I p) (I m) M).bind fun q => if q.1 = 0 then fX11_walks_39 (n + 1) 492 (I b) (I p) (I to) 0 q.2 else (gR q.2 492 34 0).bind fun a45 => (fX11_stepFrom 492 (I b) (I x) q.2).bind fun r49 => (stI q.2 a45 (I b + 55 + I p) r49).bind fun μ52 => (gR μ52 492 44 0).bind fun a55 => (ldI μ52 a55 (I p)).bind fun x58 => (stI μ52 a55 (I p) (x58 + 1)).bind fun μ60 => fX11_walks_39 (n + 1) 492 (I b) (I p) (I to) 1 μ60 else fX11_walks_39 (n + 1) 492 (I b) (I p) (I to) 0 M := by
      conv => lhs; rw [fX11_walks_39]
      rw [if_neg (by decide)]
      have h9 : (d + 1 < 9999) = True := eq_true (by omega)
      simp (disch := omega) only [bs, g_492_34 hGM, g_492_39 hGM, g_492_44 hGM, ld_502, ld_506, ld_508, hat, hpa, hma, hfx, Nat.add_assoc, I_addl, I_add, I_inj, hxt, if_false, I_ltl, h9, if_true]
      unfold fX11_walks_115
      simp only [if_true]
      rfl
    rw [e0]
    by_cases hpace : I m < rwb μ b (73 + p)
    · rw [if_pos hpace]
      obtain ⟨T, Q, eg⟩ := isGoing_ok (m := m) hRM hKM hb hp (show rwb M b (55 + p) = I x from hat) hx48 hfx
      rw [eg, bs]
      rw [hW.2.1]
      have hW1 : WS b p μ x m (sC (sC M 504 T) 505 Q) := by
        refine ⟨(hW.1.trans (RD.c M T (by decide))).trans (RD.c _ Q (by decide)), ?_, ?_, ?_⟩
        · rw [rwb_c _ _ (by decide), rwb_c _ _ (by decide)]; exact hW.2.1
        · rw [sC_n _ _ (by decide), sC_n _ _ (by decide)]; exact hW.2.2.1
        · rw [sC_n _ _ (by decide), sC_n _ _ (by decide)]; exact hW.2.2.2
      by_cases hgo : goOn C G (up (rwb μ b) (55 + p) (I x)) p m (d + 1) = true
      · rw [if_pos hgo]
        simp only
        rw [if_neg (by decide)]
        have hR1 := hW1.1.rc h
        have hG1 : Gr (sC (sC M 504 T) 505 Q) := hR1.1
        have hcg : ∀ k, 1 ≤ k → k < 55 → rwb (sC (sC M 504 T) 505 Q) b k = rwb μ b k := by
          intro k h1 h2
          rw [hW1.2.1, up_n _ _ (by omega)]
        have ea : adj C (rwb (sC (sC M 504 T) 505 Q) b) = adj C (rwb μ b) := adj_congr (fun k h1 h2 => hcg k (by omega) h2)
        have ew : wh C (rwb (sC (sC M 504 T) 505 Q) b) = wh C (rwb μ b) := wh_congr hC (fun k h1 h2 => hcg k h1 (by omega))
        have es : isStep C (rwb (sC (sC M 504 T) 505 Q) b) = isStep C (rwb μ b) := isStep_congr hC hcg
        have hF1 : ∀ y, there C y = true → (sC (sC M 504 T) 505 Q).2.1 506 y = I (dst (adj C (rwb μ b)) (wh C (rwb μ b)) to y) := by
          intro y hy
          rw [sC_n _ _ (by decide), sC_n _ _ (by decide)]
          exact hF y hy
        have est := stepFrom_ok hR1 hb (StOK_congr (fun k h1 h2 => (hcg k (by omega) h2).symm) hs) hx hto (by rw [ea, ew]; exact hF1) (by rw [ea, ew, hd]; omega) (by rw [ea, ew, hd]; omega)
        rw [es] at est
        have hyt : there C (fst48 (isStep C (rwb μ b) to x)) = true ∧ dst (adj C (rwb μ b)) (wh C (rwb μ b)) to (fst48 (isStep C (rwb μ b) to x)) = d := by
          have hne : ∃ y, isStep C (rwb μ b) to x y = true := by
            rcases dst_wh hC hs hto x with q | ⟨_, q⟩
            · rw [q.1] at hd; omega
            · rw [hd] at q
              obtain ⟨y, ha, hw, hy⟩ := q.step
              refine ⟨y, ?_⟩
              unfold isStep
              rw [ha, hw, dst_of hy, hd]
              simp
          obtain ⟨y, hy⟩ := hne
          obtain ⟨m', hm', h1, h2⟩ := least (p := fun j => isStep C (rwb μ b) to x j = true) y hy
          have hst := h1
          unfold isStep at h1
          rw [Bool.and_eq_true, Bool.and_eq_true] at h1
          have ht := wh_there m' h1.1.2
          rw [fst48_of (there_lt hC ht) hst (fun j hj => by cases q : isStep C (rwb μ b) to x j; rfl; exact absurd q (h2 j hj))]
          have he := of_decide_eq_true h1.2
          rw [hd] at he
          exact ⟨ht, by omega⟩
        rw [est]
        have hma1 : (sC (sC M 504 T) 505 Q).2.1 508 p = I m := by rw [hW1.2.2.1, up_s]
        rw [g_492_34 hG1, bs, bs, I_addl, I_add, st_502 (by omega), bs, gC, g_492_44 hG1, bs, ld_508 (by omega), bs, st_508 (by omega), bs, sC_n _ _ (show (508 : Nat) ≠ 502 by decide), hma1, I_addl, Nat.add_assoc b 55 p]
        have hW2 : WS b p μ (fst48 (isStep C (rwb μ b) to x)) (m + 1) (sC (sC (sC (sC M 504 T) 505 Q) 502 (up ((sC (sC M 504 T) 505 Q).2.1 502) (b + (55 + p)) (I (fst48 (isStep C (rwb μ b) to x))))) 508 (up ((sC (sC M 504 T) 505 Q).2.1 508) p (I (m + 1)))) := by
          refine ⟨(hW1.1.trans (RD.row _ _ (by omega) (by omega))).trans (RD.c _ _ (by decide)), ?_, ?_, ?_⟩
          · rw [rwb_c _ _ (by decide), rwb_up, hW1.2.1, up_up]
          · rw [sC_s, hW1.2.2.1, up_up]
          · rw [sC_n _ _ (by decide), sC_n _ _ (by decide)]; exact hW1.2.2.2
        obtain ⟨n', M', e1, hM'⟩ := ih (fst48 (isStep C (rwb μ b) to x)) (m + 1) _ (n + 1) (by omega) (by omega) hW2 (by
          intro y hy
          rw [sC_n _ _ (by decide), sC_n _ _ (by decide)]
          exact hF1 y hy) hyt.1 hyt.2 (by omega)
        refine ⟨n', M', e1, ?_⟩
        unfold wlk
        rw [if_pos (by rw [decide_eq_true hpace, hgo]; rfl)]
        exact hM'
      · rw [if_neg hgo]
        simp only [if_true]
        refine ⟨n, _, rfl, ?_⟩
        unfold wlk
        rw [if_neg (by rw [Bool.and_eq_true]; exact fun q => hgo q.2)]
        exact hW1
    · rw [if_neg hpace]
      refine ⟨n, M, rfl, ?_⟩
      unfold wlk
      rw [if_neg (by rw [Bool.and_eq_true]; exact fun q => hpace (of_decide_eq_true q.1))]
      exact hW
theorem walks_end {C : Cel} {μ : Mem} (h : RC C μ) {b p to x m n : Nat} (hb : b ≤ 79) (hp : p < C.P) (hto : there C to = true) (hx : there C x = true) {M : Mem} (hW : WS b p μ x m M) :
    ∃ ν, fX11_walks_39 (n + 1) 492 (I b) (I p) (I to) 0 M = some ν ∧ RD b μ ν ∧ rwb ν b = (if x = to then up (up (rwb μ b) (55 + p) (I x)) (61 + p) (-1) else up (rwb μ b) (55 + p) (I x)) ∧ ν.2.1 508 = up (μ.2.1 508) p (I m) ∧ ν.2.1 492 = (if x = to then up (μ.2.1 492) 42 (μ.2.1 492 42 ||| bitI p) else μ.2.1 492) := by
  have hC := h.2.1
  have hP := hC.2.1
  have hto48 := there_lt hC hto
  have hx48 := there_lt hC hx
  have hGM : Gr M := (hW.1.rc h).1
  have hat : M.2.1 502 (b + (55 + p)) = I x := by
    have := congrFun hW.2.1 (55 + p)
    rw [up_s] at this
    exact this
  rw [fX11_walks_39, if_pos rfl, g_492_34 hGM, bs, I_addl, I_add, ld_502 (by omega), bs, Nat.add_assoc, hat]
  simp (disch := omega) only [I_inj]
  by_cases e : x = to
  · rw [if_pos e, if_pos e, if_pos e, bs, I_addl, I_add, st_502 (by omega), bs, bs, sI_C, Nat.add_assoc]
    refine ⟨_, rfl, (hW.1.trans (RD.row _ _ (by omega) (by omega))).trans (RD.f _ _ (Or.inl rfl)), ?_, ?_, ?_⟩
    · rw [rwb_c _ _ (by decide), rwb_up, hW.2.1]
    · rw [sC_n _ _ (by decide), sC_n _ _ (by decide)]; exact hW.2.2.1
    · rw [sC_s, sC_n _ _ (by decide), hW.2.2.2]
  · rw [if_neg e, if_neg e, if_neg e]
    exact ⟨M, rfl, hW.1, hW.2.1, hW.2.2.1, hW.2.2.2⟩
theorem walks_ok {C : Cel} {G Fd : List Itm} {μ : Mem} (h : RC C μ) (hk : RK G Fd μ) {b p : Nat} {dark : Bool} (hb : b ≤ 79) (hr : RowOK C (rwb μ b)) (hp : p < C.P) (hn : rwb μ b (61 + p) ≠ -1) (hm : μ.2.1 508 p = 0) (hbar : μ.2.1 492 41 = -1) (hdk : μ.2.1 492 45 = if dark = true then 1 else 0) :
    ∃ ν, fX11_walks 492 (I b) (I p) μ = some ν ∧ RD b μ ν ∧ rwb ν b = (walk1 C G dark p (rwb μ b)).1 ∧ ν.2.1 508 = up (μ.2.1 508) p (I (walk1 C G dark p (rwb μ b)).2.1) ∧ ν.2.1 492 = (if (walk1 C G dark p (rwb μ b)).2.2 = true then up (μ.2.1 492) 42 (μ.2.1 492 42 ||| bitI p) else μ.2.1 492) := by
  obtain ⟨hs, ha, ht⟩ := hr
  have hC := h.2.1
  have hP := hC.2.1
  have hGr := h.1
  obtain ⟨x, hx1, hx2⟩ := ha p hp
  obtain ⟨to, ht1, ht2⟩ : ∃ x, rwb μ b (61 + p) = I x ∧ there C x = true := by
    rcases ht p hp with q | q
    · exact absurd q hn
    · exact q
  have hto48 := there_lt hC ht2
  have hx48 := there_lt hC hx2
  have hw1 : walk1 C G dark p (rwb μ b) = if (wres C G dark (rwb μ b) p to x).1 = to then (up (up (rwb μ b) (55 + p) (I (wres C G dark (rwb μ b) p to x).1)) (61 + p) (-1), (wres C G dark (rwb μ b) p to x).2, true) else (up (rwb μ b) (55 + p) (I (wres C G dark (rwb μ b) p to x).1), (wres C G dark (rwb μ b) p to x).2, false) := by
    unfold walk1
    rw [if_neg hn, hx1, ht1, ix_of hx48, ix_of hto48]
  have fin : ∀ (x' m' n : Nat) (M : Mem), WS b p μ x' m' M → (x', m') = wres C G dark (rwb μ b) p to x → ∃ ν, fX11_walks_39 (n + 1) 492 (I b) (I p) (I to) 0 M = some ν ∧ RD b μ ν ∧ rwb ν b = (walk1 C G dark p (rwb μ b)).1 ∧ ν.2.1 508 = up (μ.2.1 508) p (I (walk1 C G dark p (rwb μ b)).2.1) ∧ ν.2.1 492 = (if (walk1 C G dark p (rwb μ b)).2.2 = true then up (μ.2.1 492) 42 (μ.2.1 492 42 ||| bitI p) else μ.2.1 492) := by
    intro x' m' n M hW he
    have hx' : there C x' = true := by
      have := wres_there (G := G) (dark := dark) (p := p) hC hs ht2 hx2
      rw [← he] at this
      exact this
    obtain ⟨ν, e1, e2, e3, e4, e5⟩ := walks_end (n := n) h hb hp ht2 hx' hW
    refine ⟨ν, e1, e2, ?_⟩
    rw [hw1, ← he]
    by_cases q : x' = to
    · simp only [q, if_true] at e3 e5 ⊢
      exact ⟨e3, e4, e5⟩
    · simp only [q, if_false] at e3 e5 ⊢
      exact ⟨e3, e4, e5⟩
  have hW0 : WS b p μ x 0 μ := by
    refine ⟨RD.refl b μ, ?_, ?_, rfl⟩
    · rw [← hx1, up_id]
    · rw [show I 0 = μ.2.1 508 p from hm.symm, up_id]
  unfold fX11_walks
  rw [g_492_34 hGr, bs, I_addl, I_add, ld_502 (by omega), bs, Nat.add_assoc, show μ.2.1 502 (b + (61 + p)) = I to from ht1, hdk]
  cases dark with
  | true =>
    rw [if_neg (by decide), if_neg (by decide)]
    exact fin x 0 4999 μ hW0 rfl
  | false =>
    rw [if_pos (by decide)]
    obtain ⟨F, Q, e, hF⟩ := laysFar_ok h hb hs (bar := none) hbar (fun x q => by cases q) ht2 (fun q => by cases q)
    rw [Wb_none] at hF
    rw [e, bs]
    have h45 : (mFQ μ F Q).2.1 492 45 = 0 := by
      show μ.2.1 492 45 = 0
      rw [hdk]; rfl
    rw [h45, if_pos rfl]
    have hW1 : WS b p μ x 0 (mFQ μ F Q) := by
      refine ⟨(RD.c μ F (by decide)).trans (RD.c _ Q (by decide)), ?_, ?_, rfl⟩
      · rw [rwb_c _ _ (by decide), rwb_c _ _ (by decide)]; exact hW0.2.1
      · exact hW0.2.2.1
    have hF1 : ∀ y, there C y = true → (mFQ μ F Q).2.1 506 y = I (dst (adj C (rwb μ b)) (wh C (rwb μ b)) to y) := hF
    by_cases hd : dst (adj C (rwb μ b)) (wh C (rwb μ b)) to x = 9999
    · have hGM : Gr (mFQ μ F Q) := (h.fq F Q).1
      have hat : (mFQ μ F Q).2.1 502 (b + (55 + p)) = I x := hx1
      have hxt : x ≠ to := by
        intro e2
        rw [e2, dst_of (k := 0) ⟨rfl, fun j hj => absurd hj (Nat.not_lt_zero j)⟩] at hd
        omega
      have e3 : fX11_walks_39 fuel 492 (I b) (I p) (I to) 1 (mFQ μ F Q) = fX11_walks_39 4999 492 (I b) (I p) (I to) 0 (mFQ μ F Q) := by
        show fX11_walks_39 (4999 + 1) 492 (I b) (I p) (I to) 1 (mFQ μ F Q) = _
        conv => lhs; rw [fX11_walks_39]
        rw [if_neg (by decide), g_492_34 hGM, bs, I_addl, I_add, ld_502 (by omega), bs, Nat.add_assoc, hat, if_neg (by rw [I_inj (by omega) (by omega)]; exact hxt), g_492_39 hGM, bs, ld_506 (by omega), bs, hF1 x hx2, hd, if_neg (by decide)]
        unfold fX11_walks_115
        rw [if_pos rfl]
      rw [e3]
      exact fin x 0 4998 _ hW1 (by unfold wres; rw [if_neg (by decide), if_pos hd])
    · have hd48 : dst (adj C (rwb μ b)) (wh C (rwb μ b)) to x < 48 := by
        rcases dst_wh hC hs ht2 x with q | q
        · exact absurd q.1 hd
        · exact q.1
      obtain ⟨n', M', e3, hW2⟩ := walks_lp h hk hb hs hp ht2 _ x 0 (mFQ μ F Q) fuel (by unfold fuel; omega) (by omega) hW1 hF1 hx2 rfl hd48
      rw [e3]
      exact fin _ _ n' M' hW2 (by unfold wres; rw [if_neg (by decide), if_neg hd])
