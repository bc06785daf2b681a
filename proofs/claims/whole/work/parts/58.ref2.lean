/-! THE REFERENCE: how far it is -/
theorem loop_k {S R : Type} (F : Nat → S → R) (G : S → R) (N : Nat) (Inv : Nat → S → Prop)
    (step : ∀ n j s, j < N → Inv j s → ∃ s', F (n + 1) s = F n s' ∧ Inv (j + 1) s')
    (last : ∀ n s, Inv N s → F (n + 1) s = G s) : ∀ (i n j : Nat) (s : S), i + j = N → i < n → Inv j s → ∃ s', F n s = G s' ∧ Inv N s' := by
  intro i
  induction i with
  | zero =>
    intro n j s hj hn h
    obtain ⟨n, rfl⟩ : ∃ m, n = m + 1 := ⟨n - 1, by omega⟩
    obtain rfl : j = N := by omega
    exact ⟨s, last n s h, h⟩
  | succ i ih =>
    intro n j s hj hn h
    obtain ⟨n, rfl⟩ : ∃ m, n = m + 1 := ⟨n - 1, by omega⟩
    obtain ⟨s', e, h1⟩ := step n j s (by omega) h
    rw [e]
    exact ih n (j + 1) s' (by omega) (by omega) h1
theorem RC.fr {C : Cel} {μ ν : Mem} (h : RC C μ) (h1 : ν.1 = μ.1) (h2 : ν.2.2.2 = μ.2.2.2) (h3 : ν.2.1 492 1 = μ.2.1 492 1) (h4 : ν.2.1 492 2 = μ.2.1 492 2) (h5 : ν.2.1 493 = μ.2.1 493) : RC C ν := by
  obtain ⟨a, b, c, d, e⟩ := h
  exact ⟨a.r h1 h2, b, by rw [h3]; exact c, by rw [h4]; exact d, by rw [h5]; exact e⟩
abbrev mFQ (μ : Mem) (F Q : Row) : Mem := sC (sC μ 506 F) 507 Q
theorem mFQ_F (μ : Mem) (F Q : Row) : (mFQ μ F Q).2.1 506 = F := rfl
theorem mFQ_Q (μ : Mem) (F Q : Row) : (mFQ μ F Q).2.1 507 = Q := rfl
theorem mFQ_f (μ : Mem) (F Q F' : Row) : sC (mFQ μ F Q) 506 F' = mFQ μ F' Q := by
  unfold mFQ
  rw [sC_comm _ _ _ (by decide), sC_C]
theorem mFQ_q (μ : Mem) (F Q Q' : Row) : sC (mFQ μ F Q) 507 Q' = mFQ μ F Q' := sC_C _ _ _ _
theorem RC.fq {C : Cel} {μ : Mem} (h : RC C μ) (F Q : Row) : RC C (mFQ μ F Q) := h.fr rfl rfl rfl rfl rfl
/-- open places: white, and not barred -/
def Wb (C : Cel) (r : Row) (bar : Option Nat) (x : Nat) : Bool := wh C r x && decide (bar ≠ some x)
section Bfs
variable {C : Cel} {r : Row} {bar : Option Nat} {to : Nat}
/-- what holds while the reference lays out how far it is: f, q by numbers; head, tail -/
def BI (C : Cel) (r : Row) (bar : Option Nat) (to hd tl : Nat) (f q : Nat → Nat) : Prop :=
  (∀ y, y < 48 → f y = 9999 ∨ (f y ≤ 48 ∧ there C y = true ∧ rch (adj C r) (Wb C r bar) to (f y) y)) ∧
  (∀ i, i < tl → q i < 48 ∧ Wb C r bar (q i) = true ∧ f (q i) ≤ i) ∧
  (∀ i j, i ≤ j → j < tl → f (q i) ≤ f (q j)) ∧
  tl = cnt (fun y => Wb C r bar y && decide (f y ≠ 9999)) 48 ∧
  (∀ y, y < 48 → Wb C r bar y = true → f y ≠ 9999 → ∃ i, i < tl ∧ q i = y) ∧
  (∀ i, i < hd → ∀ z, adj C r (q i) z = true → f z ≤ f (q i) + 1) ∧
  f to = 0 ∧ hd ≤ tl
theorem BI.done {f q : Nat → Nat} {hd tl : Nat} (hC : C.ok) (hs : StOK C r) (h : BI C r bar to hd tl f q) (e : hd = tl) (y : Nat) (hy : there C y = true) : f y = dst (adj C r) (Wb C r bar) to y := by
  obtain ⟨a1, a2, a3, a4, a5, a6, a7, a8⟩ := h
  have tl48 : tl ≤ 48 := by rw [a4]; exact cnt_le _ _
  have key : ∀ k y, there C y = true → rch (adj C r) (Wb C r bar) to k y → f y ≠ 9999 ∧ f y ≤ k := by
    intro k
    induction k with
    | zero =>
      intro y hy hr
      have hr' : y = to := hr
      rw [hr', a7]
      exact ⟨by decide, Nat.le_refl 0⟩
    | succ k ih =>
      intro y hy hr
      obtain ⟨x, b1, b2, b3⟩ := hr
      have hx : there C x = true := adj_there hC hs hy b1
      obtain ⟨c1, c2⟩ := ih x hx b3
      obtain ⟨i, hi, rfl⟩ := a5 x (there_lt hC hx) b2 c1
      have := a6 i (by omega) y (by rw [adj_symm]; exact b1)
      have := (a2 i hi).2.2
      constructor <;> omega
  rcases a1 y (there_lt hC hy) with h1 | ⟨h1, h2, h3⟩
  · rw [h1, dst_no]
    intro k hk
    exact (key k y hy hk).1 h1
  · rw [dst_of ⟨h3, fun j hj hr => by have := (key j y hy hr).2; omega⟩]
end Bfs
theorem laysFar_in {C : Cel} {μ : Mem} (h : RC C μ) {b : Nat} (hb : b ≤ 79) (hs : StOK C (rwb μ b)) {bar : Option Nat} (hbar : μ.2.1 492 41 = enc bar) (hb48 : ∀ x, bar = some x → x < 48) {to : Nat} (K : Nat → Int32 → Int32 → Int32 → Mem → Option Mem)
    {hd tl : Nat} {f q : Nat → Nat} {F Q : Row} (hF : ∀ y, y < 48 → F y = I (f y)) (hQ : ∀ i, i < tl → Q i = I (q i)) (hI : BI C (rwb μ b) bar to hd tl f q) (hht : hd < tl) (hG : ∀ y, y < 48 → f y ≠ 9999 → f y ≤ f (q hd) + 1) :
    ∃ tl' F' Q' f' q', fX11_laysFar_74 K fuel 492 (I b) (I (hd + 1)) (I tl) (I (q hd)) 0 (mFQ μ F Q) = K 492 (I b) (I (hd + 1)) (I tl') (mFQ μ F' Q') ∧ (∀ y, y < 48 → F' y = I (f' y)) ∧ (∀ i, i < tl' → Q' i = I (q' i)) ∧ BI C (rwb μ b) bar to (hd + 1) tl' f' q' ∧ (∀ y, y < 48 → f' y ≠ 9999 → f' y ≤ f' (q' hd) + 1) := by
  have hGr := h.1
  have hC := h.2.1
  obtain ⟨a1, a2, a3, a4, a5, a6, a7, a8⟩ := hI
  have hx48 : q hd < 48 := (a2 hd hht).1
  have hxw := (a2 hd hht).2.1
  have hxt : there C (q hd) = true := by
    unfold Wb at hxw
    rw [Bool.and_eq_true] at hxw
    exact (wh_iff.mp hxw.1).1
  have tl48 : tl ≤ 48 := by rw [a4]; exact cnt_le _ _
  -- state: way, tail, F, Q, f, q
  have key := loop_k (S := Nat × Nat × Row × Row × (Nat → Nat) × (Nat → Nat)) (R := Option Mem)
    (fun n s => fX11_laysFar_74 K n 492 (I b) (I (hd + 1)) (I s.2.1) (I (q hd)) (I s.1) (mFQ μ s.2.2.1 s.2.2.2.1))
    (fun s => K 492 (I b) (I (hd + 1)) (I s.2.1) (mFQ μ s.2.2.1 s.2.2.2.1)) 4
    (fun j s => s.1 = j ∧ (∀ y, y < 48 → s.2.2.1 y = I (s.2.2.2.2.1 y)) ∧ (∀ i, i < s.2.1 → s.2.2.2.1 i = I (s.2.2.2.2.2 i)) ∧ BI C (rwb μ b) bar to hd s.2.1 s.2.2.2.2.1 s.2.2.2.2.2 ∧ hd < s.2.1 ∧ s.2.2.2.2.2 hd = q hd ∧ (∀ y, y < 48 → s.2.2.2.2.1 y ≠ 9999 → s.2.2.2.2.1 y ≤ s.2.2.2.2.1 (q hd) + 1) ∧ (∀ w, w < j → ∀ z, nbr C (rwb μ b) (q hd) w = some z → s.2.2.2.2.1 z ≤ s.2.2.2.2.1 (q hd) + 1))
    ?_ ?_ 4 fuel 0 (0, tl, F, Q, f, q) rfl (by unfold fuel; omega) ⟨rfl, hF, hQ, ⟨a1, a2, a3, a4, a5, a6, a7, a8⟩, hht, rfl, hG, fun w hw => absurd hw (Nat.not_lt_zero w)⟩
  · obtain ⟨⟨j, tl', F', Q', f', q'⟩, e, i1, i2, i3, i4, i5, i6, i7, i8⟩ := key
    simp only at e i1 i2 i3 i4 i5 i6 i7 i8
    refine ⟨tl', F', Q', f', q', e, i2, i3, ?_, by rw [i6]; exact i7⟩
    obtain ⟨c1, c2, c3, c4, c5, c6, c7, c8⟩ := i4
    refine ⟨c1, c2, c3, c4, c5, ?_, c7, by omega⟩
    intro i hi z hz
    by_cases e2 : i = hd
    · subst e2
      rw [i6] at hz ⊢
      obtain ⟨w, hw, hn⟩ := (nbr_adj hC hs hxt).mp hz
      exact i8 w hw z hn
    · exact c6 i (by omega) z hz
  · rintro n j ⟨j', tl', F', Q', f', q'⟩ hj ⟨i1, i2, i3, i4, i5, i6, i7, i8⟩
    simp only at i1 i2 i3 i4 i5 i6 i7 i8
    subst i1
    obtain ⟨c1, c2, c3, c4, c5, c6, c7, c8⟩ := i4
    have tl48' : tl' ≤ 48 := by rw [c4]; exact cnt_le _ _
    have eb := beside_ok (h.fq F' Q') (b := b) (x := q hd) (w := j') hb hxt hj
    have er : rwb (mFQ μ F' Q') b = rwb μ b := rfl
    rw [er] at eb
    show ∃ s', fX11_laysFar_74 K (n + 1) 492 (I b) (I (hd + 1)) (I tl') (I (q hd)) (I j') (mFQ μ F' Q') = _ ∧ _
    rw [fX11_laysFar_74]
    simp (disch := omega) only [I_ltl, hj, if_true, eb, Option.bind_some]
    cases hn : nbr C (rwb μ b) (q hd) j' with
    | none =>
      rw [if_pos (show enc none = -1 from rfl), I_addl]
      refine ⟨(j' + 1, tl', F', Q', f', q'), rfl, rfl, i2, i3, ⟨c1, c2, c3, c4, c5, c6, c7, c8⟩, i5, i6, i7, ?_⟩
      intro w hw z hz
      by_cases e2 : w = j'
      · subst e2; rw [hn] at hz; cases hz
      · exact i8 w (by omega) z hz
    | some y =>
      have hya : adj C (rwb μ b) (q hd) y = true := (nbr_adj hC hs hxt).mpr ⟨j', hj, hn⟩
      have hyt : there C y = true := adj_there hC hs hxt hya
      have hy48 : y < 48 := there_lt hC hyt
      have hfy : f' y ≤ 9999 := by rcases c1 y hy48 with q1 | q1 <;> omega
      rw [if_neg (show ¬ enc (some y) = -1 from I_m1 (by omega)), show enc (some y) = I y from rfl]
      simp (disch := omega) only [gR_C, g_492_39 hGr, Option.bind_some, ld_506, mFQ_F, i2 y hy48, I_ltl]
      by_cases hfin : f' y < 9999
      · rw [if_pos hfin, I_addl]
        refine ⟨(j' + 1, tl', F', Q', f', q'), rfl, rfl, i2, i3, ⟨c1, c2, c3, c4, c5, c6, c7, c8⟩, i5, i6, i7, ?_⟩
        intro w hw z hz
        by_cases e2 : w = j'
        · subst e2; rw [hn] at hz; cases hz
          exact i7 y hy48 (by omega)
        · exact i8 w (by omega) z hz
      · have hfy2 : f' y = 9999 := by omega
        have hxf := c2 hd i5
        rw [i6] at hxf
        have hyx : y ≠ q hd := by intro e3; rw [e3] at hfy2; omega
        have hyto : y ≠ to := by intro e3; rw [e3] at hfy2; omega
        rw [if_neg hfin]
        simp (disch := omega) only [i2 _ hx48, I_addl, st_506, Option.bind_some, mFQ_F, mFQ_f]
        have hup : ∀ z, z < 48 → up F' y (I (f' (q hd) + 1)) z = I (up f' y (f' (q hd) + 1) z) := by
          intro z hz
          unfold up
          split
          · rfl
          · exact i2 z hz
        have hqne : ∀ i, i < tl' → q' i ≠ y := by
          intro i hi e3
          have := (c2 i hi).2.2
          rw [e3] at this
          omega
        have hrx : rch (adj C (rwb μ b)) (Wb C (rwb μ b) bar) to (f' (q hd)) (q hd) := by
          rcases c1 _ hx48 with q1 | q1
          · omega
          · exact q1.2.2
        -- the new f
        have n1 : ∀ z, z < 48 → up f' y (f' (q hd) + 1) z = 9999 ∨ (up f' y (f' (q hd) + 1) z ≤ 48 ∧ there C z = true ∧ rch (adj C (rwb μ b)) (Wb C (rwb μ b) bar) to (up f' y (f' (q hd) + 1) z) z) := by
          intro z hz
          by_cases e3 : z = y
          · subst e3
            rw [up_s]
            exact Or.inr ⟨by omega, hyt, ⟨q hd, by rw [adj_symm]; exact hya, hxw, hrx⟩⟩
          · rw [up_n _ _ e3]
            exact c1 z hz
        have nx : up f' y (f' (q hd) + 1) (q hd) = f' (q hd) := up_n _ _ (fun e3 => hyx e3.symm)
        have n6 : ∀ i, i < hd → ∀ z, adj C (rwb μ b) (q' i) z = true → up f' y (f' (q hd) + 1) z ≤ up f' y (f' (q hd) + 1) (q' i) + 1 := by
          intro i hi z hz
          rw [up_n _ _ (hqne i (by omega))]
          by_cases e3 : z = y
          · subst e3
            have := c6 i hi z hz
            have := (c2 i (by omega)).2.2
            omega
          · rw [up_n _ _ e3]
            exact c6 i hi z hz
        have n7 : ∀ z, z < 48 → up f' y (f' (q hd) + 1) z ≠ 9999 → up f' y (f' (q hd) + 1) z ≤ up f' y (f' (q hd) + 1) (q hd) + 1 := by
          intro z hz
          rw [nx]
          by_cases e3 : z = y
          · subst e3; rw [up_s]; intro _; exact Nat.le_refl _
          · rw [up_n _ _ e3]; exact i7 z hz
        have n8 : ∀ w, w < j' + 1 → ∀ z, nbr C (rwb μ b) (q hd) w = some z → up f' y (f' (q hd) + 1) z ≤ up f' y (f' (q hd) + 1) (q hd) + 1 := by
          intro w hw z hz
          rw [nx]
          by_cases e3 : z = y
          · subst e3; rw [up_s]; exact Nat.le_refl _
          · rw [up_n _ _ e3]
            by_cases e2 : w = j'
            · subst e2; rw [hn] at hz; cases hz; exact absurd rfl e3
            · exact i8 w (by omega) z hz
        have n7to : up f' y (f' (q hd) + 1) to = 0 := by rw [up_n _ _ (fun e3 => hyto e3.symm)]; exact c7
        have nB : Wb C (rwb μ b) bar y = false → BI C (rwb μ b) bar to hd tl' (up f' y (f' (q hd) + 1)) q' := by
          intro hwb
          refine ⟨n1, ?_, ?_, ?_, ?_, n6, n7to, c8⟩
          · intro i hi
            rw [up_n _ _ (hqne i hi)]
            exact c2 i hi
          · intro i j hij hj2
            rw [up_n _ _ (hqne i (by omega)), up_n _ _ (hqne j hj2)]
            exact c3 i j hij hj2
          · rw [c4]
            apply cnt_congr
            intro z hz
            by_cases e3 : z = y
            · subst e3; rw [hwb]; rfl
            · rw [up_n _ _ e3]
          · intro z hz hwz hfz
            by_cases e3 : z = y
            · subst e3; rw [hwb] at hwz; cases hwz
            · rw [up_n _ _ e3] at hfz
              exact c5 z hz hwz hfz
        rw [white_ok (h.fq _ _).1 hb hy48]
        simp only [Option.bind_some]
        rw [show rwb (mFQ μ (up F' y (I (f' (q hd) + 1))) Q') b = rwb μ b from rfl]
        by_cases hwy : rwb μ b (1 + y) = 0
        · rw [if_pos hwy, if_neg (by decide)]
          have ebar : (mFQ μ (up F' y (I (f' (q hd) + 1))) Q').2.1 492 41 = enc bar := hbar
          rw [ebar]
          by_cases hby : bar = some y
          · rw [if_pos (by rw [hby]; rfl)]
            have hwb : Wb C (rwb μ b) bar y = false := by unfold Wb; rw [hby]; simp
            exact ⟨(j' + 1, tl', up F' y (I (f' (q hd) + 1)), Q', up f' y (f' (q hd) + 1), q'), rfl, rfl, hup, i3, nB hwb, i5, i6, n7, n8⟩
          · have hne : ¬ I y = enc bar := by
              cases hbb : bar with
              | none => exact I_m1 (by omega)
              | some b' =>
                intro e3
                have := hb48 b' hbb
                rw [show enc (some b') = I b' from rfl, I_inj (by omega) (by omega)] at e3
                exact hby (by rw [hbb, e3])
            rw [if_neg hne]
            have hwb : Wb C (rwb μ b) bar y = true := by
              unfold Wb
              rw [wh_iff.mpr ⟨hyt, hwy⟩]
              simp [hby]
            have ncnt : cnt (fun z => Wb C (rwb μ b) bar z && decide (up f' y (f' (q hd) + 1) z ≠ 9999)) 48 = tl' + 1 := by
              rw [cnt_up (p := fun z => Wb C (rwb μ b) bar z && decide (f' z ≠ 9999)) hy48 (by simp [hfy2]) (by rw [up_s, hwb]; simp; omega) (fun z hz e3 => by simp only [up_n _ _ e3]), ← c4]
            have tl1 : tl' + 1 ≤ 48 := by rw [← ncnt]; exact cnt_le _ _
            simp (disch := omega) only [gR_C, g_492_40 hGr, Option.bind_some, st_507, mFQ_Q, mFQ_q, I_addl]
            have nQ : ∀ i, i < tl' + 1 → up Q' tl' (I y) i = I (up q' tl' y i) := by
              intro i hi
              unfold up
              split
              · rfl
              · exact i3 i (by omega)
            have nBI : BI C (rwb μ b) bar to hd (tl' + 1) (up f' y (f' (q hd) + 1)) (up q' tl' y) := by
              refine ⟨n1, ?_, ?_, ncnt.symm, ?_, ?_, n7to, by omega⟩
              · intro i hi
                by_cases e4 : i = tl'
                · subst e4
                  rw [up_s, up_s]
                  exact ⟨hy48, hwb, by omega⟩
                · rw [up_n _ _ e4, up_n _ _ (hqne i (by omega))]
                  exact c2 i (by omega)
              · intro i j hij hj2
                by_cases e4 : j = tl'
                · subst e4
                  by_cases e5 : i = j
                  · subst e5; exact Nat.le_refl _
                  · rw [up_s, up_s, up_n (i := i) _ _ e5, up_n _ _ (hqne i (by omega))]
                    have b1 := (c2 i (by omega))
                    exact i7 _ b1.1 (by omega)
                · rw [up_n (i := j) _ _ e4, up_n (k := tl') (i := i) _ _ (by omega), up_n _ _ (hqne i (by omega)), up_n _ _ (hqne j (by omega))]
                  exact c3 i j hij (by omega)
              · intro z hz hwz hfz
                by_cases e3 : z = y
                · subst e3; exact ⟨tl', by omega, up_s _ _ _⟩
                · rw [up_n _ _ e3] at hfz
                  obtain ⟨i, hi, e4⟩ := c5 z hz hwz hfz
                  exact ⟨i, by omega, by rw [up_n _ _ (by omega)]; exact e4⟩
              · intro i hi z hz
                rw [up_n (k := tl') (i := i) _ _ (by omega)] at hz ⊢
                exact n6 i hi z hz
            exact ⟨(j' + 1, tl' + 1, up F' y (I (f' (q hd) + 1)), up Q' tl' (I y), up f' y (f' (q hd) + 1), up q' tl' y), rfl, rfl, hup, nQ, nBI, (show hd < tl' + 1 by omega), (show up q' tl' y hd = q hd by rw [up_n _ _ (by omega)]; exact i6), n7, n8⟩
        · rw [if_neg hwy, if_pos rfl]
          have hwb : Wb C (rwb μ b) bar y = false := by
            unfold Wb wh
            simp [hwy]
          exact ⟨(j' + 1, tl', up F' y (I (f' (q hd) + 1)), Q', up f' y (f' (q hd) + 1), q'), rfl, rfl, hup, i3, nB hwb, i5, i6, n7, n8⟩
  · rintro n ⟨j', tl', F', Q', f', q'⟩ ⟨i1, _⟩
    simp only at i1
    subst i1
    show fX11_laysFar_74 K (n + 1) 492 (I b) (I (hd + 1)) (I tl') (I (q hd)) (I 4) (mFQ μ F' Q') = _
    rw [fX11_laysFar_74]
    rw [if_neg (by decide)]
