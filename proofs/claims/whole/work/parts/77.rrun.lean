/-! DAYS THAT GO BY: rows that agree; the reference's tried row -/
def E79 (r r' : Row) : Prop := ∀ k, k < 79 → r k = r' k
theorem E79.refl (r : Row) : E79 r r := fun _ _ => rfl
theorem E79.up {r r' : Row} (h : E79 r r') (k : Nat) (v : Int32) : E79 (up r k v) (up r' k v) := by
  intro j hj
  rw [up_e, up_e]
  split
  · rfl
  · exact h j hj
theorem goOn_congr {C : Cel} {G : List Itm} {r r' : Row} {p m d : Nat} (hC : C.ok) (hp : p < C.P) (h : E79 r r') : goOn C G r p m d = goOn C G r' p m d := by
  have hP := hC.2.1
  have hv : gvals C r p m d = gvals C r' p m d := by
    funext w
    unfold gvals
    split
    · exact h _ (by omega)
    · rfl
    · rfl
    · rw [h (55 + p) (by omega), cntI_congr C.P (fun q hq => h (55 + q) (by omega))]
    · exact h _ (by omega)
    · exact h _ (by omega)
  unfold goOn
  rw [hv]
theorem wlk_congr {C : Cel} {G : List Itm} {to p : Nat} {r r' : Row} (hC : C.ok) (hp : p < C.P) (h : E79 r r') : ∀ d x m, wlk C G to p r d x m = wlk C G to p r' d x m := by
  have hP := hC.2.1
  intro d
  induction d with
  | zero => intro x m; rfl
  | succ d ih =>
    intro x m
    unfold wlk
    rw [h (73 + p) (by omega), goOn_congr hC hp (h.up _ _), isStep_congr hC (fun k _ hk => h k (by omega)), ih]
theorem wres_congr {C : Cel} {G : List Itm} {dark : Bool} {to p x : Nat} {r r' : Row} (hC : C.ok) (hp : p < C.P) (h : E79 r r') : wres C G dark r p to x = wres C G dark r' p to x := by
  unfold wres
  rw [adj_congr (fun k _ hk => h k (by omega)), wh_congr hC (fun k _ hk => h k (by omega)), wlk_congr hC hp h]
theorem walk1_congr {C : Cel} {G : List Itm} {dark : Bool} {p : Nat} {r r' : Row} (hC : C.ok) (hp : p < C.P) (h : E79 r r') : E79 (walk1 C G dark p r).1 (walk1 C G dark p r').1 ∧ (walk1 C G dark p r).2 = (walk1 C G dark p r').2 := by
  have hP := hC.2.1
  unfold walk1
  rw [h (61 + p) (by omega), h (55 + p) (by omega), wres_congr hC hp h]
  split
  · exact ⟨h, rfl⟩
  · split
    · exact ⟨(h.up _ _).up _ _, rfl⟩
    · exact ⟨h.up _ _, rfl⟩
theorem walkA_congr {C : Cel} {G : List Itm} {dark : Bool} {r r' : Row} (hC : C.ok) (h : E79 r r') : ∀ j, j ≤ C.P → E79 (walkA C G dark r j).1 (walkA C G dark r' j).1 ∧ (walkA C G dark r j).2 = (walkA C G dark r' j).2 := by
  intro j
  induction j with
  | zero => intro _; exact ⟨h, rfl⟩
  | succ j ih =>
    intro hj
    obtain ⟨a, b⟩ := ih (by omega)
    obtain ⟨c, d⟩ := walk1_congr (G := G) (dark := dark) hC (show j < C.P by omega) a
    rw [walkA_s, walkA_s]
    refine ⟨c, ?_⟩
    show (up (walkA C G dark r j).2.1 j _, up (walkA C G dark r j).2.2 j _) = _
    rw [b, d]
theorem greetR_congr {C : Cel} {r r' : Row} (hC : C.ok) (h : E79 r r') {j : Nat} (hj : j ≤ C.P) : E79 (greetR C r j) (greetR C r' j) := by
  have hP := hC.2.1
  intro k hk
  unfold greetR
  by_cases q : 67 ≤ k ∧ k < 67 + j
  · rw [if_pos q, if_pos q, h k hk, oth_congr hC (fun k _ hk => h k (by omega)) (show k - 67 < C.P by omega)]
  · rw [if_neg q, if_neg q, h k hk]
theorem fadeR_congr {C : Cel} {Fd : List Itm} {r r' : Row} (hC : C.ok) (h : E79 r r') : E79 (fadeR C Fd r 48) (fadeR C Fd r' 48) := by
  intro k hk
  unfold fadeR
  rw [h k hk]
  by_cases q : (1 ≤ k ∧ k < 1 + 48) ∧ there C (k - 1) = true ∧ 0 < r' k
  · rw [if_pos q, if_pos q, fadeBy_congr hC (h 0 (by omega)) (h _ (by omega)) (fun k _ hk => h k (by omega))]
  · rw [if_neg q, if_neg q]
theorem dayR_congr {C : Cel} {G Fd : List Itm} {dark : Bool} {r r' : Row} (hC : C.ok) (h : E79 r r') : E79 (dayR C G Fd dark r) (dayR C G Fd dark r') := by
  have h1 := fadeR_congr (Fd := Fd) hC (greetR_congr hC (walkA_congr (G := G) (dark := dark) hC h C.P (Nat.le_refl _)).1 (Nat.le_refl _))
  show E79 (up _ 0 _) (up _ 0 _)
  rw [h1 0 (by omega)]
  exact h1.up _ _
theorem madeD_congr {C : Cel} {G : List Itm} {dark : Bool} {r r' : Row} (hC : C.ok) (h : E79 r r') : madeD C G dark r = madeD C G dark r' := by
  unfold madeD
  rw [(walkA_congr (G := G) (dark := dark) hC h C.P (Nat.le_refl _)).2]
theorem cameD_congr {C : Cel} {G : List Itm} {dark : Bool} {r r' : Row} (hC : C.ok) (h : E79 r r') : cameD C G dark r = cameD C G dark r' := by
  unfold cameD
  rw [(walkA_congr (G := G) (dark := dark) hC h C.P (Nat.le_refl _)).2]
theorem loneD_congr {C : Cel} {G : List Itm} {dark : Bool} {r r' : Row} (hC : C.ok) (h : E79 r r') {p : Nat} (hp : p < C.P) : loneD C G dark r p = loneD C G dark r' p := by
  unfold loneD
  rw [oth_congr hC (fun k _ hk => (walkA_congr (G := G) (dark := dark) hC h C.P (Nat.le_refl _)).1 k (by omega)) hp]
theorem E79.rowOK {C : Cel} {r r' : Row} (h : E79 r r') (hC : C.ok) (hr : RowOK C r) : RowOK C r' := hr.congr (fun k _ hk => h k (by omega)) hC
theorem E79.symm {r r' : Row} (h : E79 r r') : E79 r' r := fun k hk => (h k hk).symm
theorem E79.trans {r r' r'' : Row} (h : E79 r r') (h' : E79 r' r'') : E79 r r'' := fun k hk => (h k hk).trans (h' k hk)
theorem tries_ok {μ : Mem} (hG : Gr μ) : ∃ ν, fX11_tries 492 μ = some ν ∧ RD 79 μ ν ∧ E79 (rwb ν 79) (rwb μ 0) ∧ ν.2.1 492 = μ.2.1 492 := by
  unfold fX11_tries
  obtain ⟨⟨j, M⟩, e, i1, i2, i3, i4⟩ := loop_k (S := Nat × Mem) (R := Option Mem)
    (fun n s => fX11_tries_2 n 492 (I s.1) s.2) (fun s => some s.2) 79
    (fun j s => s.1 = j ∧ RD 79 μ s.2 ∧ (∀ k, k < j → s.2.2.1 502 (79 + k) = μ.2.1 502 k) ∧ s.2.2.1 492 = μ.2.1 492)
    (by
      rintro n j ⟨j', M⟩ hj ⟨i1, i2, i3, i4⟩
      simp only at i1 i2 i3 i4
      subst i1
      have hGM : Gr M := hG.r i2.1.1 (by rw [i2.1.2.1])
      show ∃ s', fX11_tries_2 (n + 1) 492 (I j') M = _ ∧ _
      rw [fX11_tries_2, if_pos (show I j' < (79 : Int32) from (I_ltl (by omega) (by decide)).mpr hj), g_492_34 hGM, bs, bs, ld_502 (by omega), bs, l_addI, st_502 (by omega), bs, I_addl]
      refine ⟨(j' + 1, _), rfl, rfl, i2.trans (RD.row _ _ (by omega) (by omega)), ?_, ?_⟩
      · intro k hk
        show (sC M 502 _).2.1 502 (79 + k) = _
        rw [sC_s]
        by_cases e : k = j'
        · subst e
          rw [up_s]
          exact i2.2 _ (by omega)
        · rw [up_n _ _ (by omega)]
          exact i3 k (by omega)
      · show (sC M 502 _).2.1 492 = _
        rw [sC_n _ _ (by decide)]; exact i4)
    (by
      rintro n ⟨j', M⟩ ⟨i1, _⟩
      simp only at i1
      subst i1
      show fX11_tries_2 (n + 1) 492 (I 79) M = _
      rw [fX11_tries_2, if_neg (by decide)])
    79 fuel 0 (0, μ) rfl (by unfold fuel; omega) ⟨rfl, RD.refl 79 μ, fun k hk => absurd hk (Nat.not_lt_zero k), rfl⟩
  refine ⟨M, e, i2, ?_, i4⟩
  intro k hk
  show M.2.1 502 (79 + k) = μ.2.1 502 (0 + k)
  rw [i3 k hk, Nat.zero_add]
/-- the reference has tried n days, from the row r -/
def RR (C : Cel) (G Fd : List Itm) (dk : Nat → Bool) (r : Row) (n : Nat) (ν : Mem) : Prop := RC C ν ∧ RK G Fd ν ∧ ν.2.1 492 41 = -1 ∧ E79 (rwb ν 79) (dN C G Fd dk r n)
theorem RR.day {C : Cel} {G Fd : List Itm} {dk : Nat → Bool} {r : Row} {n : Nat} {ν : Mem} (h : RR C G Fd dk r n ν) (hr : RowOK C r) (hdk : ν.2.1 492 45 = if dk n = true then 1 else 0) :
    ∃ ξ, fX11_dayGoes 492 79 ν = some ξ ∧ RD 79 ν ξ ∧ RR C G Fd dk r (n + 1) ξ ∧ (∀ p, p < C.P → ξ.2.1 508 p = I (madeD C G (dk n) (dN C G Fd dk r n) p)) ∧ ξ.2.1 492 42 = cbits (cameD C G (dk n) (dN C G Fd dk r n)) C.P ∧ ξ.2.1 492 43 = cbits (loneD C G (dk n) (dN C G Fd dk r n)) C.P := by
  obtain ⟨h1, h2, h3, h4⟩ := h
  have hC := h1.2.1
  obtain ⟨ξ, e, d1, d2, d3, d4, d5⟩ := dayGoes_ok (b := 79) (dark := dk n) h1 h2 (by omega) (h4.symm.rowOK hC (dN_ok hC hr n)) h3 hdk
  refine ⟨ξ, e, d1, ⟨d1.rc h1, d1.rk h2, ?_, ?_⟩, ?_, ?_, ?_⟩
  · rw [d1.1.2.2.2 41 (by decide) (by decide)]; exact h3
  · rw [d2]; exact dayR_congr hC h4
  · intro p hp; rw [d3 p hp, madeD_congr hC h4]
  · rw [d4, cameD_congr hC h4]
  · rw [d5]; exact cbits_congr _ (fun p hp => loneD_congr hC h4 hp)
/-- what the reference's queries leave as it is -/
def LR : List Nat := [492, 502, 504, 505, 506, 507, 508, 509, 510, 511, 513, 514]
def FR (μ ν : Mem) : Prop := ν.1 = μ.1 ∧ ν.2.2 = μ.2.2 ∧ (∀ c, c ∉ LR → ν.2.1 c = μ.2.1 c) ∧ (∀ f, f ∉ [0, 41, 42, 43, 45, 53] → ν.2.1 492 f = μ.2.1 492 f) ∧ (∀ k, k < 79 → ν.2.1 502 k = μ.2.1 502 k)
theorem FR.refl (μ : Mem) : FR μ μ := ⟨rfl, rfl, fun _ _ => rfl, fun _ _ => rfl, fun _ _ => rfl⟩
theorem FR.trans {μ ν ξ : Mem} (h : FR μ ν) (h' : FR ν ξ) : FR μ ξ := ⟨h'.1.trans h.1, h'.2.1.trans h.2.1, fun c hc => (h'.2.2.1 c hc).trans (h.2.2.1 c hc), fun f hf => (h'.2.2.2.1 f hf).trans (h.2.2.2.1 f hf), fun k hk => (h'.2.2.2.2 k hk).trans (h.2.2.2.2 k hk)⟩
theorem RD.fr {μ ν : Mem} (h : RD 79 μ ν) : FR μ ν := by
  refine ⟨h.1.1, h.1.2.1, fun c hc => h.1.2.2.1 c (fun q => hc ?_), fun f hf => h.1.2.2.2 f ?_ ?_, fun k hk => h.2 k (by omega)⟩
  · revert q
    have : ∀ c ∈ ldR7, c ∈ LR := by decide
    exact this c
  · rintro rfl; exact hf (by decide)
  · rintro rfl; exact hf (by decide)
theorem FR.c {μ : Mem} {a : Nat} (g : Row) (h : a ∈ LR) (h1 : a ≠ 492) (h2 : a ≠ 502) : FR μ (sC μ a g) := ⟨rfl, rfl, fun c hc => sC_n μ g (fun e => hc (e ▸ h)), fun f _ => by rw [sC_n μ g (fun e => h1 e.symm)], fun k _ => by rw [sC_n μ g (fun e => h2 e.symm)]⟩
theorem FR.f {μ : Mem} {f : Nat} (v : Int32) (h : f ∈ [0, 41, 42, 43, 45, 53]) : FR μ (sC μ 492 (up (μ.2.1 492) f v)) := by
  refine ⟨rfl, rfl, fun c hc => sC_n μ _ (fun e => hc (e ▸ by decide)), fun g hg => ?_, fun k _ => by rw [sC_n μ _ (by decide)]⟩
  have e : g ≠ f := fun e => hg (by rw [e]; exact h)
  rw [sC_s, up_n _ _ e]
theorem FR.row {μ : Mem} {k : Nat} (v : Int32) (h : 79 ≤ k) : FR μ (sC μ 502 (up (μ.2.1 502) k v)) := by
  refine ⟨rfl, rfl, fun c hc => sC_n μ _ (fun e => hc (e ▸ by decide)), fun g hg => by rw [sC_n μ _ (by decide)], fun j hj => ?_⟩
  rw [sC_s, up_n _ _ (by omega)]
theorem FR.gr {μ ν : Mem} (h : FR μ ν) (hG : Gr μ) : Gr ν := hG.r h.1 (by rw [h.2.1])
theorem FR.rc {C : Cel} {μ ν : Mem} (h : FR μ ν) (hR : RC C μ) : RC C ν := hR.fr h.1 (by rw [h.2.1]) (h.2.2.2.1 1 (by decide)) (h.2.2.2.1 2 (by decide)) (h.2.2.1 493 (by decide))
theorem FR.rk {G Fd : List Itm} {μ ν : Mem} (h : FR μ ν) (hR : RK G Fd μ) : RK G Fd ν := by
  unfold RK
  rw [h.2.2.1 494 (by decide), h.2.2.2.1 3 (by decide), h.2.2.2.1 4 (by decide)]
  exact hR
