/-! THE CLASS: a day, the walking -/
def Lp : List Nat := [8, 11, 22, 25, 455, 456, 457, 458, 459, 460, 465, 466, 467]
def L2p : List Nat := [456, 461, 462]
theorem Lp_ce : ∀ c ∈ [3, 4, 5, 6, 7, 9, 10, 17, 18, 19, 20, 21, 23, 24], c ∉ Lp := by decide
theorem CP.to {C : Cel} {G Fd : List Itm} {pc : Nat → Int32} {r r' : Row} {k : Nat} {μ ν : Mem} (h : CP C G Fd pc r k μ) (hf : FrI Lp L2p μ ν) (hS : SH C r' 456 ν) (hp : ∀ p, p < C.P → r' (73 + p) = r (73 + p)) : CP C G Fd pc r' k ν := by
  obtain ⟨hG, hC, hk, hcel, hE, _, hpa⟩ := h
  refine ⟨hf.gr hG, hC, hk, by rw [hf.g]; exact hcel, hE.fl hk hf Lp_ce (by decide), hS, ?_⟩
  intro p hp2
  rw [hf.2.2.1 464 (by decide), hp p hp2]
  exact hpa p hp2
theorem walk1_lo {C : Cel} {G : List Itm} {dark : Bool} {p : Nat} {r : Row} (hp : p < 6) {k : Nat} (hk : k < 55 ∨ 67 ≤ k) : (walk1 C G dark p r).1 k = r k := by
  unfold walk1
  split
  · rfl
  · split
    · show up (up r (55 + p) _) (61 + p) _ k = r k
      rw [up_n _ _ (by omega), up_n _ _ (by omega)]
    · show up r (55 + p) _ k = r k
      rw [up_n _ _ (by omega)]
theorem walkA_lo {C : Cel} {G : List Itm} {dark : Bool} {r : Row} {k : Nat} (hk : k < 55 ∨ 67 ≤ k) : ∀ j, j ≤ 6 → (walkA C G dark r j).1 k = r k := by
  intro j
  induction j with
  | zero => intro _; rfl
  | succ j ih =>
    intro hj
    rw [walkA_s]
    show (walk1 C G dark j (walkA C G dark r j).1).1 k = r k
    rw [walk1_lo (by omega) hk, ih (by omega)]
theorem GD.congr {C : Cel} {r r' : Row} {g : Nat} {μ : Mem} (hC : C.ok) (h : GD C r g μ) (he : ∀ k, k < 55 → r' k = r k) : GD C r' g μ := by
  unfold GD
  rw [wh_congr (r' := r) hC (fun k _ hk => he k (by omega)), stl_congr (r' := r) (fun k _ hk => he k hk)]
  exact h
theorem pass50 {C : Cel} {G Fd : List Itm} {pc : Nat → Int32} {r : Row} {k : Nat} {μ : Mem} (h : CP C G Fd pc r k μ) {p : Nat} (hp : p < C.P) (lt : Int32) (K : Nat → Int32 → Int32 → Mem → Option Mem) :
    fX2_pass_50 K 455 lt (I p) μ = K 455 lt (I (p + 1)) (if r (61 + p) ≠ -1 ∧ r (61 + p) = r (55 + p) then sC (sC μ 459 (up (μ.2.1 459) p (-1))) 466 (up (μ.2.1 466) p (μ.2.1 466 p + 1)) else μ) := by
  have hG := h.1
  have hC := h.2.1
  have hP := hC.2.1
  have hS := h.2.2.2.2.2.1
  have e1 : μ.2.1 458 p = r (55 + p) := by
    have := hS.2.2.2.2.1 p (by omega)
    rw [if_pos hp] at this
    exact this
  have e2 : μ.2.1 459 p = r (61 + p) := by
    have := hS.2.2.2.2.2.1 p (by omega)
    rw [if_pos hp] at this
    exact this
  unfold fX2_pass_50
  rw [g_455_0 hG, bs, hG.sent a456, bs, ld_459 (by omega), bs, e2]
  by_cases q : r (61 + p) = -1
  · rw [if_pos q, if_neg (fun t => t.1 q), I_addl]
  · rw [if_neg q, bs, hG.sent a456, bs, ld_459 (by omega), bs, bs, hG.at a456, bs, ld_458 (by omega), bs, e2, e1]
    by_cases q2 : r (61 + p) = r (55 + p)
    · rw [if_pos q2, if_pos ⟨q, q2⟩, bs, hG.sent a456, bs, st_459 (by omega), bs, gC, g_455_4 hG, bs, ld_466 (by omega), bs, st_466 (by omega), bs, I_addl, sC_n _ _ (show (466 : Nat) ≠ 459 by decide)]
    · rw [if_neg q2, if_neg (fun t => q2 t.2), I_addl]
theorem Lw_Lp : ∀ c ∈ Lw, c ∈ Lp := by decide
theorem pass_one {C : Cel} {G Fd : List Itm} {pc : Nat → Int32} {r : Row} {k : Nat} {μ : Mem} (h : CP C G Fd pc r k μ) (hr : RowOK C r) (hg : GD C r 461 μ) {p n : Nat} (hp : p < C.P) (dark : Bool) {lt : Int32} (hlt : lt = if dark = true then 0 else 1) :
    ∃ ν, fX2_pass_17 (n + 1) 455 lt (I p) μ = fX2_pass_17 n 455 lt (I (p + 1)) ν ∧ FrI Lp L2p μ ν ∧ SH C (walk1 C G dark p r).1 456 ν ∧ ν.2.2.1 461 = μ.2.2.1 461 ∧ ν.2.1 465 = up (μ.2.1 465) p (μ.2.1 465 p + I (walk1 C G dark p r).2.1) ∧ ν.2.1 466 = up (μ.2.1 466) p (μ.2.1 466 p + if (walk1 C G dark p r).2.2 = true then 1 else 0) ∧ ν.2.1 455 = μ.2.1 455 := by
  have hG := h.1
  have hC := h.2.1
  have hP := hC.2.1
  have hS := h.2.2.2.2.2.1
  have hE := h.2.2.2.2.1
  have hcel := h.2.2.2.1
  obtain ⟨hs, ha, ht⟩ := hr
  obtain ⟨x, hx1, hx2⟩ := ha p hp
  have hx48 := there_lt hC hx2
  have e2 : μ.2.1 459 p = r (61 + p) := by
    have := hS.2.2.2.2.2.1 p (by omega)
    rw [if_pos hp] at this
    exact this
  have hpeo : (I p < μ.2.1 k 1) = True := by rw [hE.2.1, I_lt (by omega) (by omega)]; exact eq_true hp
  conv => enter [1, ν, 1]; lhs; rw [fX2_pass_17]
  rw [hcel]
  simp only [bs, hpeo, if_true]
  by_cases q : r (61 + p) = -1
  · -- nobody walks
    have hw : walk1 C G dark p r = (r, 0, false) := by unfold walk1; rw [if_pos q]
    rw [hw]
    have e50 := pass50 h hp lt (fX2_pass_17 n)
    rw [if_neg (fun t => t.1 q)] at e50
    refine ⟨μ, ?_, FrI.refl _ _ _, hS, rfl, ?_, ?_, rfl⟩
    · cases dark with
      | true =>
        rw [if_pos (show lt = 0 from hlt)]
        exact e50
      | false =>
        rw [if_neg (show ¬ lt = 0 by rw [hlt]; decide), g_455_0 hG, bs, hG.sent a456, bs, ld_459 (by omega), bs, e2, if_pos q]
        exact e50
    · show μ.2.1 465 = up (μ.2.1 465) p (μ.2.1 465 p + 0)
      rw [Int32.add_zero, up_id]
    · show μ.2.1 466 = up (μ.2.1 466) p (μ.2.1 466 p + 0)
      rw [Int32.add_zero, up_id]
  · obtain ⟨to, ht1, ht2⟩ : ∃ x, r (61 + p) = I x ∧ there C x = true := by
      rcases ht p hp with q1 | q1
      · exact absurd q1 q
      · exact q1
    have hto48 := there_lt hC ht2
    have hw1 : walk1 C G dark p r = if (wres C G dark r p to x).1 = to then (up (up r (55 + p) (I (wres C G dark r p to x).1)) (61 + p) (-1), (wres C G dark r p to x).2, true) else (up r (55 + p) (I (wres C G dark r p to x).1), (wres C G dark r p to x).2, false) := by
      unfold walk1
      rw [if_neg q, hx1, ht1, ix_of hx48, ix_of hto48]
    -- after the walk, in the light or not
    have mid : ∃ M, (if lt = 0 then fX2_pass_50 (fX2_pass_17 n) 455 lt (I p) μ else (gR μ 455 0 19).bind fun a4 => (gR μ a4 5 0).bind fun a7 => (ldI μ a7 (I p)).bind fun x10 => if x10 = (-1 : Int32) then fX2_pass_50 (fX2_pass_17 n) 455 lt (I p) μ else (fX2_walk 455 (I p) μ).bind fun μ13 => fX2_pass_50 (fX2_pass_17 n) 455 lt (I p) μ13) = fX2_pass_50 (fX2_pass_17 n) 455 lt (I p) M ∧ FrI Lw [462] μ M ∧ M.2.1 458 = up (μ.2.1 458) p (I (wres C G dark r p to x).1) ∧ M.2.1 465 = up (μ.2.1 465) p (μ.2.1 465 p + I (wres C G dark r p to x).2) := by
      cases dark with
      | true =>
        have hwr : wres C G true r p to x = (x, 0) := by unfold wres; rw [if_pos rfl]
        rw [hwr, if_pos (show lt = 0 from hlt)]
        refine ⟨μ, rfl, FrI.refl _ _ _, ?_, ?_⟩
        · show μ.2.1 458 = up (μ.2.1 458) p (I x)
          have := hS.2.2.2.2.1 p (by omega)
          rw [if_pos hp, hx1] at this
          rw [← this]
          exact (up_id _ _).symm
        · show μ.2.1 465 = up (μ.2.1 465) p (μ.2.1 465 p + 0)
          rw [Int32.add_zero, up_id]
      | false =>
        obtain ⟨M, w1, w2, w3, w4⟩ := cwalk_ok h hs hg hp hx1 hx2 ht1 ht2
        rw [if_neg (show ¬ lt = 0 by rw [hlt]; decide), g_455_0 hG, bs, hG.sent a456, bs, ld_459 (by omega), bs, e2, if_neg q, w1, bs]
        exact ⟨M, rfl, w2, w3, w4⟩
    obtain ⟨M, m1, m2, m3, m4⟩ := mid
    rw [m1]
    have m2' : FrI Lp L2p μ M := m2.mono Lw_Lp (by decide)
    have hSM : SH C (up r (55 + p) (I (wres C G dark r p to x).1)) 456 M := hS.at hC hp (m2.2.2.1 456 (by decide)) (m2.2.2.2 456 (by decide)) (m2.2.2.1 457 (by decide)) m3 (m2.2.2.1 459 (by decide)) (m2.2.2.1 460 (by decide))
    have hCM : CP C G Fd pc (up r (55 + p) (I (wres C G dark r p to x).1)) k M := h.to m2' hSM (fun p' hp' => by rw [up_n _ _ (by omega)])
    rw [pass50 hCM hp]
    have hwt := wres_there (G := G) (dark := dark) (p := p) hC hs ht2 hx2
    have hwt48 := there_lt hC hwt
    have c1 : up r (55 + p) (I (wres C G dark r p to x).1) (61 + p) = I to := by rw [up_n _ _ (by omega)]; exact ht1
    rw [c1, up_s, hw1]
    have hl461 : M.2.2.1 461 = μ.2.2.1 461 := m2.2.2.2 461 (by decide)
    by_cases q3 : (wres C G dark r p to x).1 = to
    · rw [if_pos ⟨I_m1 (by omega), by rw [q3]⟩, if_pos q3]
      refine ⟨_, rfl, (m2'.trans (FrI.c M _ (by decide))).trans (FrI.c _ _ (by decide)), ?_, hl461, ?_, ?_, ?_⟩
      · exact hSM.sent hC hp (by rw [sC_n _ _ (by decide), sC_n _ _ (by decide)]) rfl (by rw [sC_n _ _ (by decide), sC_n _ _ (by decide)]) (by rw [sC_n _ _ (by decide), sC_n _ _ (by decide)]) (by rw [sC_n _ _ (by decide), sC_s]) (by rw [sC_n _ _ (by decide), sC_n _ _ (by decide)])
      · rw [sC_n _ _ (by decide), sC_n _ _ (by decide)]; exact m4
      · rw [sC_s, m2.2.2.1 466 (by decide)]; rfl
      · rw [sC_n _ _ (by decide), sC_n _ _ (by decide)]; exact m2.2.2.1 455 (by decide)
    · rw [if_neg (fun t => q3 ((I_inj (by omega) (by omega)).mp t.2).symm), if_neg q3]
      refine ⟨M, rfl, m2', hSM, hl461, m4, ?_, m2.2.2.1 455 (by decide)⟩
      rw [m2.2.2.1 466 (by decide)]
      show μ.2.1 466 = up (μ.2.1 466) p (μ.2.1 466 p + 0)
      rw [Int32.add_zero, up_id]
