/-! THE CELLAR: the class's read, the reference's, from the first token to the last -/
theorem gR_set {μ : Mem} {a f t v : Nat} (h : μ.2.2.2 a f = some v) (h2 : (kd v).1 = t) : gR μ a f t = some v := by
  unfold gR
  rw [h]
  simp [knd, h2]
section Rd
variable {B : Nat → Nat} {n q : Nat} {μ0 μ ν0 ν : Mem} {k : Nat} {C : Cel} {G Fd : List Itm} {pc : Nat → Int32} {r : Row}
theorem read_ok (hG : Gr μ) (hn : n ≤ 700) (hB : ∀ i, i < n → B i < 256) (hq : q = 3 ∨ q = 17) (hT : ∀ i, i < n → μ.2.1 1 i = I (B i)) : ∃ X, X.1 = μ.1 ∧ (∀ c f, c ≠ 31 → X.2.2.2 c f = μ.2.2.2 c f) ∧ (∀ c, c ≠ 31 → X.2.1 c = μ.2.1 c) ∧ X.2.2.1 = μ.2.2.1 ∧ X.2.1 31 1 = -1 ∧ ∀ ν0, LOUT B n q X ν0 0 C00 [] [] r00 (fX6_read 31 1 (I n) q μ) := by
  have k1 : Int32.ofNat (kd 1).2 = I 700 := by decide +kernel
  have hkq : (kd q).1 = 11 := by rcases hq with rfl | rfl <;> decide +kernel
  have hk1 : (kd 1).1 = 0 := by decide +kernel
  have e0 : fX6_read 31 1 (I n) q μ = (gR (sR (sC (sR μ 31 2 (some 1)) 31 (up (up (up (up (μ.2.1 31) 3 (I n)) 5 0) 0 0) 1 (-1))) 31 8 (some q)) 31 8 11).bind fun a19 => (fX1_empty a19 (sR (sC (sR μ 31 2 (some 1)) 31 (up (up (up (up (μ.2.1 31) 3 (I n)) 5 0) 0 0) 1 (-1))) 31 8 (some q))).bind fun μ23 => (fX6_advance 31 μ23).bind fun μ27 => fX6_read_49 fuel 31 (0 : Int32) μ27 := by
    unfold fX6_read
    rw [bs, bs, bs, bs, bs, bs, k1, (mn_I (by omega) (by omega)).1, Nat.min_eq_left hn, sI_C, sI_C, sI_C, sI_C]
    simp only [sC_s, sC_C, sR_i]
  have hGX : Gr (sR (sC (sR μ 31 2 (some 1)) 31 (up (up (up (up (μ.2.1 31) 3 (I n)) 5 0) 0 0) 1 (-1))) 31 8 (some q)) := ((hG.s31 _ _).sC _ _).s31 _ _
  have x8 : (sR (sC (sR μ 31 2 (some 1)) 31 (up (up (up (up (μ.2.1 31) 3 (I n)) 5 0) 0 0) 1 (-1))) 31 8 (some q)).2.2.2 31 8 = some q := sR_rr _ _ _ _
  have x2 : (sR (sC (sR μ 31 2 (some 1)) 31 (up (up (up (up (μ.2.1 31) 3 (I n)) 5 0) 0 0) 1 (-1))) 31 8 (some q)).2.2.2 31 2 = some 1 := by
    rw [sR_rn _ _ _ _ (by omega)]
    exact sR_rr μ 31 2 (some 1)
  have xr : ∀ c f, c ≠ 31 → (sR (sC (sR μ 31 2 (some 1)) 31 (up (up (up (up (μ.2.1 31) 3 (I n)) 5 0) 0 0) 1 (-1))) 31 8 (some q)).2.2.2 c f = μ.2.2.2 c f := by
    intro c f hc
    rw [sR_rn _ _ _ _ (fun z => hc z.1)]
    exact sR_rn μ 31 2 (some 1) (fun z => hc z.1)
  have xi : ∀ c, c ≠ 31 → (sR (sC (sR μ 31 2 (some 1)) 31 (up (up (up (up (μ.2.1 31) 3 (I n)) 5 0) 0 0) 1 (-1))) 31 8 (some q)).2.1 c = μ.2.1 c := by
    intro c hc
    rw [sR_i, sC_n _ _ hc, sR_i]
  have x31 : (sR (sC (sR μ 31 2 (some 1)) 31 (up (up (up (up (μ.2.1 31) 3 (I n)) 5 0) 0 0) 1 (-1))) 31 8 (some q)).2.1 31 = up (up (up (up (μ.2.1 31) 3 (I n)) 5 0) 0 0) 1 (-1) := by
    rw [sR_i, sC_s]
  have xl : (sR (sC (sR μ 31 2 (some 1)) 31 (up (up (up (up (μ.2.1 31) 3 (I n)) 5 0) 0 0) 1 (-1))) 31 8 (some q)).2.2.1 = μ.2.2.1 := rfl
  have x1 : (sR (sC (sR μ 31 2 (some 1)) 31 (up (up (up (up (μ.2.1 31) 3 (I n)) 5 0) 0 0) 1 (-1))) 31 8 (some q)).1 = μ.1 := rfl
  generalize sR (sC (sR μ 31 2 (some 1)) 31 (up (up (up (up (μ.2.1 31) 3 (I n)) 5 0) 0 0) 1 (-1))) 31 8 (some q) = X at e0 hGX x8 x2 xr xi x31 xl x1
  obtain ⟨Y, y1, y2, y3, y4⟩ := emp1 hq hGX (fun _ => 0)
  have hGY := y2.gr hGX
  have hTY : TX B n Y := ⟨gR_set (by rw [y2.2.1]; exact x2) hk1, fun i hi => by rw [y2.2.2.1 1 (by omega), xi 1 (by decide)]; exact hT i hi⟩
  have y31 : Y.2.1 31 = up (up (up (up (μ.2.1 31) 3 (I n)) 5 0) 0 0) 1 (-1) := by rw [y2.2.2.1 31 (by omega)]; exact x31
  obtain ⟨g, z1, z2, z3⟩ := advance_ok hn hB hTY (i := 0) (by omega) (by rw [y31]; rfl) (by rw [y31]; rfl)
  rw [e0, gR_set x8 hkq, bs, y1, bs, z1, bs]
  refine ⟨X, x1, xr, xi, xl, by rw [x31]; rfl, fun ν0 => ?_⟩
  refine lines_ok hn hB hq n 0 0 C00 [] [] (fun _ => 0) r00 _ fuel (by omega) (by unfold fuel; omega) (by omega) ⟨⟨hTY.c g, hGY.sC _ _, by rw [sC_s]; exact z2, gR_set (by show Y.2.2.2 31 8 = _; rw [y2.2.1]; exact x8) hkq, ?_⟩, ?_, y3.c31 hq g, y4.c g (by omega), AI0 _, by omega⟩
  · refine ⟨y2.1, fun c f hc => ?_, fun c hc hd => ?_, fun c hc => ?_, NF.eq ?_ ?_⟩
    · show Y.2.2.2 c f = _
      rw [y2.2.1]
    · rw [sC_n _ _ hc, y2.2.2.1 c hd]
    · show Y.2.2.1 c = _
      rw [y2.2.2.2 c hc]
    · rw [sC_s, z3 0 (by omega), y31, x31]
    · rw [sC_s, z3 1 (by omega), y31, x31]
  · rw [sC_s, z3 0 (by omega), y31]; rfl
theorem r79 : ∀ f i m X, i + f = 79 → f < m → Gr X → ∃ Y, fX11_cellar_79 m 492 (I i) X = fX11_cellar_79 1 492 (I 79) Y ∧ FrO 498 499 X Y ∧ (∀ j, i ≤ j → j < 79 → Y.2.1 498 j = 0) ∧ (∀ j, j < i → Y.2.1 498 j = X.2.1 498 j) ∧ Y.2.2.1 = X.2.2.1 := by
  intro f
  induction f with
  | zero =>
    intro i m X h1 h2 hG
    obtain ⟨m, rfl⟩ : ∃ z, m = z + 1 := ⟨m - 1, by omega⟩
    refine ⟨X, ?_, FrO.refl _ _ _, fun j h3 h4 => by omega, fun j h3 => rfl, rfl⟩
    rw [show i = 79 by omega, fX11_cellar_79, fX11_cellar_79]
    simp only [if_neg (show ¬ I 79 < (79 : Int32) by decide)]
  | succ f ih =>
    intro i m X h1 h2 hG
    obtain ⟨m, rfl⟩ : ∃ z, m = z + 1 := ⟨m - 1, by omega⟩
    obtain ⟨Y, e1, e2, e3, e4, e5⟩ := ih (i + 1) m (sC X 498 (up (X.2.1 498) i 0)) (by omega) (by omega) (hG.sC _ _)
    refine ⟨Y, ?_, (FrO.c _ (by omega)).trans e2, ?_, ?_, e5⟩
    · rw [fX11_cellar_79, if_pos (show I i < (79 : Int32) by rw [show (79 : Int32) = I 79 from rfl, I_lt (by omega) (by omega)]; omega), g_492_30 hG, bs, st_498 (by omega), bs, show I i + (1 : Int32) = I (i + 1) from I_add i 1]
      exact e1
    · intro j h3 h4
      by_cases hj : j = i
      · rw [e4 j (by omega), sC_s, hj, up_s]
      · exact e3 j (by omega) h4
    · intro j h3
      rw [e4 j (by omega), sC_s, up_n _ _ (by omega)]
/-- the reference begins to read -/
theorem rread_ok (hG : Gr ν0) (hn : n ≤ 700) (hB : ∀ i, i < n → B i < 256) (hT : ∀ i, i < n → ν0.2.1 495 i = I (B i)) (h12 : ν0.2.1 492 12 = I n) (h13 : ν0.2.1 492 13 = 0) (h9 : ν0.2.1 492 9 = 0) (h20 : ν0.2.1 492 20 = 0) (h21 : ν0.2.1 492 21 = 0) (h22 : ν0.2.1 492 22 = -1) (h23 : ν0.2.1 492 23 = -1) : ∃ ν, fX11_cellar_79 fuel 492 0 ν0 = fX11_cellar_107 fuel 492 ν ∧ RLs B n ν0 0 C00 [] [] r00 ν ∧ ν.2.1 492 10 = ν0.2.1 492 10 := by
  obtain ⟨Y, e1, e2, e3, _, e5⟩ := r79 79 0 fuel ν0 (by omega) (by unfold fuel; omega) hG
  have hGY := e2.gr hG
  have y492 : Y.2.1 492 = ν0.2.1 492 := e2.2.2.1 492 (by omega)
  have hX : RX B n (sC Y 492 (up (Y.2.1 492) 24 0)) := ⟨hGY.sC _ _, fun i hi => by rw [sC_n _ _ (by decide), e2.2.2.1 495 (by omega)]; exact hT i hi⟩
  obtain ⟨g, h, u1, u2, u3, u4⟩ := goes_ok hn hB hX (i := 0) (by omega) (by rw [sC_s, up_n _ _ (by decide), y492]; exact h12) (by rw [sC_s, up_n _ _ (by decide), y492]; exact h13)
  rw [sC_s, y492] at u3
  have hf : ∀ f, f < 13 ∨ 19 ≤ f → f ≠ 24 → g f = ν0.2.1 492 f := fun f h1 h2 => by rw [u3 f h1, up_n _ _ h2]
  refine ⟨rM (sC Y 492 (up (Y.2.1 492) 24 0)) g h, ?_, ⟨⟨⟨rM_gr hX.1 _ _, fun i hi => by rw [rM_n _ _ _ (by decide)]; exact hX.2 i hi⟩, by rw [rM_g, rM_h]; exact u2, ?_⟩, by rw [rM_g, hf 9 (by omega) (by decide)]; exact h9, ?_⟩, ?_⟩
  · refine Eq.trans e1 ?_
    rw [fX11_cellar_79, if_neg (by decide), bs, sI_C, u1, bs]
  · refine ⟨e2.1, e2.2.1, fun c hc hd => ?_, fun c hc => ?_, fun f hf' => ?_, NF.eq (by rw [rM_g, hf 9 (by omega) (by decide)]) (by rw [rM_g, hf 10 (by omega) (by decide)])⟩
    · rw [rM_n _ _ _ hc, sC_n _ _ hc, e2.2.2.1 c (by omega)]
    · rw [show (rM (sC Y 492 (up (Y.2.1 492) 24 0)) g h).2.2.1 c = Y.2.2.1 c from sLC_n _ _ hc]
      rw [e5]
    · rw [rM_g]
      exact hf f (by omega) (by omega)
  · refine ⟨by rw [rM_g, hf 20 (by omega) (by decide)]; exact h20, by rw [rM_g, hf 21 (by omega) (by decide)]; exact h21, fun d hd => absurd hd (Nat.not_lt_zero d), fun j hj => ?_, 0, by rw [rM_g, u3 24 (by omega), up_s]; rfl, by omega, Or.inl ⟨rfl, by rw [rM_g, hf 22 (by omega) (by decide)]; exact h22⟩, Or.inl ⟨rfl, by rw [rM_g, hf 23 (by omega) (by decide)]; exact h23⟩⟩
    rw [rM_n _ _ _ (by decide), sC_n _ _ (by decide), e3 j (by omega) hj]; rfl
  · rw [rM_g, hf 10 (by omega) (by decide)]
/-- the reference's end: refused -/
theorem rend_f {w : Int32} {p : Nat} (hw : w ≠ 0) (h : RFl B n ν0 w p ν) : fX11_cellar_107 1 492 ν = some (w, sC ν 496 (up (ν.2.1 496) 0 (ν.2.1 496 0 + 1))) := by
  rw [fX11_cellar_107, if_pos (h.good hw), if_pos (h.good hw), g_492_11 h.1.1, bs, show ldI ν 496 (0 : Int32) = some (ν.2.1 496 0) from ld_496 (n := 0) (by omega), bs, show stI ν 496 (0 : Int32) _ = some _ from st_496 (n := 0) (by omega), bs, sC_n _ _ (by decide), h.2.2.1]
theorem c208 : ∀ f i m X, i + f = 79 → f < m → Gr X → fX11_cellar_208 m 492 (I i) (sC X 502 (cpF i (X.2.1 498) (X.2.1 502))) = some (0, sC (sC X 502 (cpF 79 (X.2.1 498) (X.2.1 502))) 492 (up (up (up (X.2.1 492) 36 0) 49 0) 54 0)) := by
  intro f
  induction f with
  | zero =>
    intro i m X h1 h2 hG
    obtain ⟨m, rfl⟩ : ∃ z, m = z + 1 := ⟨m - 1, by omega⟩
    rw [show i = 79 by omega, fX11_cellar_208, if_neg (show ¬ I 79 < (79 : Int32) by decide), bs, bs, bs, sI_C, sI_C, sI_C]
    simp only [sC_s, sC_C, sC_n _ _ (show (492 : Nat) ≠ 502 by decide)]
  | succ f ih =>
    intro i m X h1 h2 hG
    obtain ⟨m, rfl⟩ : ∃ z, m = z + 1 := ⟨m - 1, by omega⟩
    rw [fX11_cellar_208, if_pos (show I i < (79 : Int32) by rw [show (79 : Int32) = I 79 from rfl, I_lt (by omega) (by omega)]; omega), g_492_34 (hG.sC _ _), bs, g_492_30 (hG.sC _ _), bs, ld_498 (by omega), bs, st_502 (by omega), bs, show I i + (1 : Int32) = I (i + 1) from I_add i 1]
    rw [sC_s, sC_C, sC_n _ _ (show (498 : Nat) ≠ 502 by decide), cpF_s]
    exact ih (i + 1) m X (by omega) (by omega) hG
/-- the reference's end: taken -/
theorem rend_ok (h : RLs B n ν0 k C G Fd r ν) (h0 : tkS B n (Pq B n k) = 0) : fX11_cellar_107 1 492 ν = some (0, sC (sC (sC (sC (sC ν 492 (up (up (up (up (ν.2.1 492) 1 (I C.D)) 2 (I C.P)) 3 (ν.2.1 492 22)) 4 (ν.2.1 492 23))) 493 (cpF 6 (ν.2.1 497) (ν.2.1 493))) 494 (cpF 1400 (ν.2.1 499) (ν.2.1 494))) 502 (cpF 79 (ν.2.1 498) (ν.2.1 502))) 492 (up (up (up (up (up (up (up (ν.2.1 492) 1 (I C.D)) 2 (I C.P)) 3 (ν.2.1 492 22)) 4 (ν.2.1 492 23)) 36 0) 49 0) 54 0)) := by
  have h14 : ν.2.1 492 14 = 0 := by rw [h.1.2.1.2.2.1, h0]; rfl
  have hG := h.1.1.1
  rw [fX11_cellar_107, if_neg (goodL h.2.1), if_pos h14, if_neg (goodL h.2.1), bs, bs, bs, bs, sI_C, sI_C, sI_C, sI_C]
  simp only [sC_s, sC_C]
  rw [up_n _ _ (show (21 : Nat) ≠ 1 by decide), up_n _ _ (show (22 : Nat) ≠ 2 by decide), up_n _ _ (show (22 : Nat) ≠ 1 by decide), up_n _ _ (show (23 : Nat) ≠ 3 by decide), up_n _ _ (show (23 : Nat) ≠ 2 by decide), up_n _ _ (show (23 : Nat) ≠ 1 by decide), h.2.2.1, h.2.2.2.1]
  generalize hg : up (up (up (up (ν.2.1 492) 1 (I C.D)) 2 (I C.P)) 3 (ν.2.1 492 22)) 4 (ν.2.1 492 23) = g
  have hG1 := hG.sC 492 g
  rw [g_492_29 hG1, bs, g_492_5 hG1, bs, copies_ok kd_497 kd_493 (by omega) (by decide), bs]
  have hG2 := hG1.sC 493 (cpF 6 ((sC ν 492 g).2.1 497) ((sC ν 492 g).2.1 493))
  rw [g_492_31 hG2, bs, g_492_6 hG2, bs, copies_ok kd_499 kd_494 (by omega) (by decide), bs]
  have hG3 := hG2.sC 494 (cpF 1400 ((sC (sC ν 492 g) 493 (cpF 6 ((sC ν 492 g).2.1 497) ((sC ν 492 g).2.1 493))).2.1 499) ((sC (sC ν 492 g) 493 (cpF 6 ((sC ν 492 g).2.1 497) ((sC ν 492 g).2.1 493))).2.1 494))
  have := c208 79 0 fuel _ (by omega) (by unfold fuel; omega) hG3
  rw [cpF_0, sC_same] at this
  refine Eq.trans this ?_
  simp only [sC_n _ _ (show (497 : Nat) ≠ 492 by decide), sC_n _ _ (show (493 : Nat) ≠ 492 by decide), sC_n _ _ (show (499 : Nat) ≠ 492 by decide), sC_n _ _ (show (499 : Nat) ≠ 493 by decide), sC_n _ _ (show (494 : Nat) ≠ 492 by decide), sC_n _ _ (show (494 : Nat) ≠ 493 by decide), sC_n _ _ (show (498 : Nat) ≠ 492 by decide), sC_n _ _ (show (498 : Nat) ≠ 493 by decide), sC_n _ _ (show (498 : Nat) ≠ 494 by decide), sC_n _ _ (show (502 : Nat) ≠ 492 by decide), sC_n _ _ (show (502 : Nat) ≠ 493 by decide), sC_n _ _ (show (502 : Nat) ≠ 494 by decide), sC_n _ _ (show (492 : Nat) ≠ 493 by decide), sC_n _ _ (show (492 : Nat) ≠ 494 by decide), sC_s]
end Rd
