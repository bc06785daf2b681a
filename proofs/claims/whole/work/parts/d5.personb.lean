/-! LINES: a person -/
section Pb
variable {B : Nat → Nat} {n q : Nat} {μ0 μ ν0 ν : Mem} {k : Nat} {C : Cel} {G Fd : List Itm} {pc : Nat → Int32} {r : Row}
def Cp (C : Cel) : Cel := (C.D, C.P + 1, C.z)
def rP (C : Cel) (r : Row) (x pv : Nat) (v : Int32) : Row := up (up (up r (55 + C.P) (I x)) (73 + C.P) (I pv)) (61 + C.P) v
theorem rP_lo {x pv : Nat} {v : Int32} {j : Nat} (hP : C.P < 6) (hj : j < 55) : rP C r x pv v j = r j := by
  unfold rP
  rw [up_n _ _ (by omega), up_n _ _ (by omega), up_n _ _ (by omega)]
theorem AI.pers (hA : AI C pc r) (hP : C.P < 6) {x pv : Nat} {v : Int32} (hx : there C x = true) (hv : v = -1 ∨ ∃ y, v = I y ∧ there C y = true) : AI (Cp C) (up pc C.P (I pv)) (rP C r x pv v) := by
  obtain ⟨⟨c1, c2, c3⟩, ⟨⟨g1, g2, g3⟩, g4, g5, g6⟩, g7⟩ := hA
  have es : stl (rP C r x pv v) = stl r := stl_congr (fun k _ hk => rP_lo hP hk)
  refine ⟨⟨c1, by show C.P + 1 ≤ 6; omega, c3⟩, ⟨⟨?_, ?_, ?_⟩, ?_, ?_, ?_⟩, ?_⟩
  · intro y hy
    rw [es] at hy
    exact g1 y hy
  · intro p hp
    by_cases e : p = C.P
    · refine ⟨x, ?_, hx⟩
      unfold rP
      rw [e, up_n _ _ (by omega), up_n _ _ (by omega), up_s]
    · obtain ⟨y, y1, y2⟩ := g2 p (by have : p < C.P + 1 := hp; omega)
      refine ⟨y, ?_, y2⟩
      have : p < C.P + 1 := hp
      unfold rP
      rw [up_n _ _ (by omega), up_n _ _ (by omega), up_n _ _ (by omega)]
      exact y1
  · intro p hp
    have hp' : p < C.P + 1 := hp
    by_cases e : p = C.P
    · unfold rP
      rw [e, up_s]
      exact hv
    · unfold rP
      rw [up_n _ _ (by omega), up_n _ _ (by omega), up_n _ _ (by omega)]
      exact g3 p (by omega)
  · intro y hy hno
    rw [rP_lo hP (by omega)]
    exact g4 y hy hno
  · intro p hp
    have hp' : p < C.P + 1 := hp
    by_cases e : p = C.P
    · unfold rP
      rw [e, up_s, up_n _ _ (by omega), up_s]
    · unfold rP
      rw [up_n _ _ e, up_n _ _ (by omega), up_n _ _ (by omega), up_n _ _ (by omega)]
      exact g5 p (by omega)
  · intro d hd p hp
    rw [rP_lo hP (by omega)]
    exact g6 d hd p hp
  · intro p hp
    unfold rP
    rw [up_n _ _ (by omega), up_n _ _ (by omega), up_n _ _ (by omega)]
    exact g7 p hp
theorem pers_C (hq : q = 3 ∨ q = 17) (hP : C.P < 6) (h : CLs B n q μ0 k C G Fd pc r μ) {μF : Mem} {x pv : Nat} {v : Int32} (e0 : μF.2.1 q = up (μ.2.1 q) 1 (I (C.P + 1))) (e2 : μF.2.1 (q + 2) = up (μ.2.1 (q + 2)) C.P (I pv)) (e11 : μF.2.1 (q + 11) = up (μ.2.1 (q + 11)) C.P (I x)) (e12 : μF.2.1 (q + 12) = up (μ.2.1 (q + 12)) C.P v) (eo : ∀ c, q ≤ c → c < q + 14 → c ≠ q → c ≠ q + 2 → c ≠ q + 11 → c ≠ q + 12 → μF.2.1 c = μ.2.1 c) (el : ∀ c, q ≤ c → c < q + 14 → μF.2.2.1 c = μ.2.2.1 c) : CE (Cp C) G Fd (up pc C.P (I pv)) q μF ∧ SH (Cp C) (rP C r x pv v) (q + 9) μF := by
  obtain ⟨hb, h0, ⟨a1, a2, a3, a4, a5, a6, a7, a8, a9, a10, a11⟩, ⟨b0, b1, b2, b3, b4, b5, b6⟩, hA, hkn⟩ := h
  have g7 := hA.2.2
  have hC := hA.1
  constructor
  · refine ⟨?_, ?_, ?_, ?_, ?_, ?_, ?_, ?_, ?_, a10, a11⟩
    · rw [e0, up_n _ _ (by decide)]; exact a1
    · rw [e0, up_s]; rfl
    · intro y; rw [el q (by omega) (by omega)]; exact a3 y
    · intro d hd; rw [eo (q + 1) (by omega) (by omega) (by omega) (by omega) (by omega) (by omega)]; exact a4 d hd
    · intro p hp
      have hp' : p < C.P + 1 := hp
      rw [e2]
      by_cases e : p = C.P
      · rw [e, up_s, up_s]
      · rw [up_n _ _ e, up_n _ _ e]; exact a5 p (by omega)
    · rw [eo (q + 3) (by omega) (by omega) (by omega) (by omega) (by omega) (by omega)]; exact a6
    · rw [eo (q + 4) (by omega) (by omega) (by omega) (by omega) (by omega) (by omega)]; exact a7
    · rw [eo (q + 6) (by omega) (by omega) (by omega) (by omega) (by omega) (by omega)]; exact a8
    · rw [eo (q + 7) (by omega) (by omega) (by omega) (by omega) (by omega) (by omega)]; exact a9
  · have ew : wh (Cp C) (rP C r x pv v) = wh C r := by
      funext y
      unfold wh
      have : there (Cp C) y = there C y := rfl
      rw [this]
      by_cases z : there C y = true
      · have := there_lt hC z
        rw [rP_lo hP (by omega)]
      · rw [Bool.not_eq_true] at z
        rw [z]; rfl
    have es : stl (rP C r x pv v) = stl r := stl_congr (fun k _ hk => rP_lo hP hk)
    unfold SH
    rw [ew, es, el (q + 9) (by omega) (by omega), eo (q + 9) (by omega) (by omega) (by omega) (by omega) (by omega) (by omega), eo (q + 9 + 1) (by omega) (by omega) (by omega) (by omega) (by omega) (by omega), show q + 9 + 2 = q + 11 from rfl, show q + 9 + 3 = q + 12 from rfl, e11, e12, eo (q + 9 + 4) (by omega) (by omega) (by omega) (by omega) (by omega) (by omega)]
    refine ⟨by rw [rP_lo hP (by omega)]; exact b0, b1, b2, fun y hy => by rw [rP_lo hP (by omega)]; exact b3 y hy, ?_, ?_, ?_⟩
    · intro p hp
      by_cases e : p = C.P
      · rw [e, up_s, if_pos (show C.P < (Cp C).P by show C.P < C.P + 1; omega)]
        unfold rP
        rw [up_n _ _ (by omega), up_n _ _ (by omega), up_s]
      · rw [up_n _ _ e]
        have h4 := b4 p hp
        rw [show q + 9 + 2 = q + 11 from rfl] at h4
        rw [h4]
        by_cases z : p < C.P
        · rw [if_pos z, if_pos (show p < (Cp C).P by show p < C.P + 1; omega)]
          unfold rP
          rw [up_n _ _ (by omega), up_n _ _ (by omega), up_n _ _ (by omega)]
        · rw [if_neg z, if_neg (show ¬ p < (Cp C).P by show ¬ p < C.P + 1; omega)]
    · intro p hp
      by_cases e : p = C.P
      · rw [e, up_s, if_pos (show C.P < (Cp C).P by show C.P < C.P + 1; omega)]
        unfold rP
        rw [up_s]
      · rw [up_n _ _ e]
        have h5 := b5 p hp
        rw [show q + 9 + 3 = q + 12 from rfl] at h5
        rw [h5]
        by_cases z : p < C.P
        · rw [if_pos z, if_pos (show p < (Cp C).P by show p < C.P + 1; omega)]
          unfold rP
          rw [up_n _ _ (by omega), up_n _ _ (by omega), up_n _ _ (by omega)]
        · rw [if_neg z, if_neg (show ¬ p < (Cp C).P by show ¬ p < C.P + 1; omega)]
    · intro p hp
      rw [b6 p hp]
      have h67 : rP C r x pv v (67 + p) = 0 := by
        unfold rP
        rw [up_n _ _ (by omega), up_n _ _ (by omega), up_n _ _ (by omega)]
        exact g7 p hp
      by_cases z : p < C.P
      · rw [if_pos z, if_pos (show p < (Cp C).P by show p < C.P + 1; omega), h67, g7 p hp]
      · rw [if_neg z]
        by_cases z2 : p < C.P + 1
        · rw [if_pos (show p < (Cp C).P from z2), h67]
        · rw [if_neg (show ¬ p < (Cp C).P from z2)]
theorem pers_R {j : Nat} (h : RDt C G Fd r k ν) (hkj : k ≤ j) {νF : Mem} {x pv : Nat} {v : Int32} (e21 : νF.2.1 492 21 = I (C.P + 1)) (ef : ∀ f, f = 20 ∨ f = 22 ∨ f = 23 ∨ f = 24 → νF.2.1 492 f = ν.2.1 492 f) (e7 : νF.2.1 497 = ν.2.1 497) (e9 : νF.2.1 499 = ν.2.1 499) (e8 : νF.2.1 498 = up (up (up (ν.2.1 498) (55 + C.P) (I x)) (73 + C.P) (I pv)) (61 + C.P) v) : RDt (Cp C) G Fd (rP C r x pv v) j νF := by
  obtain ⟨a1, a2, a3, a4, t, a5, a6, a7, a8⟩ := h
  refine ⟨by rw [ef 20 (by omega)]; exact a1, by rw [e21]; rfl, by rw [e7]; exact a3, ?_, t, by rw [ef 24 (by omega)]; exact a5, by omega, by rw [e9, ef 22 (by omega)]; exact a7, by rw [e9, ef 23 (by omega)]; exact a8⟩
  rw [e8]
  exact ((a4.up _ _).up _ _).up _ _
end Pb
