/-! THE CLASS: changes of a State; the ground laid -/
theorem SH.sent {C : Cel} {r : Row} {a p : Nat} {v : Int32} {μ ν : Mem} (hC : C.ok) (h : SH C r a μ) (hp : p < C.P) (h0 : ν.2.1 a = μ.2.1 a) (hl : ν.2.2.1 a = μ.2.2.1 a) (h1 : ν.2.1 (a + 1) = μ.2.1 (a + 1)) (h2 : ν.2.1 (a + 2) = μ.2.1 (a + 2)) (h3 : ν.2.1 (a + 3) = up (μ.2.1 (a + 3)) p v) (h4 : ν.2.1 (a + 4) = μ.2.1 (a + 4)) : SH C (up r (61 + p) v) a ν := by
  have hP := hC.2.1
  obtain ⟨b0, b1, b2, b3, b4, b5, b6⟩ := h
  have ew : wh C (up r (61 + p) v) = wh C r := wh_congr hC (fun k _ hk => up_n _ _ (by omega))
  have es : stl (up r (61 + p) v) = stl r := stl_congr (fun k _ hk => up_n _ _ (by omega))
  unfold SH
  rw [h0, hl, h1, h2, h3, h4, ew, es]
  refine ⟨by rw [up_n _ _ (by omega)]; exact b0, b1, b2, fun x hx => by rw [up_n _ _ (by omega)]; exact b3 x hx, ?_, ?_, ?_⟩
  · intro q hq
    by_cases e : q < C.P
    · rw [up_n _ _ (by omega)]; exact b4 q hq
    · rw [if_neg e]; rw [b4 q hq, if_neg e]
  · intro q hq
    by_cases e : q = p
    · subst e; rw [up_s, if_pos hp, up_s]
    · rw [up_n _ _ e, up_n _ _ (by omega)]; exact b5 q hq
  · intro q hq; rw [up_n _ _ (by omega)]; exact b6 q hq
theorem SH.met {C : Cel} {r : Row} {a p : Nat} {v : Int32} {μ ν : Mem} (hC : C.ok) (h : SH C r a μ) (hp : p < C.P) (h0 : ν.2.1 a = μ.2.1 a) (hl : ν.2.2.1 a = μ.2.2.1 a) (h1 : ν.2.1 (a + 1) = μ.2.1 (a + 1)) (h2 : ν.2.1 (a + 2) = μ.2.1 (a + 2)) (h3 : ν.2.1 (a + 3) = μ.2.1 (a + 3)) (h4 : ν.2.1 (a + 4) = up (μ.2.1 (a + 4)) p v) : SH C (up r (67 + p) v) a ν := by
  have hP := hC.2.1
  obtain ⟨b0, b1, b2, b3, b4, b5, b6⟩ := h
  have ew : wh C (up r (67 + p) v) = wh C r := wh_congr hC (fun k _ hk => up_n _ _ (by omega))
  have es : stl (up r (67 + p) v) = stl r := stl_congr (fun k _ hk => up_n _ _ (by omega))
  unfold SH
  rw [h0, hl, h1, h2, h3, h4, ew, es]
  refine ⟨by rw [up_n _ _ (by omega)]; exact b0, b1, b2, fun x hx => by rw [up_n _ _ (by omega)]; exact b3 x hx, ?_, ?_, ?_⟩
  · intro q hq
    rw [up_n _ _ (by omega)]; exact b4 q hq
  · intro q hq
    by_cases e : q < C.P
    · rw [up_n _ _ (by omega)]; exact b5 q hq
    · rw [if_neg e]; rw [b5 q hq, if_neg e]
  · intro q hq
    by_cases e : q = p
    · subst e; rw [up_s, if_pos hp, up_s]
    · rw [up_n _ _ e, up_n _ _ (by omega)]; exact b6 q hq
theorem SH.day {C : Cel} {r : Row} {a : Nat} {v : Int32} {μ ν : Mem} (hC : C.ok) (h : SH C r a μ) (h0 : ν.2.1 a 0 = v) (hl : ν.2.2.1 a = μ.2.2.1 a) (h1 : ν.2.1 (a + 1) = μ.2.1 (a + 1)) (h2 : ν.2.1 (a + 2) = μ.2.1 (a + 2)) (h3 : ν.2.1 (a + 3) = μ.2.1 (a + 3)) (h4 : ν.2.1 (a + 4) = μ.2.1 (a + 4)) : SH C (up r 0 v) a ν := by
  obtain ⟨b0, b1, b2, b3, b4, b5, b6⟩ := h
  have ew : wh C (up r 0 v) = wh C r := wh_congr hC (fun k _ hk => up_n _ _ (by omega))
  have es : stl (up r 0 v) = stl r := stl_congr (fun k _ hk => up_n _ _ (by omega))
  unfold SH
  rw [h0, hl, h1, h2, h3, h4, ew, es]
  refine ⟨(up_s _ _ _).symm, b1, b2, fun x hx => by rw [up_n _ _ (by omega)]; exact b3 x hx, ?_, ?_, ?_⟩
  · intro q hq; rw [up_n _ _ (by omega)]; exact b4 q hq
  · intro q hq; rw [up_n _ _ (by omega)]; exact b5 q hq
  · intro q hq; rw [up_n _ _ (by omega)]; exact b6 q hq
theorem st_lt {a : Nat} (ha : a ∈ stA) : a < 457 := by
  have : ∀ a ∈ stA, a < 457 := by decide
  exact this a ha
/-- setInk: the white ones -/
def inkW (w : Int64) (x : Nat) (v : Int32) : Int64 := if v = 0 then w ||| fX10_bit (I x) else w &&& (fX10_bit (I x) ^^^ (-1 : Int64))
theorem setInk_eq {μ : Mem} (hG : Gr μ) {a : Nat} (ha : a ∈ stA) {x : Nat} (hx : x < 48) (v : Int32) : fX9_setInk a (I x) v μ = some (sLC (sC μ (a + 1) (up (μ.2.1 (a + 1)) x v)) a (up (μ.2.2.1 a) 1 (inkW (μ.2.2.1 a 1) x v))) := by
  unfold fX9_setInk inkW
  rw [hG.ink ha, bs, stI_I (st_ink a ha).2 hx (by omega), bs]
  by_cases e : v = 0
  · rw [if_pos e, if_pos e, bs, sL_C, sC_l]
  · rw [if_neg e, if_neg e, bs, sL_C, sC_l]
theorem SH.ink {C : Cel} {r : Row} {a : Nat} {μ : Mem} (hC : C.ok) (hS : SH C r a μ) {x : Nat} (hx : there C x = true) (v : Int32) : SH C (up r (1 + x) v) a (sLC (sC μ (a + 1) (up (μ.2.1 (a + 1)) x v)) a (up (μ.2.2.1 a) 1 (inkW (μ.2.2.1 a 1) x v))) := by
  have hP := hC.2.1
  have hx48 := there_lt hC hx
  obtain ⟨b0, b1, b2, b3, b4, b5, b6⟩ := hS
  have es : stl (up r (1 + x) v) = stl r := stl_congr (fun k _ hk => up_n _ _ (by omega))
  unfold SH
  rw [es]
  simp only [sLC_i, sLC_s]
  rw [sC_n _ _ (show a ≠ a + 1 by omega), sC_s, sC_n _ _ (show a + 2 ≠ a + 1 by omega), sC_n _ _ (show a + 3 ≠ a + 1 by omega), sC_n _ _ (show a + 4 ≠ a + 1 by omega)]
  refine ⟨by rw [up_n _ _ (by omega)]; exact b0, ?_, ?_, ?_, ?_, ?_, ?_⟩
  · intro y
    rw [up_s]
    have hw : wh C (up r (1 + x) v) y = if y = x then decide (v = 0) else wh C r y := by
      by_cases e : y = x
      · subst e
        rw [if_pos rfl]
        unfold wh
        rw [hx, up_s, Bool.true_and]
      · rw [if_neg e]
        unfold wh
        rw [up_n _ _ (by omega)]
    rw [hw]
    unfold inkW
    by_cases e0 : v = 0
    · rw [if_pos e0, mb_or, b1, mb_bit (by omega)]
      by_cases e : y = x
      · subst e; simp [e0]
      · simp [e]
    · rw [if_neg e0, mb_and, b1]
      by_cases e : y = x
      · subst e
        rw [mb_not (by omega), mb_bit (by omega)]
        simp [e0]
      · rw [if_neg e]
        by_cases h64 : y < 64
        · rw [mb_not h64, mb_bit (by omega)]; simp [e]
        · have : wh C r y = false := by
            cases q : wh C r y
            · rfl
            · exact absurd (there_lt hC (wh_there y q)) (by omega)
          rw [this]; rfl
  · intro y
    rw [up_n _ _ (by decide)]
    exact b2 y
  · intro y hy
    by_cases e : y = x
    · subst e; rw [up_s, up_s]
    · rw [up_n _ _ e, up_n _ _ (by omega)]; exact b3 y hy
  · intro q hq; rw [up_n _ _ (by omega)]; exact b4 q hq
  · intro q hq; rw [up_n _ _ (by omega)]; exact b5 q hq
  · intro q hq; rw [up_n _ _ (by omega)]; exact b6 q hq
theorem lay_ok {C : Cel} {r : Row} {g k a : Nat} {μ : Mem} (hP : ∀ x, mb (μ.2.2.1 k 2) x = there C x) (hS : SH C r a μ) (h1 : a ≠ g) (h2 : k ≠ g) : ∃ L, fX5_lay g k a μ = some (sLC μ g L) ∧ GD C r g (sLC μ g L) := by
  unfold fX5_lay
  rw [bs, bs, bs, sL_C, sL_C, sL_C, sLC_C, sLC_C]
  refine ⟨_, rfl, ?_⟩
  unfold GD
  rw [sLC_s]
  simp only [sLC_s, sLC_n _ _ h1]
  refine ⟨?_, ?_, ?_⟩
  · intro x
    rw [up_n _ _ (by decide), up_n _ _ (by decide), up_s]; exact hP x
  · intro x
    rw [up_n _ _ (by decide), up_s]; exact hS.2.1 x
  · intro x
    rw [up_s]; exact hS.2.2.1 x
