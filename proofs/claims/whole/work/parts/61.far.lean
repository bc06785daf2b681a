/-! THE CLASS: how far it is, a step -/
theorem gnd {μ : Mem} (hG : Gr μ) {g : Nat} (hg : g = 461 ∨ g = 468) : gR μ g 3 1 = some (g + 1) ∧ kd (g + 1) = (1, 49) ∧ gR μ g 4 0 = some (g + 2) ∧ kd (g + 2) = (0, 48) := by
  rcases hg with rfl | rfl
  · exact ⟨g_461_3 hG, kd_462, g_461_4 hG, kd_463⟩
  · exact ⟨g_468_3 hG, kd_469, g_468_4 hG, kd_470⟩
theorem GD.lc {C : Cel} {r : Row} {g : Nat} {μ : Mem} (h : GD C r g μ) (L : Nat → Int64) : GD C r g (sLC μ (g + 1) L) := by
  have e : (sLC μ (g + 1) L).2.2.1 g = μ.2.2.1 g := by rw [sLC_l, if_neg (by omega)]
  unfold GD
  rw [e]
  exact h
theorem sLC_s (μ : Mem) (a : Nat) (L : Nat → Int64) : (sLC μ a L).2.2.1 a = L := by rw [sLC_l, if_pos rfl]
theorem far_ok {C : Cel} {r : Row} {g : Nat} {μ : Mem} (hG : Gr μ) (hg : g = 461 ∨ g = 468) (hC : C.ok) (hs : StOK C r) (h : GD C r g μ) {x to : Nat} (hx : there C x = true) (hto : there C to = true) :
    ∃ L, fX5_far g (I x) (I to) μ = some (if dst (adj C r) (wh C r) to x = 9999 then -1 else I (dst (adj C r) (wh C r) to x), sLC μ (g + 1) L) ∧ (dst (adj C r) (wh C r) to x ≠ 9999 → ∀ j, j ≤ dst (adj C r) (wh C r) to x → Lay C r to (L j) j) := by
  obtain ⟨g1, g2, _, _⟩ := gnd hG hg
  have hx48 := there_lt hC hx
  have hto48 := there_lt hC hto
  unfold fX5_far
  rw [g1]
  simp only [Option.bind_some]
  rw [show stL μ (g + 1) (0 : Int32) (fX10_bit (I to)) = _ from stL_I (n := 0) g2 (by omega) (by omega), Option.bind_some]
  have z0 : ∀ y, IsD (adj C r) (wh C r) to y 0 ↔ y = to := by
    intro y
    exact ⟨fun q => q.1, fun q => ⟨q, fun j hj => absurd hj (Nat.not_lt_zero j)⟩⟩
  have key := loop_ok (S := Nat × Int64 × (Nat → Int64)) (R := Int32 × Mem)
    (fun n s => fX5_far_15 n g (I x) s.2.1 (I s.1) (sLC μ (g + 1) s.2.2)) 48
    (fun j s => s.1 = j ∧ (∀ y, mb s.2.1 y = true ↔ ∃ i, i ≤ j ∧ IsD (adj C r) (wh C r) to y i) ∧ (∀ i, i ≤ j → Lay C r to (s.2.2 i) i) ∧ (∃ y, IsD (adj C r) (wh C r) to y j) ∧ (∀ i, i < j → ¬ IsD (adj C r) (wh C r) to x i))
    (fun p => ∃ L, p = (if dst (adj C r) (wh C r) to x = 9999 then -1 else I (dst (adj C r) (wh C r) to x), sLC μ (g + 1) L) ∧ (dst (adj C r) (wh C r) to x ≠ 9999 → ∀ j, j ≤ dst (adj C r) (wh C r) to x → Lay C r to (L j) j))
    ?_ ?_ 48 fuel 0 (0, fX10_bit (I to), up (μ.2.2.1 (g + 1)) 0 (fX10_bit (I to))) rfl (by unfold fuel; omega) ?_
  · obtain ⟨p, e, L, rfl, hL⟩ := key
    exact ⟨L, e, hL⟩
  · rintro n j ⟨j', kn, L⟩ hj ⟨i1, i2, i3, i4, i5⟩
    simp only at i1 i2 i3 i4 i5
    subst i1
    have g1' : gR (sLC μ (g + 1) L) g 3 1 = some (g + 1) := g1
    have el : ldL (sLC μ (g + 1) L) (g + 1) (I j') = some (L j') := by
      rw [ldL_I g2 (by omega) (by omega), sLC_s]
    have hM := h.lc L
    show Ok (fX5_far_15 (n + 1) g (I x) kn (I j') (sLC μ (g + 1) L)) _ ∨ ∃ s', fX5_far_15 (n + 1) g (I x) kn (I j') (sLC μ (g + 1) L) = _ ∧ _
    rw [fX5_far_15]
    simp (disch := omega) only [I_ltl, hj, if_true, g1', Option.bind_some, el, and_bit0]
    by_cases hq : mb (L j') x = false
    · rw [if_pos hq]
      have hnx : ¬ IsD (adj C r) (wh C r) to x j' := by
        intro q
        rw [(i3 j' (Nat.le_refl _) x).mpr q] at hq
        cases hq
      have hn := lay_next hC hs hM hto (i3 j' (Nat.le_refl _)) i2
      by_cases hm : fX5_beside g (L j' &&& (sLC μ (g + 1) L).2.2.1 g 1) (sLC μ (g + 1) L) &&& (kn ^^^ (-1 : Int64)) = 0
      · rw [if_pos hm]
        left
        refine Ok.s ⟨L, ?_, ?_⟩
        · have hd : dst (adj C r) (wh C r) to x = 9999 := by
            rcases dst_cases hC hs wh_there hto x with q | ⟨_, q⟩
            · exact q.1
            · exfalso
              have hgt : j' + 1 ≤ dst (adj C r) (wh C r) to x := by
                rcases Nat.lt_trichotomy (dst (adj C r) (wh C r) to x) j' with q2 | q2 | q2
                · exact absurd q (i5 _ q2)
                · rw [q2] at q; exact absurd q hnx
                · exact q2
              obtain ⟨y, hy⟩ := q.pre (j' + 1) hgt
              have := (hn y).mpr hy
              rw [hm, mb_0] at this
              cases this
          rw [if_pos hd]
        · intro hd
          exfalso
          rcases dst_cases hC hs wh_there hto x with q | ⟨_, q⟩
          · exact hd q.1
          · have hgt : j' + 1 ≤ dst (adj C r) (wh C r) to x := by
              rcases Nat.lt_trichotomy (dst (adj C r) (wh C r) to x) j' with q2 | q2 | q2
              · exact absurd q (i5 _ q2)
              · rw [q2] at q; exact absurd q hnx
              · exact q2
            obtain ⟨y, hy⟩ := q.pre (j' + 1) hgt
            have := (hn y).mpr hy
            rw [hm, mb_0] at this
            cases this
      · rw [if_neg hm]
        right
        rw [I_addl, stL_I g2 (by omega) (by omega), Option.bind_some, sLC_s, sLC_C]
        refine ⟨(j' + 1, kn ||| (fX5_beside g (L j' &&& (sLC μ (g + 1) L).2.2.1 g 1) (sLC μ (g + 1) L) &&& (kn ^^^ (-1 : Int64))), up L (j' + 1) (fX5_beside g (L j' &&& (sLC μ (g + 1) L).2.2.1 g 1) (sLC μ (g + 1) L) &&& (kn ^^^ (-1 : Int64)))), rfl, rfl, ?_, ?_, ?_, ?_⟩
        · intro y
          rw [mb_or, Bool.or_eq_true, i2 y, hn y]
          constructor
          · rintro (⟨i, hi, q⟩ | q)
            · exact ⟨i, by omega, q⟩
            · exact ⟨j' + 1, Nat.le_refl _, q⟩
          · rintro ⟨i, hi, q⟩
            by_cases e : i = j' + 1
            · subst e; exact Or.inr q
            · exact Or.inl ⟨i, by omega, q⟩
        · intro i hi
          show Lay C r to (up L (j' + 1) _ i) i
          by_cases e : i = j' + 1
          · subst e; rw [up_s]; exact hn
          · rw [up_n _ _ e]; exact i3 i (by omega)
        · obtain ⟨y, hy⟩ := ne0_iff.mp hm
          exact ⟨y, (hn y).mp hy⟩
        · intro i hi
          by_cases e : i = j'
          · subst e; exact hnx
          · exact i5 i (by omega)
    · rw [if_neg hq]
      left
      have hq' : mb (L j') x = true := by cases q : mb (L j') x; exact absurd q hq; rfl
      have hd := dst_of ((i3 j' (Nat.le_refl _) x).mp hq')
      refine Ok.s ⟨L, ?_, ?_⟩
      · rw [hd, if_neg (by omega)]
      · intro _ i hi
        rw [hd] at hi
        exact i3 i hi
  · rintro n ⟨j', kn, L⟩ ⟨i1, i2, i3, ⟨y, i4⟩, i5⟩
    exact absurd (i4.lt hC hs wh_there hto) (Nat.lt_irrefl 48)
  · refine ⟨rfl, ?_, ?_, ⟨to, (z0 to).mpr rfl⟩, fun i hi => absurd hi (Nat.not_lt_zero i)⟩
    · intro y
      rw [mb_bit (by omega)]
      simp only [decide_eq_true_eq]
      constructor
      · intro q; exact ⟨0, Nat.le_refl 0, (z0 y).mpr q⟩
      · rintro ⟨i, hi, q⟩
        obtain rfl : i = 0 := by omega
        exact (z0 y).mp q
    · intro i hi y
      obtain rfl : i = 0 := by omega
      simp only [up_s]
      rw [mb_bit (by omega), decide_eq_true_eq, z0]
theorem low_bc : ∀ k : Fin 64, fJ13_bitCount_95d88 (fX10_bit (I k.1) - 1) = I k.1 := by decide +kernel
theorem low_and {v : Int64} {k : Nat} (hk : k < 64) (h1 : mb v k = true) (h2 : ∀ j, j < k → mb v j = false) : v &&& (-v) = fX10_bit (I k) := by
  apply mb_ext
  intro x hx
  rw [mb_and, mb_bit hk]
  unfold mb at h1 h2 ⊢
  rw [Int64.toBitVec_neg, BitVec.getLsbD_neg]
  rcases Nat.lt_trichotomy x k with q | q | q
  · rw [h2 x q]
    simp
    omega
  · subst q
    have : ¬ ∃ j, j < x ∧ v.toBitVec.getLsbD j = true := by
      rintro ⟨j, hj, e⟩
      rw [h2 j hj] at e
      cases e
    simp [h1, this]
  · have : ∃ j, j < x ∧ v.toBitVec.getLsbD j = true := ⟨k, q, h1⟩
    have e : x ≠ k := by omega
    simp [this, e, hx]
theorem lowest_ok {v : Int64} {k : Nat} (hk : k < 64) (h1 : mb v k = true) (h2 : ∀ j, j < k → mb v j = false) : fX10_lowest v = I k := by
  unfold fX10_lowest
  rw [if_neg (ne0_iff.mpr ⟨k, h1⟩), low_and hk h1 h2]
  exact low_bc ⟨k, hk⟩
theorem low_ex {v : Int64} (h : ¬ v = 0) : ∃ k, k < 64 ∧ mb v k = true ∧ ∀ j, j < k → mb v j = false := by
  obtain ⟨x, hx⟩ := ne0_iff.mp h
  obtain ⟨m, _, h1, h2⟩ := least (p := fun j => mb v j = true) x hx
  refine ⟨m, ?_, h1, fun j hj => by cases q : mb v j; rfl; exact absurd q (h2 j hj)⟩
  by_cases q : m < 64
  · exact q
  · rw [mb_ge (by omega)] at h1; cases h1
/-- a step on a shortest way -/
noncomputable def isStep (C : Cel) (r : Row) (to x y : Nat) : Bool := adj C r x y && wh C r y && decide (dst (adj C r) (wh C r) to y + 1 = dst (adj C r) (wh C r) to x)
/-- the least of some below 48 -/
def fst48 (p : Nat → Bool) : Nat := ((List.range 48).find? p).getD 0
theorem fst48_of {p : Nat → Bool} {k : Nat} (hk : k < 48) (h1 : p k = true) (h2 : ∀ j, j < k → p j = false) : fst48 p = k := by
  unfold fst48
  have : (List.range 48).find? p = some k := by
    rw [List.find?_range_eq_some]
    exact ⟨h1, List.mem_range.mpr hk, fun j hj => by rw [h2 j hj]; rfl⟩
  rw [this]
  rfl
theorem step_ok {C : Cel} {r : Row} {g : Nat} {μ : Mem} (hG : Gr μ) (hg : g = 461 ∨ g = 468) (hC : C.ok) (hs : StOK C r) (h : GD C r g μ) {x to k : Nat} (hx : there C x = true) (hto : there C to = true) (hd : dst (adj C r) (wh C r) to x = k + 1) (hk : k < 47) (hL : Lay C r to (μ.2.2.1 (g + 1) k) k) :
    fX5_stepOf g (I x) (I (k + 1)) μ = some (I (fst48 (isStep C r to x))) ∧ isStep C r to x (fst48 (isStep C r to x)) = true ∧ fst48 (isStep C r to x) < 48 := by
  obtain ⟨g1, g2, _, _⟩ := gnd hG hg
  have hx48 := there_lt hC hx
  unfold fX5_stepOf
  rw [if_neg (show ¬ I (k + 1) < (1 : Int32) by rw [I_ltl (by omega) (by omega)]; omega), if_neg (show ¬ (48 : Int32) < I (k + 1) by rw [l_ltI (by omega) (by omega)]; omega)]
  simp (disch := omega) only [g1, Option.bind_some, I_subl]
  rw [Nat.add_sub_cancel, ldL_I g2 (by omega) (by omega), Option.bind_some]
  have hv : ∀ z, mb (fX10_bit (I x)) z = true → there C z = true := by
    intro z hz
    rw [mb_bit (by omega)] at hz
    rw [of_decide_eq_true hz]; exact hx
  have hbits : ∀ y, mb ((fX5_beside g (fX10_bit (I x)) μ &&& μ.2.2.1 g 1) &&& μ.2.2.1 (g + 1) k) y = isStep C r to x y := by
    intro y
    apply Bool.eq_iff_iff.mpr
    rw [mb_and, mb_and, Bool.and_eq_true, Bool.and_eq_true, beside_iff hC hs h hv y, h.2.1 y, hL y]
    unfold isStep
    rw [Bool.and_eq_true, Bool.and_eq_true, hd]
    simp only [decide_eq_true_eq]
    constructor
    · rintro ⟨⟨⟨_, z, hz, ha⟩, hw⟩, hI⟩
      rw [mb_bit (by omega), decide_eq_true_eq] at hz
      subst hz
      exact ⟨⟨ha, hw⟩, by rw [dst_of hI]⟩
    · rintro ⟨⟨ha, hw⟩, he⟩
      refine ⟨⟨⟨wh_there y hw, x, by rw [mb_bit (by omega)]; simp, ha⟩, hw⟩, ?_⟩
      rcases dst_cases hC hs wh_there hto y with q | ⟨_, q⟩
      · rw [q.1] at he; omega
      · have : dst (adj C r) (wh C r) to y = k := by omega
        rw [this] at q
        exact q
  have hne : ∃ y, isStep C r to x y = true := by
    rcases dst_cases hC hs wh_there hto x with q | ⟨_, q⟩
    · rw [q.1] at hd; omega
    · rw [hd] at q
      obtain ⟨y, ha, hw, hy⟩ := q.step
      refine ⟨y, ?_⟩
      unfold isStep
      rw [ha, hw, dst_of hy, hd]
      simp
  obtain ⟨y, hy⟩ := hne
  have hnz : ¬ (fX5_beside g (fX10_bit (I x)) μ &&& μ.2.2.1 g 1) &&& μ.2.2.1 (g + 1) k = 0 := ne0_iff.mpr ⟨y, by rw [hbits]; exact hy⟩
  obtain ⟨m, h64, hm1, hm2⟩ := low_ex hnz
  have hm1' := hm1
  rw [hbits] at hm1
  have hm48 : m < 48 := by
    unfold isStep at hm1
    rw [Bool.and_eq_true, Bool.and_eq_true] at hm1
    exact there_lt hC (wh_there m hm1.1.2)
  have hf : fst48 (isStep C r to x) = m := fst48_of hm48 hm1 (fun j hj => by rw [← hbits]; exact hm2 j hj)
  rw [if_neg hnz, lowest_ok h64 hm1' hm2, hf]
  exact ⟨rfl, hm1, hm48⟩
