/-! LINES: what is read; a deed -/
def AI (C : Cel) (pc : Nat → Int32) (r : Row) : Prop := C.ok ∧ Good C pc r ∧ ∀ p, p < 6 → r (67 + p) = 0
def RU (c : Row) (t : Nat) (f : Int32) (vm : Nat → Nat) (G : List Itm) : Prop := (G = [] ∧ f = -1) ∨ (G ≠ [] ∧ ∃ k0, f = I k0 ∧ AtC c k0 (fl vm G ++ [0]) ∧ k0 + (fl vm G).length + 1 ≤ t)
def RDt (C : Cel) (G Fd : List Itm) (r : Row) (k : Nat) (ν : Mem) : Prop := ν.2.1 492 20 = I C.D ∧ ν.2.1 492 21 = I C.P ∧ (∀ d, d < C.D → ν.2.1 497 d = I (C.z d)) ∧ E79 (ν.2.1 498) r ∧ ∃ t, ν.2.1 492 24 = I t ∧ t ≤ 2 * k ∧ RU (ν.2.1 499) t (ν.2.1 492 22) vmG G ∧ RU (ν.2.1 499) t (ν.2.1 492 23) vmF Fd
theorem RDt.fr {C : Cel} {G Fd : List Itm} {r : Row} {k k' : Nat} {ν ξ : Mem} (h : RDt C G Fd r k ν) (hk : k ≤ k') (h1 : ∀ f, 20 ≤ f → f < 25 → ξ.2.1 492 f = ν.2.1 492 f) (h2 : ξ.2.1 497 = ν.2.1 497) (h3 : ξ.2.1 498 = ν.2.1 498) (h4 : ξ.2.1 499 = ν.2.1 499) : RDt C G Fd r k' ξ := by
  obtain ⟨a1, a2, a3, a4, t, a5, a6, a7, a8⟩ := h
  refine ⟨by rw [h1 20 (by omega) (by omega)]; exact a1, by rw [h1 21 (by omega) (by omega)]; exact a2, by rw [h2]; exact a3, by rw [h3]; exact a4, t, by rw [h1 24 (by omega) (by omega)]; exact a5, by omega, ?_, ?_⟩
  · rw [h4, h1 22 (by omega) (by omega)]; exact a7
  · rw [h4, h1 23 (by omega) (by omega)]; exact a8
section Dd
variable {B : Nat → Nat} {n q : Nat} {μ0 μ ν0 ν : Mem} {k : Nat} {C : Cel} {G Fd : List Itm} {pc : Nat → Int32} {r : Row}
def CLs (B : Nat → Nat) (n q : Nat) (μ0 : Mem) (k : Nat) (C : Cel) (G Fd : List Itm) (pc : Nat → Int32) (r : Row) (μ : Mem) : Prop := CLb B n q μ0 k μ ∧ μ.2.1 31 0 = 0 ∧ CE C G Fd pc q μ ∧ SH C r (q + 9) μ ∧ AI C pc r ∧ k ≤ n
def RLs (B : Nat → Nat) (n : Nat) (ν0 : Mem) (k : Nat) (C : Cel) (G Fd : List Itm) (r : Row) (ν : Mem) : Prop := RLb B n ν0 k ν ∧ ν.2.1 492 9 = 0 ∧ RDt C G Fd r k ν
/-- the body of a line: both read it, or tell the same fault -/
def BOUT (B : Nat → Nat) (n q : Nat) (μ0 ν0 : Mem) (k : Nat) (C : Cel) (G Fd : List Itm) (r : Row) (rb : Mem → Option Mem) (x : Option Mem) : Prop := ∃ μ', x = some μ' ∧ ((∃ j C' G' Fd' pc' r', k < j ∧ CLs B n q μ0 j C' G' Fd' pc' r' μ' ∧ ∀ ν, RLs B n ν0 k C G Fd r ν → ∃ ν', rb ν = some ν' ∧ RLs B n ν0 j C' G' Fd' r' ν') ∨ (∃ w p, CFl B n q μ0 w p μ' ∧ ∀ ν, RLs B n ν0 k C G Fd r ν → ∃ ν', rb ν = some ν' ∧ RFl B n ν0 w p ν'))
theorem RLs.goes (hn : n ≤ 700) (hB : ∀ i, i < n → B i < 256) (h : RLs B n ν0 k C G Fd r ν) : ∃ ν', fX11_goes 492 ν = some ν' ∧ RLs B n ν0 (k + 1) C G Fd r ν' := by
  obtain ⟨g, l, e1, e2, e3⟩ := h.1.goes hn hB
  refine ⟨_, e1, e2, by rw [rM_g, e3 9 (by omega)]; exact h.2.1, h.2.2.fr (by omega) (fun f h1 h2 => by rw [rM_g, e3 f (by omega)]) (rM_n _ _ _ (by decide)) (rM_n _ _ _ (by decide)) (rM_n _ _ _ (by decide))⟩
/-- the reference begins a line -/
theorem beg_ok (hn : n ≤ 700) (hB : ∀ i, i < n → B i < 256) (h : RLs B n ν0 k C G Fd r ν) : ∃ ν', fX11_begins 492 0 0 ν = some (1, ν') ∧ RLs B n ν0 (k + 1) C G Fd r ν' := by
  obtain ⟨ν', e, h'⟩ := h.goes hn hB
  refine ⟨ν', ?_, h'⟩
  unfold fX11_begins
  rw [if_pos rfl, if_pos rfl, if_neg (goodL h.2.1), e, bs]
theorem beg_much (h : RLs B n ν0 k C G Fd r ν) : ∃ ν', fX11_begins 492 1 0 ν = some (0, ν') ∧ RFl B n ν0 2 k ν' := by
  obtain ⟨ν', e, h1, _⟩ := h.1.wrong h.2.1 2
  refine ⟨ν', ?_, h1⟩
  unfold fX11_begins
  rw [if_neg (by decide), e, bs, if_pos rfl, if_pos (h1.good (by decide))]
theorem beg_again (h : RLs B n ν0 k C G Fd r ν) : ∃ ν', fX11_begins 492 0 1 ν = some (0, ν') ∧ RFl B n ν0 5 k ν' := by
  obtain ⟨ν', e, h1, _⟩ := h.1.wrong h.2.1 5
  refine ⟨ν', ?_, h1⟩
  unfold fX11_begins
  rw [if_pos rfl, if_neg (by decide), e, bs, if_pos (h1.good (by decide))]
/-! a deed -/
def Ci (C : Cel) (i : Nat) : Cel := (C.D + 1, C.P, up C.z C.D i)
theorem Ci_th (hD : C.D < 6) {i : Nat} (hi : i < 8) (x : Nat) : there (Ci C (i + 1)) x = (there (Ci C i) x || decide (x = 8 * C.D + i)) := by
  apply Bool.eq_iff_iff.mpr
  rw [Bool.or_eq_true, there_iff, there_iff, decide_eq_true_iff]
  show (x / 8 < C.D + 1 ∧ x % 8 < up C.z C.D (i + 1) (x / 8)) ↔ (x / 8 < C.D + 1 ∧ x % 8 < up C.z C.D i (x / 8)) ∨ x = 8 * C.D + i
  by_cases e : x / 8 = C.D
  · rw [e, up_s, up_s]; omega
  · rw [up_n _ _ e, up_n _ _ e]; omega
theorem Ci_0 (x : Nat) : there (Ci C 0) x = there C x := by
  apply Bool.eq_iff_iff.mpr
  rw [there_iff, there_iff]
  show (x / 8 < C.D + 1 ∧ x % 8 < up C.z C.D 0 (x / 8)) ↔ (x / 8 < C.D ∧ x % 8 < C.z (x / 8))
  by_cases e : x / 8 = C.D
  · rw [e, up_s]; omega
  · rw [up_n _ _ e]; omega
theorem Ci_mono {i : Nat} {x : Nat} (h : there C x = true) : there (Ci C i) x = true := by
  rw [there_iff] at h ⊢
  show x / 8 < C.D + 1 ∧ x % 8 < up C.z C.D i (x / 8)
  rw [up_n _ _ (by omega)]
  exact ⟨by omega, h.2⟩
/-- rows while a deed is read -/
def GI (C : Cel) (r : Row) (i : Nat) (r' : Row) : Prop := (∀ k, k = 0 ∨ 49 ≤ k → r' k = r k) ∧ ∀ y, y < 48 → there (Ci C i) y = false → r' (1 + y) = 0
theorem GI.next (hD : C.D < 6) {i : Nat} (hi : i < 8) {r' : Row} (h : GI C r i r') (v : Int32) : GI C r (i + 1) (up r' (1 + (8 * C.D + i)) v) := by
  refine ⟨fun k hk => by rw [up_n _ _ (by omega)]; exact h.1 k hk, fun y hy hn => ?_⟩
  rw [Ci_th hD hi] at hn
  simp at hn
  rw [up_n _ _ (by omega)]
  exact h.2 y hy hn.1
theorem GI.ai (hA : AI C pc r) (hD : C.D < 6) {i : Nat} (h1 : 1 ≤ i) (h8 : i ≤ 8) {r' : Row} (h : GI C r i r') : AI (Ci C i) pc r' := by
  obtain ⟨⟨c1, c2, c3⟩, ⟨⟨g1, g2, g3⟩, g4, g5, g6⟩, g7⟩ := hA
  have es : stl r' = stl r := stl_congr (fun k hk _ => h.1 k (by omega))
  have hP : C.P ≤ 6 := c2
  refine ⟨⟨by show C.D + 1 ≤ 6; omega, c2, ?_⟩, ⟨⟨?_, ?_, ?_⟩, h.2, ?_, ?_⟩, ?_⟩
  · intro d hd
    show 1 ≤ up C.z C.D i d ∧ up C.z C.D i d ≤ 8
    by_cases e : d = C.D
    · rw [e, up_s]; exact ⟨h1, h8⟩
    · rw [up_n _ _ e]; exact c3 d (by have : d < C.D + 1 := hd; omega)
  · intro x hx
    rw [es] at hx
    exact ⟨Ci_mono (g1 x hx).1, Ci_mono (g1 x hx).2⟩
  · intro p hp
    obtain ⟨x, hx1, hx2⟩ := g2 p hp
    exact ⟨x, by rw [h.1 _ (by omega)]; exact hx1, Ci_mono hx2⟩
  · intro p hp
    rw [h.1 _ (by omega)]
    rcases g3 p hp with z | ⟨x, hx1, hx2⟩
    · exact Or.inl z
    · exact Or.inr ⟨x, hx1, Ci_mono hx2⟩
  · intro p hp
    rw [h.1 _ (by omega)]; exact g5 p hp
  · intro d hd p hp
    rw [h.1 _ (by omega)]; exact g6 d hd p hp
  · intro p hp
    rw [h.1 _ (by omega)]; exact g7 p hp
theorem q9 (hq : q = 3 ∨ q = 17) : q + 9 ∈ stA := by rcases hq with rfl | rfl <;> decide
theorem addPlace_ok (hq : q = 3 ∨ q = 17) (hb : CLb B n q μ0 k μ) (h0 : μ.2.1 31 0 = 0) (hD : C.D < 6) {i : Nat} (hi : i < 8) {r' : Row} (hE : CE (Ci C i) G Fd pc q μ) (hS : SH (Ci C i) r' (q + 9) μ) (v : Int32) : ∃ μ', fX1_addPlace q (I C.D) v μ = some μ' ∧ CLb B n q μ0 k μ' ∧ μ'.2.1 31 = μ.2.1 31 ∧ CE (Ci C (i + 1)) G Fd pc q μ' ∧ SH (Ci C (i + 1)) (up r' (1 + (8 * C.D + i)) v) (q + 9) μ' := by
  have hG := hb.2.1
  obtain ⟨g3, g4, g5, g6, g7, _⟩ := cel_g hG hq
  obtain ⟨k1, _⟩ := cel_k hq
  have hx : 8 * C.D + i < 48 := by omega
  obtain ⟨e1, e2, e3, e4, e5, e6, e7, e8, e9, e10, e11⟩ := hE
  have hsz : μ.2.1 (q + 1) C.D = I i := by
    rw [e4 C.D hD, if_pos (show C.D < (Ci C i).D by show C.D < C.D + 1; omega)]
    show I (up C.z C.D i C.D) = _
    rw [up_s]
  have s9 := q9 hq
  unfold fX1_addPlace
  rw [g3, bs, ldI_I k1 hD (by omega), bs, bs, ldI_I k1 hD (by omega), bs, hsz, stI_I k1 hD (by omega), bs, bs, sL_C, l_mulI, I_add, I_addl, (cel_g ((hG.sC _ _).sLC _ _) hq).2.2.2.2.1, bs, setInk_eq ((hG.sC _ _).sLC _ _) s9 (by show 8 * C.D + i < 48; exact hx), bs]
  have hb' := (((hb.c hq (c := q + 1) (up (μ.2.1 (q + 1)) C.D (I (i + 1))) (by omega)).l (c := q) (up ((sC μ (q + 1) (up (μ.2.1 (q + 1)) C.D (I (i + 1)))).2.2.1 q) 2 ((sC μ (q + 1) (up (μ.2.1 (q + 1)) C.D (I (i + 1)))).2.2.1 q 2 ||| fX10_bit (I (8 * C.D + i)))) (by omega)))
  refine ⟨_, rfl, (hb'.c hq (c := q + 9 + 1) _ (by omega)).l (c := q + 9) _ (by omega), ?_, ?_, ?_⟩
  · rw [sLC_i, sC_n _ _ (by omega), sLC_i, sC_n _ _ (by omega)]
  · refine ⟨?_, ?_, ?_, ?_, ?_, ?_, ?_, ?_, ?_, e10, e11⟩
    · rw [sLC_i, sC_n _ _ (by omega), sLC_i, sC_n _ _ (by omega)]; exact e1
    · rw [sLC_i, sC_n _ _ (by omega), sLC_i, sC_n _ _ (by omega)]; exact e2
    · intro x
      rw [sLC_n _ _ (by omega), sC_l, sLC_s, up_s, mb_or, Ci_th hD hi]
      show (mb (μ.2.2.1 q 2) x || mb (fX10_bit (I (8 * C.D + i))) x) = _
      rw [e3, mb_bit (by omega)]
    · intro d hd
      rw [sLC_i, sC_n _ _ (by omega), sLC_i, sC_s]
      by_cases z : d = C.D
      · rw [z, up_s, if_pos (show C.D < (Ci C (i + 1)).D by show C.D < C.D + 1; omega)]
        show _ = I (up C.z C.D (i + 1) C.D)
        rw [up_s]
      · rw [up_n _ _ z, e4 d hd]
        by_cases z2 : d < C.D + 1
        · rw [if_pos (show d < (Ci C i).D from z2), if_pos (show d < (Ci C (i + 1)).D from z2)]
          show I (up C.z C.D i d) = I (up C.z C.D (i + 1) d)
          rw [up_n _ _ z, up_n _ _ z]
        · rw [if_neg (show ¬ d < (Ci C i).D from z2), if_neg (show ¬ d < (Ci C (i + 1)).D from z2)]
    · intro p hp
      rw [sLC_i, sC_n _ _ (by omega), sLC_i, sC_n _ _ (by omega)]; exact e5 p hp
    · rw [sLC_i, sC_n _ _ (by omega), sLC_i, sC_n _ _ (by omega)]; exact e6
    · rw [sLC_i, sC_n _ _ (by omega), sLC_i, sC_n _ _ (by omega)]; exact e7
    · rw [sLC_i, sC_n _ _ (by omega), sLC_i, sC_n _ _ (by omega)]; exact e8
    · rw [sLC_i, sC_n _ _ (by omega), sLC_i, sC_n _ _ (by omega)]; exact e9
  · obtain ⟨b0, b1, b2, b3, b4, b5, b6⟩ := hS
    have es : stl (up r' (1 + (8 * C.D + i)) v) = stl r' := stl_congr (fun k _ hk => up_n _ _ (by omega))
    have hP6 : ∀ p, p < C.P → p < 6 → 55 + p ≠ 1 + (8 * C.D + i) ∧ 61 + p ≠ 1 + (8 * C.D + i) ∧ 67 + p ≠ 1 + (8 * C.D + i) := fun p _ _ => by omega
    unfold SH
    rw [es]
    simp only [sLC_i, sLC_s]
    refine ⟨?_, ?_, ?_, ?_, ?_, ?_, ?_⟩
    · rw [sC_n _ _ (by omega), sLC_i, sC_n _ _ (by omega), up_n _ _ (by omega)]; exact b0
    · intro y
      rw [up_s, sC_l, sLC_n _ _ (by omega), sC_l]
      have hw : wh (Ci C (i + 1)) (up r' (1 + (8 * C.D + i)) v) y = if y = 8 * C.D + i then decide (v = 0) else wh (Ci C i) r' y := by
        unfold wh
        rw [Ci_th hD hi]
        by_cases e : y = 8 * C.D + i
        · rw [if_pos e, e, up_s]; simp
        · rw [if_neg e, up_n _ _ (by omega), decide_eq_false e, Bool.or_false]
      rw [hw]
      unfold inkW
      by_cases e0 : v = 0
      · rw [if_pos e0, mb_or, b1, mb_bit (by omega)]
        by_cases e : y = 8 * C.D + i
        · subst e; simp [e0]
        · simp [e]
      · rw [if_neg e0, mb_and, b1]
        by_cases e : y = 8 * C.D + i
        · subst e
          rw [mb_not (by omega), mb_bit (by omega)]
          simp [e0]
        · by_cases h64 : y < 64
          · rw [mb_not h64, mb_bit (by omega)]; simp [e]
          · rw [if_neg e, ← b1, mb_ge (by omega)]; rfl
    · intro y
      rw [up_n _ _ (by decide), sC_l, sLC_n _ _ (by omega), sC_l]; exact b2 y
    · intro y hy
      rw [sC_s, sC_n _ _ (by omega)]
      by_cases e : y = 8 * C.D + i
      · subst e; rw [up_s, up_s]
      · rw [up_n _ _ e, up_n _ _ (by omega)]; exact b3 y hy
    · intro p hp
      rw [sC_n _ _ (by omega), sLC_i, sC_n _ _ (by omega), b4 p hp]
      by_cases z : p < C.P
      · rw [if_pos (show p < (Ci C i).P from z), if_pos (show p < (Ci C (i + 1)).P from z), up_n _ _ (by omega)]
      · rw [if_neg (show ¬ p < (Ci C i).P from z), if_neg (show ¬ p < (Ci C (i + 1)).P from z)]
    · intro p hp
      rw [sC_n _ _ (by omega), sLC_i, sC_n _ _ (by omega), b5 p hp]
      by_cases z : p < C.P
      · rw [if_pos (show p < (Ci C i).P from z), if_pos (show p < (Ci C (i + 1)).P from z), up_n _ _ (by omega)]
      · rw [if_neg (show ¬ p < (Ci C i).P from z), if_neg (show ¬ p < (Ci C (i + 1)).P from z)]
    · intro p hp
      rw [sC_n _ _ (by omega), sLC_i, sC_n _ _ (by omega), b6 p hp]
      by_cases z : p < C.P
      · rw [if_pos (show p < (Ci C i).P from z), if_pos (show p < (Ci C (i + 1)).P from z), up_n _ _ (by omega)]
      · rw [if_neg (show ¬ p < (Ci C i).P from z), if_neg (show ¬ p < (Ci C (i + 1)).P from z)]
end Dd
