/-! EXPRESSIONS: the class's reader -/
def FX (a : Nat) (μ0 μ : Mem) : Prop := μ.1 = μ0.1 ∧ μ.2.2 = μ0.2.2 ∧ (∀ c, c ≠ 31 → c ≠ a → c ≠ a + 1 → μ.2.1 c = μ0.2.1 c) ∧ NF 31 0 1 μ0 μ
theorem FX.refl (a : Nat) (μ : Mem) : FX a μ μ := ⟨rfl, rfl, fun _ _ _ _ => rfl, NF.refl _ _ _ _⟩
theorem FX.c {a : Nat} {μ0 μ : Mem} (h : FX a μ0 μ) {c : Nat} (g : Row) (hc : c = 31 ∨ c = a ∨ c = a + 1) (hz : c = 31 → g 0 = 0 → μ.2.1 31 0 = 0 ∧ g 1 = μ.2.1 31 1) : FX a μ0 (sC μ c g) := ⟨h.1, h.2.1, fun d h1 h2 h3 => by rw [sC_n _ _ (by omega)]; exact h.2.2.1 d h1 h2 h3, fun e => by
  by_cases h31 : c = 31
  · subst h31
    rw [sC_s] at e ⊢
    obtain ⟨u1, u2⟩ := hz rfl e
    exact ⟨(h.2.2.2 u1).1, u2.trans (h.2.2.2 u1).2⟩
  · rw [sC_n _ _ (fun q => h31 q.symm)] at e ⊢
    exact h.2.2.2 e⟩
def RLa (a : Nat) : Prop := a = 6 ∨ a = 9 ∨ a = 20 ∨ a = 23
theorem RLa.g {a : Nat} (h : RLa a) {μ : Mem} (hG : Gr μ) : gR μ a 0 0 = some (a + 1) ∧ kd (a + 1) = (0, 700) := by
  rcases h with rfl | rfl | rfl | rfl
  · exact ⟨g_6_0 hG, kd_7⟩
  · exact ⟨g_9_0 hG, kd_10⟩
  · exact ⟨g_20_0 hG, kd_21⟩
  · exact ⟨g_23_0 hG, kd_24⟩
section Cm
variable {B : Nat → Nat} {n a vs : Nat} {μ0 μ : Mem} {k : Nat} {L : List Itm}
def CB (B : Nat → Nat) (n a vs : Nat) (μ0 : Mem) (k : Nat) (μ : Mem) : Prop := TX B n μ ∧ Gr μ ∧ CTg B n (Pq B n k) (μ.2.1 31) ∧ gR μ 31 9 17 = some a ∧ gS μ 31 10 = some vs ∧ FX a μ0 μ
def CX (B : Nat → Nat) (n a vs : Nat) (μ0 : Mem) (k : Nat) (L : List Itm) (μ : Mem) : Prop := CB B n a vs μ0 k μ ∧ μ.2.1 31 0 = 0 ∧ μ.2.1 a 1 = I L.length ∧ AtC (μ.2.1 (a + 1)) 0 (L.map ecl) ∧ L.length ≤ k ∧ k ≤ n
def CFt (B : Nat → Nat) (n a vs : Nat) (μ0 : Mem) (w : Int32) (p : Nat) (μ : Mem) : Prop := w ≠ 0 ∧ ∃ j sz, CB B n a vs μ0 j μ ∧ μ.2.1 31 0 = w ∧ μ.2.1 31 1 = I (Pq B n p) ∧ sz ≤ 700 ∧ μ.2.1 a 1 = I sz
theorem gS_C (μ : Mem) (c : Nat) (g : Row) (x f : Nat) : gS (sC μ c g) x f = gS μ x f := rfl
theorem CB.c31 (hr : RLa a) (h : CB B n a vs μ0 k μ) {g : Row} {k' : Nat} (hg : CTg B n (Pq B n k') g) (hz : g 0 = 0 → μ.2.1 31 0 = 0 ∧ g 1 = μ.2.1 31 1) : CB B n a vs μ0 k' (sC μ 31 g) := by
  obtain ⟨h1, h2, h3, h4, h5, h6⟩ := h
  exact ⟨h1.c g, h2.sC _ _, by rw [sC_s]; exact hg, by rw [gC]; exact h4, by rw [gS_C]; exact h5, h6.c g (Or.inl rfl) (fun _ => hz)⟩
theorem CX.adv (hn : n ≤ 700) (hB : ∀ i, i < n → B i < 256) (hr : RLa a) (h : CX B n a vs μ0 k L μ) (hS : tkS B n (Pq B n k) ≠ 0) : ∃ μ', fX6_advance 31 μ = some μ' ∧ CX B n a vs μ0 (k + 1) L μ' := by
  obtain ⟨hb, h0, h1, h2, h3, h4⟩ := h
  obtain ⟨g, e1, e2, e3⟩ := advance_ok hn hB hb.1 (i := ip B n (k + 1)) (ip_le _) hb.2.2.1.1 hb.2.2.1.2.2.1
  have hk := (S_k k hS).2
  have ha : a ≠ 31 ∧ a + 1 ≠ 31 := by rcases hr with q | q | q | q <;> omega
  refine ⟨_, e1, hb.c31 hr e2 (fun _ => ⟨h0, e3 1 (by omega)⟩), ?_, ?_, ?_, by omega, by omega⟩
  · rw [sC_s, e3 0 (by omega)]; exact h0
  · rw [sC_n _ _ ha.1]; exact h1
  · rw [sC_n _ _ ha.2]; exact h2
theorem CX.refuse (hr : RLa a) (hn : n ≤ 700) (h : CX B n a vs μ0 k L μ) {w : Int32} (hw : w ≠ 0) : ∃ μ', fX6_refuse 31 w μ = some μ' ∧ CFt B n a vs μ0 w k μ' ∧ ¬ μ'.2.1 31 0 = 0 := by
  obtain ⟨hb, h0, h1, h2, h3, h4⟩ := h
  have ha : a ≠ 31 ∧ a + 1 ≠ 31 := by rcases hr with q | q | q | q <;> omega
  unfold fX6_refuse
  rw [if_pos h0, bs, bs, sI_C, sI_C, sC_C]
  simp only [sC_s]
  have hg : CTg B n (Pq B n k) (up (up (μ.2.1 31) 0 w) 1 (up (μ.2.1 31) 0 w 4)) := by
    obtain ⟨c1, c2, c3, c4, c5⟩ := hb.2.2.1
    refine ⟨?_, ?_, ?_, ?_, fun q => ?_⟩
    · rw [up_n _ _ (by decide), up_n _ _ (by decide)]; exact c1
    · rw [up_n _ _ (by decide), up_n _ _ (by decide)]; exact c2
    · rw [up_n _ _ (by decide), up_n _ _ (by decide)]; exact c3
    · rw [up_n _ _ (by decide), up_n _ _ (by decide)]; exact c4
    · rw [up_n _ _ (by decide), up_n _ _ (by decide)]; exact c5 q
  refine ⟨_, rfl, ⟨hw, k, L.length, hb.c31 hr hg (fun e => absurd (show w = 0 by rw [up_n _ _ (by decide), up_s] at e; exact e) hw), ?_, ?_, by omega, ?_⟩, ?_⟩
  · rw [sC_s, up_n _ _ (by decide), up_s]
  · rw [sC_s, up_s, up_n _ _ (by decide)]; exact hb.2.2.1.2.1
  · rw [sC_n _ _ ha.1]; exact h1
  · rw [sC_s, up_n _ _ (by decide), up_s]; exact hw
theorem CFt.ne {w : Int32} {p : Nat} (h : CFt B n a vs μ0 w p μ) : ¬ μ.2.1 31 0 = 0 := by
  obtain ⟨hw, j, sz, h1, h2, _⟩ := h
  rw [h2]; exact hw
theorem CFt.r {w : Int32} {p : Nat} (h : CFt B n a vs μ0 w p μ) : gR μ 31 9 17 = some a := by
  obtain ⟨hw, j, sz, h1, h2, _⟩ := h
  exact h1.2.2.2.1
/-- an item is added -/
theorem CX.add (hr : RLa a) (hn : n ≤ 700) (h : CX B n a vs μ0 k L μ) (t : Itm) (hl : L.length + 1 ≤ k) {x : Int32} (hx : x = ecl t) : ∃ μ', fX7_add a x μ = some μ' ∧ CX B n a vs μ0 k (L ++ [t]) μ' := by
  obtain ⟨hb, h0, h1, h2, h3, h4⟩ := h
  have ha : a ≠ 31 ∧ a + 1 ≠ 31 ∧ a ≠ 1 ∧ a + 1 ≠ 1 ∧ a ≠ a + 1 := by rcases hr with q | q | q | q <;> omega
  obtain ⟨g1, g2⟩ := hr.g hb.2.1
  unfold fX7_add
  rw [g1, bs, g2, h1, if_pos (show I L.length < I 700 by rw [I_lt (by omega) (by omega)]; omega), bs, stI_I g2 (by omega) (by omega), bs, bs, sI_C, sC_n _ _ ha.2.2.2.2, h1, I_addl]
  refine ⟨_, rfl, ⟨?_, (hb.2.1.sC _ _).sC _ _, ?_, ?_, ?_, ?_⟩, ?_, ?_, ?_, ?_, h4⟩
  · exact ⟨by rw [gC, gC]; exact hb.1.1, fun i hi => by rw [sC_n _ _ (by omega), sC_n _ _ (by omega)]; exact hb.1.2 i hi⟩
  · rw [sC_n _ _ (by omega), sC_n _ _ (by omega)]; exact hb.2.2.1
  · rw [gC, gC]; exact hb.2.2.2.1
  · rw [gS_C, gS_C]; exact hb.2.2.2.2.1
  · exact (hb.2.2.2.2.2.c _ (Or.inr (Or.inr rfl)) (fun e => absurd e ha.2.1)).c _ (Or.inr (Or.inl rfl)) (fun e => absurd e ha.1)
  · rw [sC_n _ _ (by omega), sC_n _ _ (by omega)]; exact h0
  · rw [sC_s, up_s, List.length_append]; rfl
  · rw [sC_n _ _ (by omega), sC_s, List.map_append]
    have := AtC_snoc x h2
    rw [List.length_map, Nat.zero_add] at this
    rw [hx] at this ⊢
    exact this
  · rw [List.length_append]; exact hl
theorem CFt.add (hr : RLa a) {w : Int32} {p : Nat} (h : CFt B n a vs μ0 w p μ) (x : Int32) : ∃ μ', fX7_add a x μ = some μ' ∧ CFt B n a vs μ0 w p μ' := by
  have h' := h
  obtain ⟨hw, j, sz, hb, h0, h1, h2, h3⟩ := h
  have ha : a ≠ 31 ∧ a + 1 ≠ 31 ∧ a ≠ 1 ∧ a + 1 ≠ 1 ∧ a ≠ a + 1 := by rcases hr with q | q | q | q <;> omega
  obtain ⟨g1, g2⟩ := hr.g hb.2.1
  unfold fX7_add
  rw [g1, bs, g2, h3]
  by_cases hs : sz < 700
  · rw [if_pos (show I sz < I 700 by rw [I_lt (by omega) (by omega)]; omega), bs, stI_I g2 (by omega) (by omega), bs, bs, sI_C, sC_n _ _ ha.2.2.2.2, h3, I_addl]
    refine ⟨_, rfl, hw, j, sz + 1, ⟨?_, (hb.2.1.sC _ _).sC _ _, ?_, ?_, ?_, ?_⟩, ?_, ?_, by omega, ?_⟩
    · exact ⟨by rw [gC, gC]; exact hb.1.1, fun i hi => by rw [sC_n _ _ (by omega), sC_n _ _ (by omega)]; exact hb.1.2 i hi⟩
    · rw [sC_n _ _ (by omega), sC_n _ _ (by omega)]; exact hb.2.2.1
    · rw [gC, gC]; exact hb.2.2.2.1
    · rw [gS_C, gS_C]; exact hb.2.2.2.2.1
    · exact (hb.2.2.2.2.2.c _ (Or.inr (Or.inr rfl)) (fun e => absurd e ha.2.1)).c _ (Or.inr (Or.inl rfl)) (fun e => absurd e ha.1)
    · rw [sC_n _ _ (by omega), sC_n _ _ (by omega)]; exact h0
    · rw [sC_n _ _ (by omega), sC_n _ _ (by omega)]; exact h1
    · rw [sC_s, up_s]
  · rw [if_neg (show ¬ I sz < I 700 by rw [I_lt (by omega) (by omega)]; omega)]
    exact ⟨μ, rfl, h'⟩
/-! kinds of tokens -/
theorem ksg (hB : ∀ i, i < n → B i < 256) (h : CTg B n (Pq B n k) (μ.2.1 31)) {c : Nat} (hc : c < 256) : (μ.2.1 31 6 = I c) ↔ sg B n k c = true := by
  rw [h.2.2.2.1, sg_iff]
  unfold kdI
  by_cases h0 : tkS B n (Pq B n k) = 0
  · rw [if_pos h0]
    exact ⟨fun q => absurd ((I_inj (n := 259) (by omega) (by omega)).mp q) (by omega), fun q => absurd q.1 (by omega)⟩
  · rw [if_neg h0]
    by_cases h1 : tkS B n (Pq B n k) = 1
    · rw [if_pos h1]
      exact ⟨fun q => absurd ((I_inj (n := 256) (by omega) (by omega)).mp q) (by omega), fun q => absurd q.1 (by omega)⟩
    · rw [if_neg h1]
      by_cases h2 : tkS B n (Pq B n k) = 2
      · rw [if_pos h2]
        exact ⟨fun q => absurd ((I_inj (n := 257) (by omega) (by omega)).mp q) (by omega), fun q => absurd q.1 (by omega)⟩
      · rw [if_neg h2]
        by_cases h3 : tkS B n (Pq B n k) = 3
        · have := hB _ (tkE_gt (B := B) (n := n) (q := Pq B n k) h0).2
          rw [if_pos h3, I_inj (by omega) (by omega)]
          exact ⟨fun q => ⟨h3, q⟩, fun q => q.2⟩
        · rw [if_neg h3]
          exact ⟨fun q => absurd ((I_inj (n := 258) (by omega) (by omega)).mp q) (by omega), fun q => absurd q.1 h3⟩
theorem k257 (hB : ∀ i, i < n → B i < 256) (h : CTg B n (Pq B n k) (μ.2.1 31)) : (μ.2.1 31 6 = (257 : Int32)) ↔ tkS B n (Pq B n k) = 2 := by
  rw [h.2.2.2.1]
  unfold kdI
  by_cases h0 : tkS B n (Pq B n k) = 0
  · rw [if_pos h0, h0]; decide
  · rw [if_neg h0]
    by_cases h1 : tkS B n (Pq B n k) = 1
    · rw [if_pos h1, h1]; decide
    · rw [if_neg h1]
      by_cases h2 : tkS B n (Pq B n k) = 2
      · rw [if_pos h2]; exact ⟨fun _ => h2, fun _ => rfl⟩
      · rw [if_neg h2]
        by_cases h3 : tkS B n (Pq B n k) = 3
        · have := hB _ (tkE_gt (B := B) (n := n) (q := Pq B n k) h0).2
          rw [if_pos h3]
          exact ⟨fun q => absurd ((I_inj (m := 257) (by omega) (by omega)).mp q) (by omega), fun q => absurd q h2⟩
        · rw [if_neg h3]
          exact ⟨fun q => absurd q (by decide), fun q => absurd q h2⟩
/-- the number that must stand here -/
theorem CX.num (hr : RLa a) (hn : n ≤ 700) (hB : ∀ i, i < n → B i < 256) (h : CX B n a vs μ0 k L μ) {bd : Nat} (hbd : bd < 2147483648) {w : Int32} (hw : w ≠ 0) :
    (tkS B n (Pq B n k) = 2 ∧ tkE B n (Pq B n k) - Pq B n k ≤ 4 ∧ tkV B n (Pq B n k) < bd → fX6_numberBelow 31 (I bd) w μ = some (I (tkV B n (Pq B n k)), μ)) ∧
    (¬ (tkS B n (Pq B n k) = 2 ∧ tkE B n (Pq B n k) - Pq B n k ≤ 4 ∧ tkV B n (Pq B n k) < bd) → ∃ μ', fX6_numberBelow 31 (I bd) w μ = some (0, μ') ∧ CFt B n a vs μ0 (if tkS B n (Pq B n k) ≠ 2 then 1 else if 4 < tkE B n (Pq B n k) - Pq B n k then 2 else w) k μ') := by
  have h' := h
  obtain ⟨hb, h0, h1, h2, h3, h4⟩ := h
  obtain ⟨c1, c2, c3, c4, c5⟩ := hb.2.2.1
  have hE := tkE_le (B := B) (Pq_le (B := B) (n := n) k)
  have hge : Pq B n k ≤ tkE B n (Pq B n k) := by
    by_cases e : tkS B n (Pq B n k) = 0
    · have := S0.mp e
      unfold tkE
      rw [if_pos this]
      exact Nat.le_refl _
    · have := (tkE_gt (B := B) (n := n) (q := Pq B n k) e).1
      omega
  unfold fX6_numberBelow
  rw [if_pos h0, c2, c3, I_sub hge]
  constructor
  · rintro ⟨s2, hl, hv⟩
    have := tkV_lt hB s2
    rw [if_pos ((k257 hB hb.2.2.1).mpr s2), if_neg (by rw [l_ltI (by omega) (by decide)]; show ¬ 4 < _; omega), c5 s2, if_pos (by rw [I_lt (by omega) hbd]; exact hv), if_pos h0]
  · intro hno
    by_cases s2 : tkS B n (Pq B n k) = 2
    · have := tkV_lt hB s2
      rw [if_pos ((k257 hB hb.2.2.1).mpr s2), if_neg (show ¬ tkS B n (Pq B n k) ≠ 2 by omega)]
      by_cases hl : 4 < tkE B n (Pq B n k) - Pq B n k
      · obtain ⟨μ', e1, e2, e3⟩ := h'.refuse hr hn (w := 2) (by decide)
        rw [if_pos (by rw [l_ltI (by omega) (by decide)]; exact hl), e1, bs, if_neg e3, if_pos hl]
        exact ⟨μ', rfl, e2⟩
      · obtain ⟨μ', e1, e2, e3⟩ := h'.refuse hr hn (w := w) hw
        rw [if_neg (by rw [l_ltI (by omega) (by decide)]; exact hl), c5 s2, if_neg (by rw [I_lt (by omega) hbd]; omega), e1, bs, if_neg e3, if_neg hl]
        exact ⟨μ', rfl, e2⟩
    · obtain ⟨μ', e1, e2, e3⟩ := h'.refuse hr hn (w := 1) (by decide)
      rw [if_neg (fun q => s2 ((k257 hB hb.2.2.1).mp q)), e1, bs, if_neg e3, if_pos s2]
      exact ⟨μ', rfl, e2⟩
end Cm
