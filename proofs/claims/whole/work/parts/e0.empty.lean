/-! THE CELLAR: the empty one -/
def C00 : Cel := (0, 0, fun _ => 0)
def r00 : Row := fun _ => 0
theorem FrO.l {lo hi : Nat} {μ : Mem} {a : Nat} (g : Nat → Int64) (h : lo ≤ a ∧ a < hi) : FrO lo hi μ (sLC μ a g) := ⟨rfl, rfl, fun c hc => rfl, fun c hc => sLC_n μ g (by omega)⟩
theorem emp38 {a : Nat} (ha : a ∈ stA) : ∀ f i m X, i + f = 6 → f < m → Gr X → ∃ ν, fX9_empty_38 m a (I i) X = some ν ∧ FrO (a + 2) (a + 5) X ν ∧ (∀ j, i ≤ j → j < 6 → ν.2.1 (a + 2) j = -1 ∧ ν.2.1 (a + 3) j = -1 ∧ ν.2.1 (a + 4) j = 0) ∧ (∀ j, j < i → ν.2.1 (a + 2) j = X.2.1 (a + 2) j ∧ ν.2.1 (a + 3) j = X.2.1 (a + 3) j ∧ ν.2.1 (a + 4) j = X.2.1 (a + 4) j) := by
  intro f
  induction f with
  | zero =>
    intro i m X h1 h2 hG
    obtain ⟨m, rfl⟩ : ∃ z, m = z + 1 := ⟨m - 1, by omega⟩
    refine ⟨X, ?_, FrO.refl _ _ _, fun j h3 h4 => by omega, fun j h3 => ⟨rfl, rfl, rfl⟩⟩
    rw [fX9_empty_38, if_neg (show ¬ I i < (6 : Int32) by rw [show i = 6 by omega]; decide)]
  | succ f ih =>
    intro i m X h1 h2 hG
    obtain ⟨m, rfl⟩ : ∃ z, m = z + 1 := ⟨m - 1, by omega⟩
    have g4 : ∀ Y, Gr Y → gR Y a 4 0 = some (a + 2) := fun Y hY => hY.g (st_at a ha).1 (by rw [(st_at a ha).2])
    have g5 : ∀ Y, Gr Y → gR Y a 5 0 = some (a + 3) := fun Y hY => hY.g (st_sent a ha).1 (by rw [(st_sent a ha).2])
    have g6 : ∀ Y, Gr Y → gR Y a 6 0 = some (a + 4) := fun Y hY => hY.g (st_met a ha).1 (by rw [(st_met a ha).2])
    have hG1 := hG.sC (a + 2) (up (X.2.1 (a + 2)) i (-1))
    have hG2 := hG1.sC (a + 3) (up (X.2.1 (a + 3)) i (-1))
    have hG3 := hG2.sC (a + 4) (up (X.2.1 (a + 4)) i 0)
    obtain ⟨ν, e1, e2, e3, e4⟩ := ih (i + 1) m _ (by omega) (by omega) hG3
    have k2 : ∀ j, (sC (sC (sC X (a + 2) (up (X.2.1 (a + 2)) i (-1))) (a + 3) (up (X.2.1 (a + 3)) i (-1))) (a + 4) (up (X.2.1 (a + 4)) i 0)).2.1 (a + 2) j = up (X.2.1 (a + 2)) i (-1) j := fun j => by rw [sC_n _ _ (by omega), sC_n _ _ (by omega), sC_s]
    have k3 : ∀ j, (sC (sC (sC X (a + 2) (up (X.2.1 (a + 2)) i (-1))) (a + 3) (up (X.2.1 (a + 3)) i (-1))) (a + 4) (up (X.2.1 (a + 4)) i 0)).2.1 (a + 3) j = up (X.2.1 (a + 3)) i (-1) j := fun j => by rw [sC_n _ _ (by omega), sC_s]
    have k4 : ∀ j, (sC (sC (sC X (a + 2) (up (X.2.1 (a + 2)) i (-1))) (a + 3) (up (X.2.1 (a + 3)) i (-1))) (a + 4) (up (X.2.1 (a + 4)) i 0)).2.1 (a + 4) j = up (X.2.1 (a + 4)) i 0 j := fun j => by rw [sC_s]
    refine ⟨ν, ?_, ?_, ?_, ?_⟩
    · rw [fX9_empty_38, if_pos (show I i < (6 : Int32) by rw [show (6 : Int32) = I 6 from rfl, I_lt (by omega) (by omega)]; omega), g4 X hG, bs, stI_I (st_at a ha).2 (by omega) (by omega), bs, g5 _ hG1, bs, stI_I (st_sent a ha).2 (by omega) (by omega), bs, sC_n _ _ (by omega), g6 _ hG2, bs, stI_I (st_met a ha).2 (by omega) (by omega), bs, sC_n _ _ (by omega), sC_n _ _ (by omega), show I i + (1 : Int32) = I (i + 1) from I_add i 1]
      exact e1
    · exact (((FrO.c _ (by omega)).trans (FrO.c _ (by omega))).trans (FrO.c _ (by omega))).trans e2
    · intro j h3 h4
      by_cases hj : j = i
      · subst hj
        obtain ⟨u1, u2, u3⟩ := e4 j (by omega)
        exact ⟨by rw [u1, k2, up_s], by rw [u2, k3, up_s], by rw [u3, k4, up_s]⟩
      · exact e3 j (by omega) h4
    · intro j h3
      obtain ⟨u1, u2, u3⟩ := e4 j (by omega)
      exact ⟨by rw [u1, k2, up_n _ _ (by omega)], by rw [u2, k3, up_n _ _ (by omega)], by rw [u3, k4, up_n _ _ (by omega)]⟩
theorem emp9_17 {a : Nat} (ha : a ∈ stA) : ∀ f i m X, i + f = 48 → f < m → Gr X → ∃ Y, fX9_empty_17 m a (I i) X = fX9_empty_38 fuel a 0 Y ∧ FrO (a + 1) (a + 2) X Y ∧ (∀ j, i ≤ j → j < 48 → Y.2.1 (a + 1) j = 0) ∧ (∀ j, j < i → Y.2.1 (a + 1) j = X.2.1 (a + 1) j) := by
  intro f
  induction f with
  | zero =>
    intro i m X h1 h2 hG
    obtain ⟨m, rfl⟩ : ∃ z, m = z + 1 := ⟨m - 1, by omega⟩
    refine ⟨X, ?_, FrO.refl _ _ _, fun j h3 h4 => by omega, fun j h3 => rfl⟩
    rw [fX9_empty_17, if_neg (show ¬ I i < (48 : Int32) by rw [show i = 48 by omega]; decide)]
  | succ f ih =>
    intro i m X h1 h2 hG
    obtain ⟨m, rfl⟩ : ∃ z, m = z + 1 := ⟨m - 1, by omega⟩
    obtain ⟨Y, e1, e2, e3, e4⟩ := ih (i + 1) m (sC X (a + 1) (up (X.2.1 (a + 1)) i 0)) (by omega) (by omega) (hG.sC _ _)
    refine ⟨Y, ?_, (FrO.c _ (by omega)).trans e2, ?_, ?_⟩
    · rw [fX9_empty_17, if_pos (show I i < (48 : Int32) by rw [show (48 : Int32) = I 48 from rfl, I_lt (by omega) (by omega)]; omega), hG.g (st_ink a ha).1 (by rw [(st_ink a ha).2]), bs, stI_I (st_ink a ha).2 (by omega) (by omega), bs, show I i + (1 : Int32) = I (i + 1) from I_add i 1]
      exact e1
    · intro j h3 h4
      by_cases hj : j = i
      · rw [e4 j (by omega), sC_s, hj, up_s]
      · exact e3 j (by omega) h4
    · intro j h3
      rw [e4 j (by omega), sC_s, up_n _ _ (by omega)]
theorem mb0 (x : Nat) : mb 0 x = false := by simp [mb]
theorem tb0 (x : Nat) : tb 0 x = false := by simp [tb]
theorem there0 (x : Nat) : there C00 x = false := by simp [there, C00, Cel.D]
theorem stl0 (x : Nat) : stl r00 x = false := by
  show (decide (x < 48) && tb 0 (x % 8)) = false
  rw [tb0, Bool.and_false]
theorem emp9 {a : Nat} (ha : a ∈ stA) {X : Mem} (hG : Gr X) : ∃ ν, fX9_empty a X = some ν ∧ FrO a (a + 5) X ν ∧ SH C00 r00 a ν := by
  unfold fX9_empty
  rw [bs, bs, bs, sI_C, sL_C, sL_C]
  obtain ⟨Y, e1, e2, e3, _⟩ := emp9_17 ha 48 0 fuel (sLC (sLC (sC X a (up (X.2.1 a) 0 0)) a (up ((sC X a (up (X.2.1 a) 0 0)).2.2.1 a) 1 0)) a (up ((sLC (sC X a (up (X.2.1 a) 0 0)) a (up ((sC X a (up (X.2.1 a) 0 0)).2.2.1 a) 1 0)).2.2.1 a) 2 0)) (by omega) (by unfold fuel; omega) (((hG.sC _ _).sLC _ _).sLC _ _)
  have hGY : Gr Y := e2.gr (((hG.sC _ _).sLC _ _).sLC _ _)
  obtain ⟨ν, u1, u2, u3, _⟩ := emp38 ha 6 0 fuel Y (by omega) (by unfold fuel; omega) hGY
  refine ⟨ν, ?_, ?_, ?_⟩
  · exact e1.trans u1
  · exact (((FrO.c _ (by omega)).trans ((FrO.l _ (by omega)).trans (FrO.l _ (by omega)))).trans (e2.mono (by omega) (by omega))).trans (u2.mono (by omega) (by omega))
  · have ea : ν.2.1 a = up (X.2.1 a) 0 0 := by rw [u2.2.2.1 a (by omega), e2.2.2.1 a (by omega), sLC_i, sLC_i, sC_s]
    have el : ν.2.2.1 a = up (up (X.2.2.1 a) 1 0) 2 0 := by rw [u2.2.2.2 a (by omega), e2.2.2.2 a (by omega), sLC_s, sLC_s]; rfl
    refine ⟨by rw [ea, up_s]; rfl, fun x => ?_, fun x => ?_, fun x hx => ?_, fun p hp => ?_, fun p hp => ?_, fun p hp => ?_⟩
    · rw [el, up_n _ _ (by decide), up_s, mb0]
      unfold wh
      rw [there0, Bool.false_and]
    · rw [el, up_s, mb0, stl0]
    · rw [u2.2.2.1 (a + 1) (by omega), e3 x (by omega) hx]; rfl
    · rw [(u3 p (by omega) hp).1, if_neg (show ¬ p < C00.P from Nat.not_lt_zero p)]
    · rw [(u3 p (by omega) hp).2.1, if_neg (show ¬ p < C00.P from Nat.not_lt_zero p)]
    · rw [(u3 p (by omega) hp).2.2, if_neg (show ¬ p < C00.P from Nat.not_lt_zero p)]
theorem emp1_17 {q : Nat} (hq : q = 3 ∨ q = 17) : ∀ f i m X, i + f = 6 → f < m → Gr X → ∃ Y, fX1_empty_17 m q (I i) X = fX1_empty_17 1 q (I 6) Y ∧ FrO (q + 1) (q + 2) X Y ∧ (∀ j, i ≤ j → j < 6 → Y.2.1 (q + 1) j = 0) ∧ (∀ j, j < i → Y.2.1 (q + 1) j = X.2.1 (q + 1) j) := by
  intro f
  induction f with
  | zero =>
    intro i m X h1 h2 hG
    obtain ⟨m, rfl⟩ : ∃ z, m = z + 1 := ⟨m - 1, by omega⟩
    refine ⟨X, ?_, FrO.refl _ _ _, fun j h3 h4 => by omega, fun j h3 => rfl⟩
    rw [show i = 6 by omega, fX1_empty_17, fX1_empty_17]
    simp only [if_neg (show ¬ I 6 < (6 : Int32) by decide)]
  | succ f ih =>
    intro i m X h1 h2 hG
    obtain ⟨m, rfl⟩ : ∃ z, m = z + 1 := ⟨m - 1, by omega⟩
    have kq : kd (q + 1) = (0, 6) := by rcases hq with rfl | rfl <;> decide +kernel
    obtain ⟨Y, e1, e2, e3, e4⟩ := ih (i + 1) m (sC X (q + 1) (up (X.2.1 (q + 1)) i 0)) (by omega) (by omega) (hG.sC _ _)
    refine ⟨Y, ?_, (FrO.c _ (by omega)).trans e2, ?_, ?_⟩
    · rw [fX1_empty_17, if_pos (show I i < (6 : Int32) by rw [show (6 : Int32) = I 6 from rfl, I_lt (by omega) (by omega)]; omega), (cel_g hG hq).1, bs, stI_I kq (by omega) (by omega), bs, show I i + (1 : Int32) = I (i + 1) from I_add i 1]
      exact e1
    · intro j h3 h4
      by_cases hj : j = i
      · rw [e4 j (by omega), sC_s, hj, up_s]
      · exact e3 j (by omega) h4
    · intro j h3
      rw [e4 j (by omega), sC_s, up_n _ _ (by omega)]
theorem emp1 {q : Nat} (hq : q = 3 ∨ q = 17) {X : Mem} (hG : Gr X) (pc : Nat → Int32) : ∃ ν, fX1_empty q X = some ν ∧ FrO q (q + 14) X ν ∧ CE C00 [] [] pc q ν ∧ SH C00 r00 (q + 9) ν := by
  unfold fX1_empty
  rw [bs, bs, bs, sI_C, sI_C, sL_C, sC_s, sC_C]
  have hs : q + 9 ∈ stA := by rcases hq with rfl | rfl <;> decide
  obtain ⟨Y, e1, e2, e3, _⟩ := emp1_17 hq 6 0 fuel (sLC (sC X q (up (up (X.2.1 q) 0 0) 1 0)) q (up ((sC X q (up (up (X.2.1 q) 0 0) 1 0)).2.2.1 q) 2 0)) (by omega) (by unfold fuel; omega) ((hG.sC _ _).sLC _ _)
  have hGY : Gr Y := e2.gr ((hG.sC _ _).sLC _ _)
  have hG1 := hGY.sC (q + 3) (up (Y.2.1 (q + 3)) 1 0)
  have hG2 := hG1.sC (q + 6) (up (Y.2.1 (q + 6)) 1 0)
  obtain ⟨ν, u1, u2, u3⟩ := emp9 hs hG2
  refine ⟨ν, ?_, ?_, ?_, u3⟩
  · refine Eq.trans e1 ?_
    rw [fX1_empty_17, if_neg (by decide), (cel_g hGY hq).2.2.1, bs, bs, sI_C, (cel_g hG1 hq).2.2.2.1, bs, bs, sI_C, sC_n _ _ (by omega), (cel_g hG2 hq).2.2.2.2.1, bs, u1, bs]
  · exact (((FrO.c _ (by omega)).trans (FrO.l _ (by omega))).trans (e2.mono (by omega) (by omega))).trans (((FrO.c _ (by omega)).trans (FrO.c _ (by omega))).trans (u2.mono (by omega) (by omega)))
  · have eq0 : ν.2.1 q = up (up (X.2.1 q) 0 0) 1 0 := by rw [u2.2.2.1 q (by omega), sC_n _ _ (by omega), sC_n _ _ (by omega), e2.2.2.1 q (by omega), sLC_i, sC_s]
    have el : ν.2.2.1 q = up (X.2.2.1 q) 2 0 := by rw [u2.2.2.2 q (by omega)]; show Y.2.2.1 q = _; rw [e2.2.2.2 q (by omega), sLC_s]; rfl
    refine ⟨by rw [eq0, up_n _ _ (by decide), up_s]; rfl, by rw [eq0, up_s]; rfl, fun x => by rw [el, up_s, mb0, there0], fun d hd => ?_, fun p hp => absurd hp (Nat.not_lt_zero p), ?_, trivial, ?_, trivial, ?_, ?_⟩
    · rw [if_neg (show ¬ d < C00.D from Nat.not_lt_zero d), u2.2.2.1 (q + 1) (by omega), sC_n _ _ (by omega), sC_n _ _ (by omega), e3 d (by omega) hd]
    · rw [u2.2.2.1 (q + 3) (by omega), sC_n _ _ (by omega), sC_s, up_s]; rfl
    · rw [u2.2.2.1 (q + 6) (by omega), sC_s, up_s]; rfl
    · exact ⟨fun t ht => absurd ht List.not_mem_nil, Nat.zero_le _, fun h => absurd rfl h⟩
    · exact ⟨fun t ht => absurd ht List.not_mem_nil, Nat.zero_le _, fun h => absurd rfl h⟩
theorem AI0 (pc : Nat → Int32) : AI C00 pc r00 := by
  refine ⟨⟨Nat.zero_le _, Nat.zero_le _, fun d hd => absurd hd (Nat.not_lt_zero d)⟩, ⟨⟨fun x h => by rw [stl0] at h; exact absurd h (by decide), fun p hp => absurd hp (Nat.not_lt_zero p), fun p hp => absurd hp (Nat.not_lt_zero p)⟩, fun x _ _ => rfl, fun p hp => absurd hp (Nat.not_lt_zero p), fun d _ p _ => tb0 p⟩, fun p _ => rfl⟩
