/-! ERRANDS: the class answers -/
section Cr
variable {C : Cel} {G Fd : List Itm} {pc : Nat → Int32} {k : Nat} {r : Row} {μ : Mem}
theorem bestOf_ok (hI : INV C G Fd pc k r μ) {B0 M : Mem} (hB : FrB LC L2C μ B0) {f : Nat} (h : WI C r B0 C.P 0 M) (hf : f < C.P) (hrow : ∀ s, s < 2 ^ C.P → M.2.1 (480 + (C.P - f)) s = vlP 1000 (bE C r f s)) {p s : Nat} (hp : p = C.P - (f + 1)) (hs : s < 2 ^ C.P) : fX4_bestOf 471 (I p) (I s) M = some (vlP 1000 (bE C r (f + 1) s)) := by
  have hP := hI.2.1.2.1
  obtain ⟨mp1, mp2⟩ : ((1 : Int32) <<< (I C.P &&& 31)) = I (2 ^ C.P) ∧ 2 ^ C.P ≤ 64 := msk_P ⟨C.P, by omega⟩
  have hG := (hB.trans h.1).gr hI.1
  have hbo : ∀ s, okE f (bE C r f s) := bst_ok (dE_le hI) f
  unfold fX4_bestOf
  rw [g_471_2 hG, bs, show I p + (1 : Int32) = I (p + 1) from I_add p 1, ldR_479 hG (by omega), bs, ldI_I (rows_479 ⟨p + 1, by omega⟩).2 (by omega) (by omega), bs, show 480 + (p + 1) = 480 + (C.P - f) by omega, hrow s hs]
  have key := loop_eq (S := Nat) (R := Int32) (fun m j => fX4_bestOf_14 M m 471 (I p) (I s) (vlP 1000 (stepB (bE C r f) (dE C r p) s j)) (I j)) C.P id (some (vlP 1000 (bE C r (f + 1) s))) ?_ ?_ C.P fuel 0 rfl (by unfold fuel; omega)
  · exact key
  · intro m j hj
    show fX4_bestOf_14 M (m + 1) 471 (I p) (I s) (vlP 1000 (stepB (bE C r f) (dE C r p) s j)) (I j) = fX4_bestOf_14 M m 471 (I p) (I s) (vlP 1000 (stepB (bE C r f) (dE C r p) s (j + 1))) (I (j + 1))
    rw [fX4_bestOf_14, if_pos (show I j < M.2.1 471 0 by rw [h.2.2.1, I_lt (by omega) (by omega)]; omega), isFree_ok hI hB h (by omega) hj (by omega), bs, show I j + (1 : Int32) = I (j + 1) from I_add j 1]
    show _ = fX4_bestOf_14 M m 471 (I p) (I s) (vlP 1000 (if s.testBit j = false ∧ dE C r p j < 9999 then mxP (stepB (bE C r f) (dE C r p) s j) (cnd (bE C r f) (dE C r p) s j) else stepB (bE C r f) (dE C r p) s j)) (I (j + 1))
    by_cases q : s.testBit j = false ∧ dE C r p j < 9999
    · have hd := dE_le hI p j
      rw [if_pos q, if_pos q, if_neg (by decide), worthOf_ok hI hB h hf hrow hp hj hs q.2, bs, vlP_mx (f := f + 1) (Or.inl rfl) (by omega) (stepB_ok hbo (dE_le hI p) s j) (cnd_ok (hbo _) (by omega))]
      rfl
    · rw [if_neg q, if_neg q, if_pos rfl]
  · intro m
    show fX4_bestOf_14 M (m + 1) 471 (I p) (I s) (vlP 1000 (stepB (bE C r f) (dE C r p) s C.P)) (I C.P) = _
    rw [fX4_bestOf_14, if_neg (show ¬ I C.P < M.2.1 471 0 by rw [h.2.2.1, I_lt (by omega) (by omega)]; omega), hp]
    rfl
theorem BIe.st {B0 M : Mem} {f c : Nat} (h : BIe C r B0 f M) (hP : C.P ≤ 6) (g : Row) (hf : f < C.P) (hc : c = 480 + (C.P - (f + 1))) : BIe C r B0 f (sC M c g) := ⟨h.1.bs hP g (by omega) (by omega), fun f' a s b => by rw [sC_n _ _ (by omega)]; exact h.2 f' a s b⟩
theorem w137 (hI : INV C G Fd pc k r μ) {B0 : Mem} (hB : FrB LC L2C μ B0) {f p : Nat} (hf : f < C.P) (hp : p = C.P - (f + 1)) (K : Nat → Int32 → Mem → Option Mem) : ∀ u s m M, s + u = 2 ^ C.P → u < m → BIe C r B0 f M → (∀ s', s' < s → M.2.1 (480 + p) s' = vlP 1000 (bE C r (f + 1) s')) → ∃ M', fX4_weigh_137 K m 471 (I p) (I s) M = K 471 (I p + (-1)) M' ∧ BIe C r B0 (f + 1) M' := by
  have hP := hI.2.1.2.1
  obtain ⟨mp1, mp2⟩ : ((1 : Int32) <<< (I C.P &&& 31)) = I (2 ^ C.P) ∧ 2 ^ C.P ≤ 64 := msk_P ⟨C.P, by omega⟩
  intro u
  induction u with
  | zero =>
    intro s m M h1 h2 h h3
    obtain ⟨m, rfl⟩ : ∃ z, m = z + 1 := ⟨m - 1, by omega⟩
    refine ⟨M, ?_, h.1, fun f' a s' b => ?_⟩
    · rw [fX4_weigh_137, h.1.2.2.1, mp1, if_neg (show ¬ I s < I (2 ^ C.P) by rw [I_lt (by omega) (by omega)]; omega)]
    · by_cases e : f' = f + 1
      · subst e
        rw [← hp]
        exact h3 s' (by omega)
      · exact h.2 f' (by omega) s' b
  | succ u ih =>
    intro s m M h1 h2 h h3
    obtain ⟨m, rfl⟩ : ∃ z, m = z + 1 := ⟨m - 1, by omega⟩
    have hG := (hB.trans h.1.1).gr hI.1
    have kp : kd (480 + p) = (0, 64) := (rows_479 ⟨p, by omega⟩).2
    rw [fX4_weigh_137, h.1.2.2.1, mp1, if_pos (show I s < I (2 ^ C.P) by rw [I_lt (by omega) (by omega)]; omega), g_471_2 hG, bs, ldR_479 hG (by omega), bs, bestOf_ok hI hB h.1 hf (h.2 f (by omega)) hp (by omega), bs, stI_I kp (by omega) (by omega), bs, show I s + (1 : Int32) = I (s + 1) from I_add s 1]
    refine ih (s + 1) m _ (by omega) (by omega) (h.st hP _ hf (by omega)) (fun s' b => ?_)
    rw [sC_s]
    by_cases e : s' = s
    · rw [e, up_s]
    · rw [up_n _ _ e]; exact h3 s' (by omega)
theorem w129 (hI : INV C G Fd pc k r μ) {B0 : Mem} (hB : FrB LC L2C μ B0) : ∀ u f m M, f + u = C.P → u < m → BIe C r B0 f M → ∃ M', fX4_weigh_129 m 471 (I u - 1) M = some M' ∧ BIe C r B0 C.P M' := by
  have hP := hI.2.1.2.1
  obtain ⟨mp1, mp2⟩ : ((1 : Int32) <<< (I C.P &&& 31)) = I (2 ^ C.P) ∧ 2 ^ C.P ≤ 64 := msk_P ⟨C.P, by omega⟩
  intro u
  induction u with
  | zero =>
    intro f m M h1 h2 h
    obtain ⟨m, rfl⟩ : ∃ z, m = z + 1 := ⟨m - 1, by omega⟩
    obtain rfl : f = C.P := by omega
    exact ⟨M, by rw [fX4_weigh_129, if_pos (by decide)], h⟩
  | succ u ih =>
    intro f m M h1 h2 h
    obtain ⟨m, rfl⟩ : ∃ z, m = z + 1 := ⟨m - 1, by omega⟩
    obtain ⟨M', u1, u2⟩ := w137 hI hB (f := f) (p := u) (by omega) (by omega) (fX4_weigh_129 m) (2 ^ C.P) 0 fuel M (by omega) (by unfold fuel; omega) h (fun s' b => absurd b (Nat.not_lt_zero s'))
    obtain ⟨M2, v1, v2⟩ := ih (f + 1) m M' (by omega) (by omega) u2
    refine ⟨M2, ?_, v2⟩
    rw [show I (u + 1) - 1 = I u from I_sub (n := u + 1) (m := 1) (by omega), fX4_weigh_129, if_neg (show ¬ I u < (0 : Int32) by rw [show (0 : Int32) = I 0 from rfl, I_lt (by omega) (by omega)]; omega)]
    refine Eq.trans u1 ?_
    rw [show I u + (-1 : Int32) = I u - 1 from (Int32.sub_eq_add_neg (I u) 1).symm]
    exact v1
theorem weigh_ok (hI : INV C G Fd pc k r μ) {B0 : Mem} (hB : FrB LC L2C μ B0) (hD : GD C r 468 B0) : ∃ M, fX4_weigh 471 468 33 (I C.P) B0 = some M ∧ BIe C r B0 C.P M := by
  have hP := hI.2.1.2.1
  obtain ⟨mp1, mp2⟩ : ((1 : Int32) <<< (I C.P &&& 31)) = I (2 ^ C.P) ∧ 2 ^ C.P ≤ 64 := msk_P ⟨C.P, by omega⟩
  unfold fX4_weigh
  rw [bs, sI_C, show mnI (I C.P) (6 : Int32) = I C.P from (mn_I (a := C.P) (b := 6) (by omega) (by omega)).1.trans (by rw [Nat.min_eq_left hP])]
  obtain ⟨M1, u1, u2⟩ := w13 hI hB C.P 0 fuel (sC B0 471 (up (B0.2.1 471) 0 (I C.P))) (by omega) (by unfold fuel; omega) ⟨FrB.c47 _ (by omega) (by omega), hD.fr rfl, by rw [sC_s, up_s], fun p' j' a _ _ => by omega⟩
  obtain ⟨M2, v1, v2⟩ := w91 hI hB (2 ^ C.P) 0 fuel M1 (by omega) (by unfold fuel; omega) u2 (fun s' b => absurd b (Nat.not_lt_zero s'))
  obtain ⟨M3, w1, w2⟩ := w129 hI hB C.P 0 fuel M2 (by omega) (by unfold fuel; omega) v2
  exact ⟨M3, u1.trans (v1.trans w1), w2⟩
noncomputable def ersV (C : Cel) (r : Row) (a : Int32) : Int32 := if a = 0 then I (bE C r C.P 0).1 else I (bE C r C.P 0).2
theorem c_errands (hI : INV C G Fd pc k r μ) (a : Int32) : CQ (fX10_errands 0 a μ) μ (if okW a 2 = true then 0 else 1) (ersV C r a) := by
  have hP := hI.2.1.2.1
  obtain ⟨mp1, mp2⟩ : ((1 : Int32) <<< (I C.P &&& 31)) = I (2 ^ C.P) ∧ 2 ^ C.P ≤ 64 := msk_P ⟨C.P, by omega⟩
  unfold fX10_errands
  rw [show fX10_needWhat 0 a (2 : Int32) = _ from needW_ok a 2, bs]
  by_cases h1 : okW a 2 = true
  · rw [if_pos h1, if_pos h1]
    simp only
    obtain ⟨L0, e, f1, f2⟩ := here_ok hI
    have hG1 := f1.gr hI.1
    have hE := hI.2.2.2.2.2.1
    have hk := hI.2.2.1
    obtain ⟨M, u1, u2⟩ := weigh_ok hI f1 f2
    have hG2 := (f1.trans u2.1.1).gr hI.1
    rw [g_0_16 hI.1, bs, e, bs]
    simp only
    rw [g_0_7 hG1, bs, show gR (sLC μ 468 L0) 0 4 11 = some k from hI.cel, bs, show (sLC μ 468 L0).2.1 k 1 = I C.P from hE.2.1, u1, bs]
    have h0 : M.2.1 480 0 = vlP 1000 (bE C r C.P 0) := by
      have := u2.2 C.P (Nat.le_refl _) 0 (Nat.pow_pos (by omega))
      rw [Nat.sub_self] at this
      exact this
    have hok := vlP_n (f := C.P) hP (bst_ok (P := C.P) (dE_le hI) C.P 0)
    have hmany : fX4_many 471 M = some (I (bE C r C.P 0).1) := by
      unfold fX4_many
      rw [g_471_2 hG2, bs, show ldR M 479 (0 : Int32) 0 = some 480 from ldR_479 (j := 0) hG2 (by omega), bs, show ldI M 480 (0 : Int32) = some (M.2.1 480 0) from ld_480 (n := 0) (by omega), bs, h0, hok.1]
    unfold ersV
    by_cases a0 : a = 0
    · rw [if_pos a0, if_pos a0, g_0_16 hG2, bs, hmany, bs]
      exact ⟨M, f1.trans u2.1.1, Or.inl ⟨rfl, rfl⟩⟩
    · rw [if_neg a0, if_neg a0, g_0_16 hG2, bs]
      unfold fX4_farInAll
      rw [hmany, bs, g_471_2 hG2, bs, show ldR M 479 (0 : Int32) 0 = some 480 from ldR_479 (j := 0) hG2 (by omega), bs, show ldI M 480 (0 : Int32) = some (M.2.1 480 0) from ld_480 (n := 0) (by omega), bs, h0, hok.2.2.1, bs]
      exact ⟨M, f1.trans u2.1.1, Or.inl ⟨rfl, rfl⟩⟩
  · rw [if_neg h1, if_neg h1]
    exact ⟨μ, FrB.refl _ _ μ, Or.inr (Or.inl ⟨rfl, rfl⟩)⟩
/-- who takes which -/
def fdO (q : Nat → Bool) : Nat → Nat → Option Nat
  | _, 0 => none
  | j, f + 1 => if q j = true then some j else fdO q (j + 1) f
theorem fdO_s (q : Nat → Bool) (j f : Nat) : fdO q j (f + 1) = if q j = true then some j else fdO q (j + 1) f := rfl
theorem fdO_lt {q : Nat → Bool} : ∀ f j y, fdO q j f = some y → y < j + f := by
  intro f
  induction f with
  | zero => intro j y h; cases h
  | succ f ih =>
    intro j y h
    rw [fdO_s] at h
    split at h
    · have := Option.some.inj h; omega
    · have := ih (j + 1) y h; omega
noncomputable def chq (C : Cel) (r : Row) (p s j : Nat) : Bool := decide ((s.testBit j = false ∧ dE C r p j < 9999) ∧ cnd (bE C r (C.P - (p + 1))) (dE C r p) s j = bE C r (C.P - p) s)
noncomputable def tkN (C : Cel) (r : Row) : Nat → Nat
  | 0 => 0
  | p + 1 => match fdO (chq C r p (tkN C r p)) 0 C.P with
    | none => tkN C r p
    | some j => tkN C r p ||| 2 ^ j
noncomputable def tkC (C : Cel) (r : Row) (p : Nat) : Option Nat := fdO (chq C r p (tkN C r p)) 0 C.P
theorem tkN_s (p : Nat) : tkN C r (p + 1) = match tkC C r p with
    | none => tkN C r p
    | some j => tkN C r p ||| 2 ^ j := rfl
theorem tkN_lt (hP : C.P ≤ 6) : ∀ p, tkN C r p < 2 ^ C.P := by
  intro p
  induction p with
  | zero => exact Nat.pow_pos (by omega)
  | succ p ih =>
    rw [tkN_s]
    cases h : tkC C r p with
    | none => exact ih
    | some j =>
      have := fdO_lt _ _ _ h
      exact msk_in hP ih (by omega)
theorem first_ok (hI : INV C G Fd pc k r μ) {B0 M : Mem} (hB : FrB LC L2C μ B0) (h : BIe C r B0 C.P M) {p s : Nat} (hp : p < C.P) (hs : s < 2 ^ C.P) : fX4_firstChoice 471 (I p) (I s) M = some (enc (fdO (chq C r p s) 0 C.P)) := by
  have hP := hI.2.1.2.1
  obtain ⟨mp1, mp2⟩ : ((1 : Int32) <<< (I C.P &&& 31)) = I (2 ^ C.P) ∧ 2 ^ C.P ≤ 64 := msk_P ⟨C.P, by omega⟩
  have hG := (hB.trans h.1.1).gr hI.1
  have gen : ∀ f j m, j + f = C.P → f < m → fX4_firstChoice_2 M m 471 (I p) (I s) (I j) = some (enc (fdO (chq C r p s) j f)) := by
    intro f
    induction f with
    | zero =>
      intro j m h1 h2
      obtain ⟨m, rfl⟩ : ∃ z, m = z + 1 := ⟨m - 1, by omega⟩
      rw [fX4_firstChoice_2, if_neg (show ¬ I j < M.2.1 471 0 by rw [h.1.2.2.1, I_lt (by omega) (by omega)]; omega)]
      rfl
    | succ f ih =>
      intro j m h1 h2
      obtain ⟨m, rfl⟩ : ∃ z, m = z + 1 := ⟨m - 1, by omega⟩
      have hj : j < C.P := by omega
      rw [fX4_firstChoice_2, if_pos (show I j < M.2.1 471 0 by rw [h.1.2.2.1, I_lt (by omega) (by omega)]; omega), isFree_ok hI hB h.1 hp hj (by omega), bs, show I j + (1 : Int32) = I (j + 1) from I_add j 1, ih (j + 1) m (by omega) (by omega)]
      rw [fdO_s]
      by_cases q : s.testBit j = false ∧ dE C r p j < 9999
      · have hd := dE_le hI p j
        rw [if_pos q, if_neg (by decide), worthOf_ok hI hB h.1 (f := C.P - (p + 1)) (by omega) (h.2 _ (by omega)) (by omega) hj hs q.2, bs, g_471_2 hG, bs, ldR_479 hG (by omega), bs, ldI_I (rows_479 ⟨p, by omega⟩).2 (by omega) (by omega), bs]
        have hrow := h.2 (C.P - p) (by omega) s hs
        rw [show 480 + (C.P - (C.P - p)) = 480 + p by omega] at hrow
        have hb2 := bst_ok (P := C.P) (dE_le hI) (C.P - p) s
        rw [show (⟨p, by omega⟩ : Fin 7).1 = p from rfl, hrow]
        have heq : (vlP 1000 (cnd (bE C r (C.P - (p + 1))) (dE C r p) s j) = vlP 1000 (bE C r (C.P - p) s)) = (cnd (bE C r (C.P - (p + 1))) (dE C r p) s j = bE C r (C.P - p) s) := vlP_eq (f := C.P - p) (Or.inl rfl) (by omega) (by
          have := cnd_ok (m := s) (j := j) (bst_ok (P := C.P) (dE_le hI) (C.P - (p + 1)) _) (show dE C r p j ≤ 47 by omega)
          rw [show C.P - (p + 1) + 1 = C.P - p by omega] at this
          exact this) hb2
        by_cases z : cnd (bE C r (C.P - (p + 1))) (dE C r p) s j = bE C r (C.P - p) s
        · rw [if_pos (by rw [heq]; exact z), if_pos (show chq C r p s j = true from decide_eq_true ⟨q, z⟩)]
          rfl
        · rw [if_neg (by rw [heq]; exact z), if_neg (show ¬ chq C r p s j = true from fun w => z (of_decide_eq_true w).2)]
      · rw [if_neg q, if_pos rfl, if_neg (show ¬ chq C r p s j = true from fun w => q (of_decide_eq_true w).1)]
  exact gen C.P 0 fuel (by omega) (by unfold fuel; omega)
theorem taken_ok (hI : INV C G Fd pc k r μ) {B0 M : Mem} (hB : FrB LC L2C μ B0) (h : BIe C r B0 C.P M) {a : Nat} (ha : a < C.P) : fX4_takenBy 471 (I a) M = some (enc (tkC C r a)) := by
  have hP := hI.2.1.2.1
  obtain ⟨mp1, mp2⟩ : ((1 : Int32) <<< (I C.P &&& 31)) = I (2 ^ C.P) ∧ 2 ^ C.P ≤ 64 := msk_P ⟨C.P, by omega⟩
  have hfst : ∀ p, p < C.P → fX4_firstChoice 471 (I p) (I (tkN C r p)) M = some (enc (tkC C r p)) := fun p hp => first_ok hI hB h hp (tkN_lt hP p)
  have gen : ∀ f p m, p + f = a → f + 1 < m → ∀ v, fX4_takenBy_7 M m 471 (I a) (I (tkN C r p)) v (I p) = some (enc (tkC C r a)) := by
    intro f
    induction f with
    | zero =>
      intro p m h1 h2 v
      obtain ⟨m, rfl⟩ : ∃ z, m = z + 1 + 1 := ⟨m - 2, by omega⟩
      obtain rfl : p = a := by omega
      rw [fX4_takenBy_7, if_neg (show ¬ I p < I p by rw [I_lt (by omega) (by omega)]; omega), if_pos (show I p < M.2.1 471 0 by rw [h.1.2.2.1, I_lt (by omega) (by omega)]; omega), hfst p ha, bs, show I p + (1 : Int32) = I (p + 1) from I_add p 1]
      have hlast : ∀ s, fX4_takenBy_7 M (m + 1) 471 (I p) s (enc (tkC C r p)) (I (p + 1)) = some (enc (tkC C r p)) := by
        intro s
        rw [fX4_takenBy_7, if_pos (show I p < I (p + 1) by rw [I_lt (by omega) (by omega)]; omega)]
      show (if enc (tkC C r p) = (-1 : Int32) then _ else _) = _
      split
      · exact hlast _
      · exact hlast _
    | succ f ih =>
      intro p m h1 h2 v
      obtain ⟨m, rfl⟩ : ∃ z, m = z + 1 := ⟨m - 1, by omega⟩
      rw [fX4_takenBy_7, if_neg (show ¬ I a < I p by rw [I_lt (by omega) (by omega)]; omega), if_pos (show I p < M.2.1 471 0 by rw [h.1.2.2.1, I_lt (by omega) (by omega)]; omega), hfst p (by omega), bs, show I p + (1 : Int32) = I (p + 1) from I_add p 1]
      have hn := tkN_s (C := C) (r := r) p
      have hl := tkN_lt (C := C) (r := r) hP p
      show (if enc (tkC C r p) = (-1 : Int32) then _ else _) = _
      cases hc : tkC C r p with
      | none =>
        rw [hc] at hn
        simp only at hn
        rw [if_pos (show enc none = (-1 : Int32) from rfl), show I (tkN C r p) ||| (0 : Int32) = I (tkN C r (p + 1)) by rw [hn, Int32.or_zero]]
        exact ih (p + 1) m (by omega) (by omega) _
      | some j =>
        rw [hc] at hn
        simp only at hn
        have hj := fdO_lt _ _ _ hc
        have o1 : (I (tkN C r p) ||| ((1 : Int32) <<< (I j &&& 31))) = I (tkN C r p ||| 2 ^ j) := (msk_or ⟨tkN C r p, by omega⟩ ⟨j, by omega⟩).1
        rw [show enc (some j) = I j from rfl, if_neg (I_m1 (by omega)), o1, ← hn]
        exact ih (p + 1) m (by omega) (by omega) _
  exact gen a 0 fuel (by omega) (by unfold fuel; omega) _
noncomputable def erV (C : Cel) (r : Row) (a : Int32) : Int32 := enc (tkC C r (ix a))
theorem c_errand (hI : INV C G Fd pc k r μ) (a : Int32) : CQ (fX10_errand 0 a μ) μ (if okP C a = true then 0 else 1) (erV C r a) := by
  have hP := hI.2.1.2.1
  unfold fX10_errand
  rw [needP_ok hI, bs]
  by_cases h1 : okP C a = true
  · rw [if_pos h1, if_pos h1]
    simp only
    obtain ⟨p, hp, rfl⟩ := okP_ex hI.2.1 h1
    obtain ⟨L0, e, f1, f2⟩ := here_ok hI
    have hG1 := f1.gr hI.1
    have hE := hI.2.2.2.2.2.1
    obtain ⟨M, u1, u2⟩ := weigh_ok hI f1 f2
    have hG2 := (f1.trans u2.1.1).gr hI.1
    rw [g_0_16 hI.1, bs, e, bs]
    simp only
    rw [g_0_7 hG1, bs, show gR (sLC μ 468 L0) 0 4 11 = some k from hI.cel, bs, show (sLC μ 468 L0).2.1 k 1 = I C.P from hE.2.1, u1, bs, g_0_16 hG2, bs, taken_ok hI f1 u2 hp, bs]
    unfold erV
    rw [ix_I (by omega)]
    exact ⟨M, f1.trans u2.1.1, Or.inl ⟨rfl, rfl⟩⟩
  · rw [if_neg h1, if_neg h1]
    exact ⟨μ, FrB.refl _ _ μ, Or.inr (Or.inl ⟨rfl, rfl⟩)⟩
end Cr
