/-! ERRANDS: the reference -/
section Re
variable {C : Cel} {G Fd : List Itm} {pc : Nat → Int32} {k : Nat} {r : Row} {μ : Mem}
theorem ix6 (p j : Nat) : ((6 : Int32) * I p) + I j = I (6 * p + j) := by rw [show (6 : Int32) = I 6 from rfl, I_mul, I_add]
theorem ix64 (p j : Nat) : ((64 : Int32) * I p) + I j = I (64 * p + j) := by rw [show (64 : Int32) = I 64 from rfl, I_mul, I_add]
theorem ix64s (p j : Nat) : ((64 : Int32) * (I p + (1 : Int32))) + I j = I (64 * (p + 1) + j) := by rw [show I p + (1 : Int32) = I (p + 1) from I_add p 1]; exact ix64 _ _
/-- the reference while it weighs -/
def EI (C : Cel) (r : Row) (μ ν0 : Mem) (j p : Nat) (M : Mem) : Prop := FR μ M ∧ FR ν0 M ∧ M.2.1 492 = ν0.2.1 492 ∧ ∀ p' j', (j' < j ∨ (j' = j ∧ p' < p)) → p' < C.P → j' < C.P → M.2.1 510 (6 * p' + j') = I (dE C r p' j')
theorem EI.P {ν0 M : Mem} {j p : Nat} (hI : INV C G Fd pc k r μ) (h : EI C r μ ν0 j p M) : M.2.1 492 2 = I C.P := (h.1.rc hI.2.2.2.2.2.2.1).2.2.2.1
theorem EI.c {ν0 M : Mem} {j p : Nat} (h : EI C r μ ν0 j p M) {c : Nat} (g : Row) (hc : c = 506 ∨ c = 507 ∨ c = 511) : EI C r μ ν0 j p (sC M c g) := by
  have f : FR M (sC M c g) := by rcases hc with rfl | rfl | rfl <;> exact FR.c g (by decide) (by decide) (by decide)
  exact ⟨h.1.trans f, h.2.1.trans f, by rw [sC_n _ _ (by omega)]; exact h.2.2.1, fun p' j' a b d => by rw [sC_n _ _ (by omega)]; exact h.2.2.2 p' j' a b d⟩
theorem EI.st {ν0 M : Mem} {j p : Nat} (h : EI C r μ ν0 j p M) (hp : p < 6) (hj : j < C.P) (hP : C.P ≤ 6) : EI C r μ ν0 j (p + 1) (sC M 510 (up (M.2.1 510) (6 * p + j) (I (dE C r p j)))) := by
  have f : FR M (sC M 510 (up (M.2.1 510) (6 * p + j) (I (dE C r p j)))) := FR.c _ (by decide) (by decide) (by decide)
  refine ⟨h.1.trans f, h.2.1.trans f, by rw [sC_n _ _ (by decide)]; exact h.2.2.1, fun p' j' a b d => ?_⟩
  rw [sC_s]
  by_cases e : 6 * p' + j' = 6 * p + j
  · obtain ⟨rfl, rfl⟩ : p' = p ∧ j' = j := by omega
    rw [up_s]
  · rw [up_n _ _ e]; exact h.2.2.2 p' j' (by omega) b d
theorem EI.nx {ν0 M : Mem} {j : Nat} (h : EI C r μ ν0 j C.P M) : EI C r μ ν0 (j + 1) 0 M := ⟨h.1, h.2.1, h.2.2.1, fun p' j' a b d => h.2.2.2 p' j' (by omega) b d⟩
theorem x39 (hI : INV C G Fd pc k r μ) {ν0 : Mem} {j : Nat} (hj : j < C.P) (K : Nat → Int32 → Mem → Option Mem) : ∀ f p m M, p + f = C.P → f < m → EI C r μ ν0 j p M → (r (61 + j) = -1 ∨ ∀ y, there C y = true → M.2.1 506 y = I (dR C r (ix (r (61 + j))) y)) → ∃ M', fX11_laysErrands_39 K m 492 (I j) (I p) M = K 492 (I (j + 1)) M' ∧ EI C r μ ν0 (j + 1) 0 M' := by
  have hP := hI.2.1.2.1
  intro f
  induction f with
  | zero =>
    intro p m M h1 h2 h h3
    obtain ⟨m, rfl⟩ : ∃ z, m = z + 1 := ⟨m - 1, by omega⟩
    obtain rfl : p = C.P := by omega
    refine ⟨M, ?_, h.nx⟩
    rw [fX11_laysErrands_39, if_neg (show ¬ I C.P < M.2.1 492 2 by rw [h.P hI, I_lt (by omega) (by omega)]; omega), show I j + (1 : Int32) = I (j + 1) from I_add j 1]
  | succ f ih =>
    intro p m M h1 h2 h h3
    obtain ⟨m, rfl⟩ : ∃ z, m = z + 1 := ⟨m - 1, by omega⟩
    have hp : p < C.P := by omega
    have hG := (h.1.rc hI.2.2.2.2.2.2.1).1
    have e61 : M.2.1 502 (61 + j) = r (61 + j) := hI.row (by omega) h.1
    have e55 : M.2.1 502 (55 + p) = r (55 + p) := hI.row (by omega) h.1
    rw [fX11_laysErrands_39, if_pos (show I p < M.2.1 492 2 by rw [h.P hI, I_lt (by omega) (by omega)]; omega), g_492_47 hG, bs, g_492_34 hG, bs, show (61 : Int32) + I j = I (61 + j) from I_add 61 j, ld_502 (by omega), bs, e61, ix6, show I p + (1 : Int32) = I (p + 1) from I_add p 1]
    by_cases q : r (61 + j) = -1
    · have e9 : dE C r p j = 9999 := if_neg (fun z => z.2.2 q)
      rw [if_pos q, st_510 (by omega), bs]
      have := h.st (by omega) hj hP
      rw [e9] at this
      exact ih (p + 1) m _ (by omega) (by omega) this (Or.inl q)
    · have e9 : dE C r p j = dR C r (ix (r (61 + j))) (atN r p) := if_pos ⟨hp, hj, q⟩
      obtain ⟨p1, p2, p3⟩ := hI.pl hp
      have h4 := h3.resolve_left q
      rw [if_neg q, g_492_39 hG, bs, bs, show (55 : Int32) + I p = I (55 + p) from I_add 55 p, ld_502 (by omega), bs, e55, p1, ld_506 p3, bs, h4 _ p2, ← e9, st_510 (by omega), bs]
      exact ih (p + 1) m _ (by omega) (by omega) (h.st (by omega) hj hP) (Or.inr (fun y hy => by rw [sC_n _ _ (by decide)]; exact h4 y hy))
theorem x2 (hI : INV C G Fd pc k r μ) {ν0 : Mem} (h41 : ν0.2.1 492 41 = μ.2.1 492 41) : ∀ f j m M, j + f = C.P → f < m → EI C r μ ν0 j 0 M → ∃ M', fX11_laysErrands_2 m 492 (I j) M = fX11_laysErrands_105 fuel 492 0 M' ∧ EI C r μ ν0 C.P 0 M' := by
  have hP := hI.2.1.2.1
  intro f
  induction f with
  | zero =>
    intro j m M h1 h2 h
    obtain ⟨m, rfl⟩ : ∃ z, m = z + 1 := ⟨m - 1, by omega⟩
    obtain rfl : j = C.P := by omega
    refine ⟨M, ?_, h⟩
    rw [fX11_laysErrands_2, if_neg (show ¬ I C.P < M.2.1 492 2 by rw [h.P hI, I_lt (by omega) (by omega)]; omega)]
  | succ f ih =>
    intro j m M h1 h2 h
    obtain ⟨m, rfl⟩ : ∃ z, m = z + 1 := ⟨m - 1, by omega⟩
    have hj : j < C.P := by omega
    have hG := (h.1.rc hI.2.2.2.2.2.2.1).1
    have e61 : M.2.1 502 (61 + j) = r (61 + j) := hI.row (by omega) h.1
    rw [fX11_laysErrands_2, if_pos (show I j < M.2.1 492 2 by rw [h.P hI, I_lt (by omega) (by omega)]; omega), g_492_34 hG, bs, show (61 : Int32) + I j = I (61 + j) from I_add 61 j, ld_502 (by omega), bs, e61]
    by_cases q : r (61 + j) = -1
    · rw [if_pos q]
      obtain ⟨M', u1, u2⟩ := x39 hI hj (fX11_laysErrands_2 m) C.P 0 fuel M (by omega) (by unfold fuel; omega) h (Or.inl q)
      obtain ⟨M2, v1, v2⟩ := ih (j + 1) m M' (by omega) (by omega) u2
      exact ⟨M2, u1.trans v1, v2⟩
    · obtain ⟨s1, s2⟩ := hI.snt hj q
      obtain ⟨F, Q, e, g1, g2, g3⟩ := laysF hI h.1 (by rw [h.2.2.1]; exact h41) s2
      rw [if_neg q, bs, ld_502 (by omega), bs, e61, s1, e, bs]
      obtain ⟨M', u1, u2⟩ := x39 hI hj (fX11_laysErrands_2 m) C.P 0 fuel (mFQ M F Q) (by omega) (by unfold fuel; omega) ((h.c F (Or.inl rfl)).c Q (Or.inr (Or.inl rfl))) (Or.inr g3)
      obtain ⟨M2, v1, v2⟩ := ih (j + 1) m M' (by omega) (by omega) u2
      exact ⟨M2, u1.trans v1, v2⟩
def TIe (C : Cel) (r : Row) (μ ν0 : Mem) (f : Nat) (M : Mem) : Prop := EI C r μ ν0 C.P 0 M ∧ ∀ f', f' ≤ f → ∀ s, s < 2 ^ C.P → M.2.1 511 (64 * (C.P - f') + s) = vlP 10000 (bst C.P (dE C r) f' s)
theorem x105 (hI : INV C G Fd pc k r μ) {ν0 : Mem} : ∀ f s m M, s + f = 64 → f < m → EI C r μ ν0 C.P 0 M → (∀ s', s' < s → M.2.1 511 (64 * C.P + s') = 0) → ∃ M', fX11_laysErrands_105 m 492 (I s) M = fX11_laysErrands_139 fuel 492 (I C.P - 1) M' ∧ TIe C r μ ν0 0 M' := by
  have hP := hI.2.1.2.1
  obtain ⟨mp1, mp2⟩ : ((1 : Int32) <<< (I C.P &&& 31)) = I (2 ^ C.P) ∧ 2 ^ C.P ≤ 64 := msk_P ⟨C.P, by omega⟩
  intro f
  induction f with
  | zero =>
    intro s m M h1 h2 h h3
    obtain ⟨m, rfl⟩ : ∃ z, m = z + 1 := ⟨m - 1, by omega⟩
    refine ⟨M, ?_, h, fun f' a s' b => ?_⟩
    · rw [fX11_laysErrands_105, if_neg (show ¬ I s < (64 : Int32) by rw [show s = 64 by omega]; decide), h.P hI]
    · obtain rfl : f' = 0 := by omega
      rw [Nat.sub_zero, h3 s' (by omega)]
      rfl
  | succ f ih =>
    intro s m M h1 h2 h h3
    obtain ⟨m, rfl⟩ : ∃ z, m = z + 1 := ⟨m - 1, by omega⟩
    have hG := (h.1.rc hI.2.2.2.2.2.2.1).1
    rw [fX11_laysErrands_105, if_pos (show I s < (64 : Int32) by rw [show (64 : Int32) = I 64 from rfl, I_lt (by omega) (by omega)]; omega), g_492_48 hG, bs, h.P hI, ix64, st_511 (by omega), bs, show I s + (1 : Int32) = I (s + 1) from I_add s 1]
    refine ih (s + 1) m _ (by omega) (by omega) (h.c _ (by omega)) (fun s' b => ?_)
    rw [sC_s]
    by_cases e : s' = s
    · rw [e, up_s]
    · rw [up_n _ _ (by omega)]; exact h3 s' (by omega)
theorem canTake_ok (hI : INV C G Fd pc k r μ) {ν0 M : Mem} (h : EI C r μ ν0 C.P 0 M) {p j s : Nat} (hp : p < C.P) (hj : j < C.P) (hs : s < 64) : fX11_canTake 492 (I p) (I j) (I s) M = some (if s.testBit j = false ∧ dE C r p j < 9999 then 1 else 0) := by
  have hP := hI.2.1.2.1
  have hG := (h.1.rc hI.2.2.2.2.2.2.1).1
  have hd := dE_le hI p j
  have hb : (((I s >>> (I j &&& 31)) &&& (1 : Int32)) = 0) = (s.testBit j = false) := msk_bit ⟨s, hs⟩ ⟨j, by omega⟩
  unfold fX11_canTake
  by_cases z : s.testBit j = false
  · rw [if_pos (by rw [hb]; exact z), g_492_47 hG, bs, ix6, ld_510 (by omega), bs, h.2.2.2 p j (by omega) hp hj]
    by_cases q : dE C r p j < 9999
    · rw [if_pos (show I (dE C r p j) < (9999 : Int32) by rw [show (9999 : Int32) = I 9999 from rfl, I_lt (by omega) (by omega)]; exact q), if_pos ⟨z, q⟩]
    · rw [if_neg (show ¬ I (dE C r p j) < (9999 : Int32) by rw [show (9999 : Int32) = I 9999 from rfl, I_lt (by omega) (by omega)]; exact q), if_neg (fun w => q w.2)]
  · rw [if_neg (by rw [hb]; exact z), if_neg (fun w => z w.1)]
theorem takes_ok (hI : INV C G Fd pc k r μ) {ν0 M : Mem} {f : Nat} (h : EI C r μ ν0 C.P 0 M) (hf : f < C.P) (hrow : ∀ s, s < 2 ^ C.P → M.2.1 511 (64 * (C.P - f) + s) = vlP 10000 (bE C r f s)) {p j s : Nat} (hp : p = C.P - (f + 1)) (hj : j < C.P) (hs : s < 2 ^ C.P) (hd : dE C r p j < 9999) : fX11_takes 492 (I p) (I j) (I s) M = some (vlP 10000 (cnd (bE C r f) (dE C r p) s j)) := by
  have hP := hI.2.1.2.1
  obtain ⟨mp1, mp2⟩ : ((1 : Int32) <<< (I C.P &&& 31)) = I (2 ^ C.P) ∧ 2 ^ C.P ≤ 64 := msk_P ⟨C.P, by omega⟩
  have hG := (h.1.rc hI.2.2.2.2.2.2.1).1
  have hd' := dE_le hI p j
  have o1 : (I s ||| ((1 : Int32) <<< (I j &&& 31))) = I (s ||| 2 ^ j) := (msk_or ⟨s, by omega⟩ ⟨j, by omega⟩).1
  have hin := msk_in hP hs hj
  unfold fX11_takes
  rw [g_492_47 hG, bs, ix6, ld_510 (by omega), bs, h.2.2.2 p j (by omega) (by omega) hj, g_492_48 hG, bs, o1, ix64s, ld_511 (by omega), bs, show 64 * (p + 1) = 64 * (C.P - f) by omega, hrow _ hin, show (10000 : Int32) = I 10000 from rfl, vlP_cnd (f := f) (Or.inr rfl) (bst_ok (dE_le hI) f _) (by omega)]
theorem x172 (hI : INV C G Fd pc k r μ) {ν0 M : Mem} {f : Nat} (h : EI C r μ ν0 C.P 0 M) (hf : f < C.P) (hrow : ∀ s, s < 2 ^ C.P → M.2.1 511 (64 * (C.P - f) + s) = vlP 10000 (bE C r f s)) {p s : Nat} (hp : p = C.P - (f + 1)) (hs : s < 2 ^ C.P) (K : Nat → Int32 → Int32 → Mem → Option Mem) : ∀ u j m, j + u = C.P → u < m → fX11_laysErrands_172 K m 492 (I p) (I s) (vlP 10000 (stepB (bE C r f) (dE C r p) s j)) (I j) M = K 492 (I p) (I (s + 1)) (sC M 511 (up (M.2.1 511) (64 * p + s) (vlP 10000 (bE C r (f + 1) s)))) := by
  have hP := hI.2.1.2.1
  obtain ⟨mp1, mp2⟩ : ((1 : Int32) <<< (I C.P &&& 31)) = I (2 ^ C.P) ∧ 2 ^ C.P ≤ 64 := msk_P ⟨C.P, by omega⟩
  have hG := (h.1.rc hI.2.2.2.2.2.2.1).1
  have hbo : ∀ s, okE f (bE C r f s) := bst_ok (dE_le hI) f
  intro u
  induction u with
  | zero =>
    intro j m h1 h2
    obtain ⟨m, rfl⟩ : ∃ z, m = z + 1 := ⟨m - 1, by omega⟩
    obtain rfl : j = C.P := by omega
    have eb : stepB (bE C r f) (dE C r p) s C.P = bE C r (f + 1) s := by rw [hp]; rfl
    rw [fX11_laysErrands_172, if_neg (show ¬ I C.P < M.2.1 492 2 by rw [h.P hI, I_lt (by omega) (by omega)]; omega), g_492_48 hG, bs, ix64, st_511 (by omega), bs, show I s + (1 : Int32) = I (s + 1) from I_add s 1, eb]
  | succ u ih =>
    intro j m h1 h2
    obtain ⟨m, rfl⟩ : ∃ z, m = z + 1 := ⟨m - 1, by omega⟩
    have hj : j < C.P := by omega
    have ihj := ih (j + 1) m (by omega) (by omega)
    have es : stepB (bE C r f) (dE C r p) s (j + 1) = if s.testBit j = false ∧ dE C r p j < 9999 then mxP (stepB (bE C r f) (dE C r p) s j) (cnd (bE C r f) (dE C r p) s j) else stepB (bE C r f) (dE C r p) s j := rfl
    rw [fX11_laysErrands_172, if_pos (show I j < M.2.1 492 2 by rw [h.P hI, I_lt (by omega) (by omega)]; omega), canTake_ok hI h (by omega) hj (by omega), bs, show I j + (1 : Int32) = I (j + 1) from I_add j 1]
    by_cases q : s.testBit j = false ∧ dE C r p j < 9999
    · have hd := dE_le hI p j
      have ht := takes_ok hI h hf hrow hp hj hs q.2
      have hmx := vlP_mx (K := 10000) (f := f + 1) (Or.inr rfl) (by omega) (stepB_ok hbo (dE_le hI p) s j) (cnd_ok (m := s) (j := j) (hbo _) (show dE C r p j ≤ 47 by omega))
      rw [if_pos q] at es
      rw [es, hmx] at ihj
      rw [if_pos q, if_neg (by decide), ht, bs]
      by_cases w : vlP 10000 (stepB (bE C r f) (dE C r p) s j) < vlP 10000 (cnd (bE C r f) (dE C r p) s j)
      · rw [if_pos w, bs]
        rw [if_pos w] at ihj
        exact ihj
      · rw [if_neg w]
        rw [if_neg w] at ihj
        exact ihj
    · rw [if_neg q] at es
      rw [es] at ihj
      rw [if_neg q, if_pos rfl]
      exact ihj
theorem x145 (hI : INV C G Fd pc k r μ) {ν0 : Mem} {f p : Nat} (hf : f < C.P) (hp : p = C.P - (f + 1)) (K : Nat → Int32 → Mem → Option Mem) : ∀ u s m M, s + u = 2 ^ C.P → u < m → TIe C r μ ν0 f M → (∀ s', s' < s → M.2.1 511 (64 * p + s') = vlP 10000 (bE C r (f + 1) s')) → ∃ M', fX11_laysErrands_145 K m 492 (I p) (I s) M = K 492 (I p + (-1)) M' ∧ TIe C r μ ν0 (f + 1) M' := by
  have hP := hI.2.1.2.1
  obtain ⟨mp1, mp2⟩ : ((1 : Int32) <<< (I C.P &&& 31)) = I (2 ^ C.P) ∧ 2 ^ C.P ≤ 64 := msk_P ⟨C.P, by omega⟩
  intro u
  induction u with
  | zero =>
    intro s m M h1 h2 h h3
    obtain ⟨m, rfl⟩ : ∃ z, m = z + 1 := ⟨m - 1, by omega⟩
    refine ⟨M, ?_, h.1, fun f' a s' b => ?_⟩
    · rw [fX11_laysErrands_145, h.1.P hI, mp1, if_neg (show ¬ I s < I (2 ^ C.P) by rw [I_lt (by omega) (by omega)]; omega)]
    · by_cases e : f' = f + 1
      · subst e
        rw [← hp]
        exact h3 s' (by omega)
      · exact h.2 f' (by omega) s' b
  | succ u ih =>
    intro s m M h1 h2 h h3
    obtain ⟨m, rfl⟩ : ∃ z, m = z + 1 := ⟨m - 1, by omega⟩
    have hG := (h.1.1.rc hI.2.2.2.2.2.2.1).1
    have hx := x172 hI h.1 hf (h.2 f (by omega)) hp (s := s) (by omega) (fX11_laysErrands_145 K m) C.P 0 fuel (by omega) (by unfold fuel; omega)
    obtain ⟨M', v1, v2⟩ := ih (s + 1) m (sC M 511 (up (M.2.1 511) (64 * p + s) (vlP 10000 (bE C r (f + 1) s)))) (by omega) (by omega) ⟨h.1.c _ (by omega), fun f' a s' b => by rw [sC_s, up_n _ _ (by omega)]; exact h.2 f' a s' b⟩ (fun s' b => by
      rw [sC_s]
      by_cases e : s' = s
      · rw [e, up_s]
      · rw [up_n _ _ (by omega)]; exact h3 s' (by omega))
    refine ⟨M', ?_, v2⟩
    rw [fX11_laysErrands_145, h.1.P hI, mp1, if_pos (show I s < I (2 ^ C.P) by rw [I_lt (by omega) (by omega)]; omega), g_492_48 hG, bs, ix64s, ld_511 (by omega), bs, show 64 * (p + 1) = 64 * (C.P - f) by omega, h.2 f (by omega) s (by omega)]
    exact Eq.trans hx v1
theorem x139 (hI : INV C G Fd pc k r μ) {ν0 : Mem} : ∀ u f m M, f + u = C.P → u < m → TIe C r μ ν0 f M → ∃ M', fX11_laysErrands_139 m 492 (I u - 1) M = some M' ∧ TIe C r μ ν0 C.P M' := by
  have hP := hI.2.1.2.1
  obtain ⟨mp1, mp2⟩ : ((1 : Int32) <<< (I C.P &&& 31)) = I (2 ^ C.P) ∧ 2 ^ C.P ≤ 64 := msk_P ⟨C.P, by omega⟩
  intro u
  induction u with
  | zero =>
    intro f m M h1 h2 h
    obtain ⟨m, rfl⟩ : ∃ z, m = z + 1 := ⟨m - 1, by omega⟩
    obtain rfl : f = C.P := by omega
    exact ⟨M, by rw [fX11_laysErrands_139, if_pos (by decide)], h⟩
  | succ u ih =>
    intro f m M h1 h2 h
    obtain ⟨m, rfl⟩ : ∃ z, m = z + 1 := ⟨m - 1, by omega⟩
    obtain ⟨M', u1, u2⟩ := x145 hI (f := f) (p := u) (by omega) (by omega) (fX11_laysErrands_139 m) (2 ^ C.P) 0 fuel M (by omega) (by unfold fuel; omega) h (fun s' b => absurd b (Nat.not_lt_zero s'))
    obtain ⟨M2, v1, v2⟩ := ih (f + 1) m M' (by omega) (by omega) u2
    refine ⟨M2, ?_, v2⟩
    rw [show I (u + 1) - 1 = I u from I_sub (n := u + 1) (m := 1) (by omega), fX11_laysErrands_139, if_neg (show ¬ I u < (0 : Int32) by rw [show (0 : Int32) = I 0 from rfl, I_lt (by omega) (by omega)]; omega)]
    refine Eq.trans u1 ?_
    rw [show I u + (-1 : Int32) = I u - 1 from (Int32.sub_eq_add_neg (I u) 1).symm]
    exact v1
theorem laysE_ok (hI : INV C G Fd pc k r μ) {ν0 : Mem} (t1 : FR μ ν0) (h41 : ν0.2.1 492 41 = μ.2.1 492 41) : ∃ M, fX11_laysErrands 492 ν0 = some M ∧ TIe C r μ ν0 C.P M := by
  have hP := hI.2.1.2.1
  unfold fX11_laysErrands
  obtain ⟨M1, u1, u2⟩ := x2 hI h41 C.P 0 fuel ν0 (by omega) (by unfold fuel; omega) ⟨t1, FR.refl ν0, rfl, fun p' j' a _ _ => by omega⟩
  obtain ⟨M2, v1, v2⟩ := x105 hI 64 0 fuel M1 (by omega) (by unfold fuel; omega) u2 (fun s' b => absurd b (Nat.not_lt_zero s'))
  obtain ⟨M3, w1, w2⟩ := x139 hI C.P 0 fuel M2 (by omega) (by unfold fuel; omega) v2
  exact ⟨M3, u1.trans (v1.trans w1), w2⟩
end Re
