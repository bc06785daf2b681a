/-! ERRANDS: both -/
section Qe
variable {C : Cel} {G Fd : List Itm} {pc : Nat → Int32} {k : Nat} {r : Row} {μ : Mem}
theorem r_errands (hI : INV C G Fd pc k r μ) (a : Int32) : RQ (fX11_errands 492 a μ) μ (if okW a 2 = true then 0 else 1) (ersV C r a) := by
  have hP := hI.2.1.2.1
  obtain ⟨t1, t2, t3, t4⟩ := thr0 μ
  unfold fX11_errands
  rw [bs, sI_C, show fX11_isWhat 492 a (1 : Int32) (thr μ 0) = _ from isWhat_ok (m := 1) t2 a (by decide)]
  by_cases h1 : okW a 2 = true
  · rw [if_pos h1, if_pos h1, bs]
    simp only
    rw [if_neg (by decide)]
    obtain ⟨M, u1, u2⟩ := laysE_ok hI t1 t3
    have hG := (u2.1.1.rc hI.2.2.2.2.2.2.1).1
    have h0 : M.2.1 511 0 = vlP 10000 (bE C r C.P 0) := by
      have := u2.2 C.P (Nat.le_refl _) 0 (Nat.pow_pos (by omega))
      rw [Nat.sub_self] at this
      exact this
    have hok := vlP_n (f := C.P) hP (bst_ok (P := C.P) (dE_le hI) C.P 0)
    rw [u1, bs, g_492_48 hG, bs, show ldI M 511 (0 : Int32) = some (M.2.1 511 0) from ld_511 (n := 0) (by omega), bs, h0, hok.2.1]
    unfold ersV
    by_cases a0 : a = 0
    · rw [if_pos a0, if_pos a0]
      exact RQ.fr t1 t2 t3 t4 u2.1.2.1 u2.1.2.2.1
    · rw [if_neg a0, if_neg a0, bs, show ldI M 511 (0 : Int32) = some (M.2.1 511 0) from ld_511 (n := 0) (by omega), bs, h0, hok.2.2.2]
      exact RQ.fr t1 t2 t3 t4 u2.1.2.1 u2.1.2.2.1
  · rw [if_neg h1, if_neg h1, bs]
    simp only [if_true]
    exact RQ.no (by decide) t1 t3 t4
theorem y42 (hI : INV C G Fd pc k r μ) {ν0 M : Mem} (h : TIe C r μ ν0 C.P M) {p s : Nat} (hp : p < C.P) (hs : s < 2 ^ C.P) (K : Nat → Int32 → Int32 → Int32 → Int32 → Mem → Option (Int32 × Mem)) (v1 : Int32) : ∀ u m, u ≤ C.P → u < m → fX11_errand_42 K m 492 v1 (I s) (enc (fdO (chq C r p s) u (C.P - u))) (I p) (I u - 1) M = (if enc (fdO (chq C r p s) 0 C.P) = (-1 : Int32) then K 492 v1 (I s) (enc (fdO (chq C r p s) 0 C.P)) (I (p + 1)) M else K 492 v1 (I s ||| ((1 : Int32) <<< (enc (fdO (chq C r p s) 0 C.P) &&& 31))) (enc (fdO (chq C r p s) 0 C.P)) (I (p + 1)) M) := by
  have hP := hI.2.1.2.1
  obtain ⟨mp1, mp2⟩ : ((1 : Int32) <<< (I C.P &&& 31)) = I (2 ^ C.P) ∧ 2 ^ C.P ≤ 64 := msk_P ⟨C.P, by omega⟩
  have hG := (h.1.1.rc hI.2.2.2.2.2.2.1).1
  intro u
  induction u with
  | zero =>
    intro m h1 h2
    obtain ⟨m, rfl⟩ : ∃ z, m = z + 1 := ⟨m - 1, by omega⟩
    rw [fX11_errand_42, if_pos (by decide), show I p + (1 : Int32) = I (p + 1) from I_add p 1, Nat.sub_zero]
  | succ u ih =>
    intro m h1 h2
    obtain ⟨m, rfl⟩ : ∃ z, m = z + 1 := ⟨m - 1, by omega⟩
    have hu : u < C.P := by omega
    have ihu := ih m (by omega) (by omega)
    have hfs : fdO (chq C r p s) u (C.P - u) = if chq C r p s u = true then some u else fdO (chq C r p s) (u + 1) (C.P - (u + 1)) := by
      rw [show C.P - u = (C.P - (u + 1)) + 1 by omega]
      rfl
    rw [show I (u + 1) - 1 = I u from I_sub (n := u + 1) (m := 1) (by omega), fX11_errand_42, if_neg (show ¬ I u < (0 : Int32) by rw [show (0 : Int32) = I 0 from rfl, I_lt (by omega) (by omega)]; omega), canTake_ok hI h.1 hp hu (by omega), bs, show I u + (-1 : Int32) = I u - 1 from (Int32.sub_eq_add_neg (I u) 1).symm]
    by_cases q : s.testBit u = false ∧ dE C r p u < 9999
    · have hd := dE_le hI p u
      rw [if_pos q, if_neg (by decide), takes_ok hI h.1 (f := C.P - (p + 1)) (by omega) (h.2 _ (by omega)) (by omega) hu hs q.2, bs, g_492_48 hG, bs, ix64, ld_511 (by omega), bs]
      have hrow : M.2.1 511 (64 * p + s) = vlP 10000 (bE C r (C.P - p) s) := by
        have := h.2 (C.P - p) (by omega) s hs
        rw [show C.P - (C.P - p) = p by omega] at this
        exact this
      rw [hrow]
      have heq : (vlP 10000 (cnd (bE C r (C.P - (p + 1))) (dE C r p) s u) = vlP 10000 (bE C r (C.P - p) s)) = (cnd (bE C r (C.P - (p + 1))) (dE C r p) s u = bE C r (C.P - p) s) := vlP_eq (f := C.P - p) (Or.inr rfl) (by omega) (by
        have := cnd_ok (m := s) (j := u) (bst_ok (P := C.P) (dE_le hI) (C.P - (p + 1)) _) (show dE C r p u ≤ 47 by omega)
        rw [show C.P - (p + 1) + 1 = C.P - p by omega] at this
        exact this) (bst_ok (P := C.P) (dE_le hI) (C.P - p) s)
      by_cases z : cnd (bE C r (C.P - (p + 1))) (dE C r p) s u = bE C r (C.P - p) s
      · rw [if_pos (by rw [heq]; exact z)]
        rw [if_pos (show chq C r p s u = true from decide_eq_true ⟨q, z⟩)] at hfs
        rw [hfs] at ihu
        exact ihu
      · rw [if_neg (by rw [heq]; exact z)]
        rw [if_neg (show ¬ chq C r p s u = true from fun w => z (of_decide_eq_true w).2)] at hfs
        rw [hfs] at ihu
        exact ihu
    · rw [if_neg q, if_pos rfl]
      rw [if_neg (show ¬ chq C r p s u = true from fun w => q (of_decide_eq_true w).1)] at hfs
      rw [hfs] at ihu
      exact ihu
theorem y26 (hI : INV C G Fd pc k r μ) {ν0 M : Mem} (h : TIe C r μ ν0 C.P M) {a : Nat} (ha : a < C.P) : ∀ f p m, p + f = a → f + 1 < m → ∀ v, fX11_errand_26 m 492 (I a) (I (tkN C r p)) v (I p) M = some (enc (tkC C r a), M) := by
  have hP := hI.2.1.2.1
  obtain ⟨mp1, mp2⟩ : ((1 : Int32) <<< (I C.P &&& 31)) = I (2 ^ C.P) ∧ 2 ^ C.P ≤ 64 := msk_P ⟨C.P, by omega⟩
  have one : ∀ p m v, p ≤ a → fX11_errand_26 (m + 1) 492 (I a) (I (tkN C r p)) v (I p) M = (if enc (tkC C r p) = (-1 : Int32) then fX11_errand_26 m 492 (I a) (I (tkN C r p)) (enc (tkC C r p)) (I (p + 1)) M else fX11_errand_26 m 492 (I a) (I (tkN C r p) ||| ((1 : Int32) <<< (enc (tkC C r p) &&& 31))) (enc (tkC C r p)) (I (p + 1)) M) := by
    intro p m v hp
    rw [fX11_errand_26, if_neg (show ¬ I a < I p by rw [I_lt (by omega) (by omega)]; omega), h.1.P hI]
    have := y42 hI h (p := p) (s := tkN C r p) (by omega) (tkN_lt hP p) (fX11_errand_26 m) (I a) C.P fuel (Nat.le_refl _) (by unfold fuel; omega)
    rw [Nat.sub_self] at this
    exact this
  intro f
  induction f with
  | zero =>
    intro p m h1 h2 v
    obtain ⟨m, rfl⟩ : ∃ z, m = z + 1 + 1 := ⟨m - 2, by omega⟩
    obtain rfl : p = a := by omega
    rw [one p (m + 1) v (Nat.le_refl _)]
    have hlast : ∀ s, fX11_errand_26 (m + 1) 492 (I p) s (enc (tkC C r p)) (I (p + 1)) M = some (enc (tkC C r p), M) := by
      intro s
      rw [fX11_errand_26, if_pos (show I p < I (p + 1) by rw [I_lt (by omega) (by omega)]; omega)]
    split
    · exact hlast _
    · exact hlast _
  | succ f ih =>
    intro p m h1 h2 v
    obtain ⟨m, rfl⟩ : ∃ z, m = z + 1 := ⟨m - 1, by omega⟩
    rw [one p m v (by omega)]
    have hn := tkN_s (C := C) (r := r) p
    have hl := tkN_lt (C := C) (r := r) hP p
    cases hc : tkC C r p with
    | none =>
      rw [hc] at hn
      simp only at hn
      rw [if_pos (show enc none = (-1 : Int32) from rfl), ← hn]
      exact ih (p + 1) m (by omega) (by omega) _
    | some j =>
      rw [hc] at hn
      simp only at hn
      have hj := fdO_lt _ _ _ hc
      have o1 : (I (tkN C r p) ||| ((1 : Int32) <<< (I j &&& 31))) = I (tkN C r p ||| 2 ^ j) := (msk_or ⟨tkN C r p, by omega⟩ ⟨j, by omega⟩).1
      rw [show enc (some j) = I j from rfl, if_neg (I_m1 (by omega)), o1, ← hn]
      exact ih (p + 1) m (by omega) (by omega) _
theorem r_errand (hI : INV C G Fd pc k r μ) (a : Int32) : RQ (fX11_errand 492 a μ) μ (if okP C a = true then 0 else 1) (erV C r a) := by
  have hP := hI.2.1.2.1
  obtain ⟨t1, t2, t3, t4⟩ := thr0 μ
  unfold fX11_errand
  rw [bs, sI_C, isPerson_ok (t1.rc hI.2.2.2.2.2.2.1) t2]
  by_cases h1 : okP C a = true
  · obtain ⟨p, hp, rfl⟩ := okP_ex hI.2.1 h1
    rw [if_pos h1, if_pos h1, bs]
    simp only
    rw [if_neg (by decide)]
    obtain ⟨M, u1, u2⟩ := laysE_ok hI t1 t3
    rw [u1, bs, show fX11_errand_26 fuel 492 (I p) (0 : Int32) (-1 : Int32) (0 : Int32) M = _ from y26 hI u2 hp p 0 fuel (by omega) (by unfold fuel; omega) (-1)]
    unfold erV
    rw [ix_I (by omega)]
    exact RQ.fr t1 t2 t3 t4 u2.1.2.1 u2.1.2.2.1
  · rw [if_neg h1, if_neg h1, bs]
    simp only [if_true]
    exact RQ.no (by decide) t1 t3 t4
theorem qq_errands (hI : INV C G Fd pc k r μ) (a : Int32) : QQ C G Fd pc k r (fun μ => fL_errands 0 a 518 μ) (fun ν => fX11_errands 492 a ν) μ := q_errands hI a (c_errands hI a) (by split <;> decide) (fun ν hν => r_errands hν a)
theorem qq_errand (hI : INV C G Fd pc k r μ) (a : Int32) : QQ C G Fd pc k r (fun μ => fL_errand 0 a 518 μ) (fun ν => fX11_errand 492 a ν) μ := q_errand hI a (c_errand hI a) (by split <;> decide) (fun ν hν => r_errand hν a)
end Qe
