/-! ERRANDS: the class weighs them -/
section We
variable {C : Cel} {G Fd : List Itm} {pc : Nat → Int32} {k : Nat} {r : Row} {μ : Mem}
/-- how far it is for a person to where another one is sent; 9999: not at all -/
noncomputable def dE (C : Cel) (r : Row) (p j : Nat) : Nat := if p < C.P ∧ j < C.P ∧ ¬ r (61 + j) = -1 then dR C r (ix (r (61 + j))) (atN r p) else 9999
noncomputable def fE (C : Cel) (r : Row) (p j : Nat) : Int32 := if dE C r p j = 9999 then -1 else I (dE C r p j)
theorem INV.snt (hI : INV C G Fd pc k r μ) {j : Nat} (hj : j < C.P) (h : ¬ r (61 + j) = -1) : r (61 + j) = I (ix (r (61 + j))) ∧ there C (ix (r (61 + j))) = true := by
  rcases hI.good.1.2.2 j hj with q | ⟨x, q1, q2⟩
  · exact absurd q h
  · have hx48 := there_lt hI.2.1 q2
    rw [q1, ix_I (by omega)]
    exact ⟨rfl, q2⟩
theorem dE_le (hI : INV C G Fd pc k r μ) (p j : Nat) : dE C r p j ≤ 47 ∨ dE C r p j = 9999 := by
  unfold dE
  split
  · rename_i q
    have := dR_le hI (hI.snt q.2.1 q.2.2).2 (atN r p)
    omega
  · exact Or.inr rfl
theorem rows_472 : ∀ j : Fin 6, (472, j.1, 473 + j.1) ∈ gfix ∧ kd (473 + j.1) = (0, 6) := by decide +kernel
theorem rows_479 : ∀ j : Fin 7, (479, j.1, 480 + j.1) ∈ gfix ∧ kd (480 + j.1) = (0, 64) := by decide +kernel
theorem kd_472 : kd 472 = (3, 6) := by decide +kernel
theorem kd_479 : kd 479 = (3, 7) := by decide +kernel
theorem ldR_472 {μ : Mem} (hG : Gr μ) {j : Nat} (hj : j < 6) : ldR μ 472 (I j) 0 = some (473 + j) := by
  unfold ldR
  rw [kd_472, inb_I (by omega), if_pos (decide_eq_true hj), ix_I (by omega)]
  exact hG.g (rows_472 ⟨j, hj⟩).1 (by rw [(rows_472 ⟨j, hj⟩).2])
theorem ldR_479 {μ : Mem} (hG : Gr μ) {j : Nat} (hj : j < 7) : ldR μ 479 (I j) 0 = some (480 + j) := by
  unfold ldR
  rw [kd_479, inb_I (by omega), if_pos (decide_eq_true hj), ix_I (by omega)]
  exact hG.g (rows_479 ⟨j, hj⟩).1 (by rw [(rows_479 ⟨j, hj⟩).2])
theorem LC_47 {c : Nat} (h1 : 455 ≤ c) (h2 : c ≤ 491) : c ∈ LC := by
  have : ∀ d : Fin 37, 455 + d.1 ∈ LC := by decide
  have := this ⟨c - 455, by omega⟩
  simp only at this
  rw [show 455 + (c - 455) = c by omega] at this
  exact this
theorem FrB.c47 {μ : Mem} {c : Nat} (g : Row) (h1 : 455 ≤ c) (h2 : c ≤ 491) : FrB LC L2C μ (sC μ c g) := (FrI.c (L := LC) (L2 := L2C) μ g (LC_47 h1 h2)).b (fun _ h => h) (fun _ h => h)
theorem LC33 {c : Nat} (h1 : 33 ≤ c) (h2 : c < 40) : c ∉ LC := by
  intro h
  have : ∀ c ∈ LC, ¬ (33 ≤ c ∧ c < 40) := by decide
  exact this c h ⟨h1, h2⟩
/-- the class while it weighs: how far each has it -/
def WI (C : Cel) (r : Row) (B0 : Mem) (p j : Nat) (M : Mem) : Prop := FrB LC L2C B0 M ∧ GD C r 468 M ∧ M.2.1 471 0 = I C.P ∧ ∀ p' j', (p' < p ∨ (p' = p ∧ j' < j)) → p' < C.P → j' < C.P → M.2.1 (473 + p') j' = fE C r p' j'
theorem WI.nx {B0 M : Mem} {p : Nat} (h : WI C r B0 p C.P M) : WI C r B0 (p + 1) 0 M := ⟨h.1, h.2.1, h.2.2.1, fun p' j' a b c => h.2.2.2 p' j' (by omega) b c⟩
theorem WI.st {B0 M : Mem} {p j : Nat} (h : WI C r B0 p j M) (hp : p < 6) : WI C r B0 p (j + 1) (sC M (473 + p) (up (M.2.1 (473 + p)) j (fE C r p j))) := by
  refine ⟨h.1.trans (FrB.c47 _ (by omega) (by omega)), h.2.1.fr rfl, by rw [sC_n _ _ (by omega)]; exact h.2.2.1, fun p' j' a b c => ?_⟩
  by_cases e : p' = p
  · subst e
    rw [sC_s]
    by_cases e2 : j' = j
    · rw [e2, up_s]
    · rw [up_n _ _ e2]; exact h.2.2.2 p' j' (by omega) b c
  · rw [sC_n _ _ (by omega)]; exact h.2.2.2 p' j' (by omega) b c
theorem w25 (hI : INV C G Fd pc k r μ) {B0 : Mem} (hB : FrB LC L2C μ B0) {p : Nat} (hp : p < C.P) (K : Nat → Nat → Nat → Int32 → Mem → Option Mem) : ∀ f j m M, j + f = C.P → f < m → WI C r B0 p j M → ∃ M', fX4_weigh_25 K m 471 468 33 (I p) (I j) M = K 471 468 33 (I (p + 1)) M' ∧ WI C r B0 (p + 1) 0 M' := by
  have hC := hI.2.1
  have hP := hC.2.1
  have hs := hI.good.1.1
  intro f
  induction f with
  | zero =>
    intro j m M h1 h2 h
    obtain ⟨m, rfl⟩ : ∃ z, m = z + 1 := ⟨m - 1, by omega⟩
    obtain rfl : j = C.P := by omega
    refine ⟨M, ?_, h.nx⟩
    rw [fX4_weigh_25, if_neg (show ¬ I C.P < M.2.1 471 0 by rw [h.2.2.1, I_lt (by omega) (by omega)]; omega), show I p + (1 : Int32) = I (p + 1) from I_add p 1]
  | succ f ih =>
    intro j m M h1 h2 h
    obtain ⟨m, rfl⟩ : ∃ z, m = z + 1 := ⟨m - 1, by omega⟩
    have hj : j < C.P := by omega
    have hF := hB.trans h.1
    have hG := hF.gr hI.1
    have e36 : M.2.1 36 j = r (61 + j) := by
      rw [hF.2.2.1 36 (LC33 (by omega) (by omega))]
      exact (hI.now hj).2.1
    have e35 : M.2.1 35 p = r (55 + p) := by
      rw [hF.2.2.1 35 (LC33 (by omega) (by omega))]
      exact (hI.now hp).1
    rw [fX4_weigh_25, if_pos (show I j < M.2.1 471 0 by rw [h.2.2.1, I_lt (by omega) (by omega)]; omega), hG.g (st_sent 33 a33).1 (by rw [(st_sent 33 a33).2]), bs, show ldI M (33 + 3) (I j) = some (M.2.1 36 j) from ldI_I (st_sent 33 a33).2 (by omega) (by omega), bs, g_471_1 hG, bs, ldR_472 hG (by omega), bs, e36, show I j + (1 : Int32) = I (j + 1) from I_add j 1]
    have kp := (rows_472 ⟨p, by omega⟩).2
    by_cases q : r (61 + j) = -1
    · have hfE : fE C r p j = -1 := by
        have e9 : dE C r p j = 9999 := if_neg (fun z => z.2.2 q)
        unfold fE
        rw [e9, if_pos rfl]
      rw [if_pos q, stI_I kp (by omega) (by omega), bs]
      refine ih (j + 1) m _ (by omega) (by omega) ?_
      have := h.st (p := p) (by omega)
      rw [hfE] at this
      exact this
    · obtain ⟨s1, s2⟩ := hI.snt hj q
      obtain ⟨p1, p2, p3⟩ := hI.pl hp
      rw [if_neg q, hG.g (st_at 33 a33).1 (by rw [(st_at 33 a33).2]), bs, show ldI M (33 + 2) (I p) = some (M.2.1 35 p) from ldI_I (st_at 33 a33).2 (by omega) (by omega), bs, e35, p1, s1]
      obtain ⟨L, e, g1, g2, _⟩ := cfar_ok hG hC hs h.2.1 p2 s2
      rw [e, bs]
      simp only
      rw [stI_I kp (by omega) (by omega), bs]
      have hfE : fE C r p j = farV C r (ix (r (61 + j))) (atN r p) := by
        have e9 : dE C r p j = dR C r (ix (r (61 + j))) (atN r p) := if_pos ⟨hp, hj, q⟩
        unfold fE farV
        rw [e9]
      rw [← hfE]
      refine ih (j + 1) m _ (by omega) (by omega) (WI.st (M := sLC M 469 L) ⟨h.1.trans g1, g2, h.2.2.1, h.2.2.2⟩ (by omega))
theorem w13 (hI : INV C G Fd pc k r μ) {B0 : Mem} (hB : FrB LC L2C μ B0) : ∀ f p m M, p + f = C.P → f < m → WI C r B0 p 0 M → ∃ M', fX4_weigh_13 m 471 468 33 (I p) M = fX4_weigh_91 fuel 471 0 M' ∧ WI C r B0 C.P 0 M' := by
  have hC := hI.2.1
  have hP := hC.2.1
  intro f
  induction f with
  | zero =>
    intro p m M h1 h2 h
    obtain ⟨m, rfl⟩ : ∃ z, m = z + 1 := ⟨m - 1, by omega⟩
    obtain rfl : p = C.P := by omega
    refine ⟨M, ?_, h⟩
    rw [fX4_weigh_13, if_neg (show ¬ I C.P < M.2.1 471 0 by rw [h.2.2.1, I_lt (by omega) (by omega)]; omega)]
  | succ f ih =>
    intro p m M h1 h2 h
    obtain ⟨m, rfl⟩ : ∃ z, m = z + 1 := ⟨m - 1, by omega⟩
    obtain ⟨M', u1, u2⟩ := w25 hI hB (p := p) (by omega) (fX4_weigh_13 m) C.P 0 fuel M (by omega) (by unfold fuel; omega) h
    obtain ⟨M2, v1, v2⟩ := ih (p + 1) m M' (by omega) (by omega) u2
    refine ⟨M2, ?_, v2⟩
    rw [fX4_weigh_13, if_pos (show I p < M.2.1 471 0 by rw [h.2.2.1, I_lt (by omega) (by omega)]; omega)]
    exact u1.trans v1
/-- ... and the best from person P - f on, for each set of errands taken -/
noncomputable abbrev bE (C : Cel) (r : Row) : Nat → Nat → Nat × Nat := bst C.P (dE C r)
def BIe (C : Cel) (r : Row) (B0 : Mem) (f : Nat) (M : Mem) : Prop := WI C r B0 C.P 0 M ∧ ∀ f', f' ≤ f → ∀ s, s < 2 ^ C.P → M.2.1 (480 + (C.P - f')) s = vlP 1000 (bE C r f' s)
theorem WI.bs {B0 M : Mem} (h : WI C r B0 C.P 0 M) (hP : C.P ≤ 6) {c : Nat} (g : Row) (h1 : 480 ≤ c) (h2 : c ≤ 486) : WI C r B0 C.P 0 (sC M c g) := ⟨h.1.trans (FrB.c47 _ (by omega) (by omega)), h.2.1.fr rfl, by rw [sC_n _ _ (by omega)]; exact h.2.2.1, fun p' j' a b d => by rw [sC_n _ _ (by omega)]; exact h.2.2.2 p' j' a b d⟩
theorem w91 (hI : INV C G Fd pc k r μ) {B0 : Mem} (hB : FrB LC L2C μ B0) : ∀ f s m M, s + f = 2 ^ C.P → f < m → WI C r B0 C.P 0 M → (∀ s', s' < s → M.2.1 (480 + C.P) s' = 0) → ∃ M', fX4_weigh_91 m 471 (I s) M = fX4_weigh_129 fuel 471 (I C.P - 1) M' ∧ BIe C r B0 0 M' := by
  have hP := hI.2.1.2.1
  obtain ⟨mp1, mp2⟩ : ((1 : Int32) <<< (I C.P &&& 31)) = I (2 ^ C.P) ∧ 2 ^ C.P ≤ 64 := msk_P ⟨C.P, by omega⟩
  intro f
  induction f with
  | zero =>
    intro s m M h1 h2 h h3
    obtain ⟨m, rfl⟩ : ∃ z, m = z + 1 := ⟨m - 1, by omega⟩
    refine ⟨M, ?_, h, fun f' a s' b => ?_⟩
    · rw [fX4_weigh_91, h.2.2.1, mp1, if_neg (show ¬ I s < I (2 ^ C.P) by rw [I_lt (by omega) (by omega)]; omega)]
    · obtain rfl : f' = 0 := by omega
      rw [Nat.sub_zero, h3 s' (by omega)]
      rfl
  | succ f ih =>
    intro s m M h1 h2 h h3
    obtain ⟨m, rfl⟩ : ∃ z, m = z + 1 := ⟨m - 1, by omega⟩
    have hG := (hB.trans h.1).gr hI.1
    rw [fX4_weigh_91, h.2.2.1, mp1, if_pos (show I s < I (2 ^ C.P) by rw [I_lt (by omega) (by omega)]; omega), g_471_2 hG, bs, ldR_479 hG (by omega), bs, stI_I (rows_479 ⟨C.P, by omega⟩).2 (by omega) (by omega), bs, show I s + (1 : Int32) = I (s + 1) from I_add s 1]
    refine ih (s + 1) m _ (by omega) (by omega) (h.bs hP _ (by omega) (by omega)) (fun s' b => ?_)
    rw [sC_s]
    by_cases e : s' = s
    · rw [e, up_s]
    · rw [up_n _ _ e]; exact h3 s' (by omega)
/-- whether one may take an errand, and what it brings -/
theorem isFree_ok (hI : INV C G Fd pc k r μ) {B0 M : Mem} (hB : FrB LC L2C μ B0) (h : WI C r B0 C.P 0 M) {p j s : Nat} (hp : p < C.P) (hj : j < C.P) (hs : s < 64) : fX4_isFree 471 (I p) (I j) (I s) M = some (if s.testBit j = false ∧ dE C r p j < 9999 then 1 else 0) := by
  have hP := hI.2.1.2.1
  have hG := (hB.trans h.1).gr hI.1
  unfold fX4_isFree
  rw [g_471_1 hG, bs, ldR_472 hG (by omega), bs, ldI_I (rows_472 ⟨p, by omega⟩).2 (by omega) (by omega), bs, h.2.2.2 p j (by omega) hp hj]
  have hd := dE_le hI p j
  unfold fE
  by_cases q : dE C r p j = 9999
  · rw [if_pos q, if_pos rfl, if_neg (fun z => by omega)]
  · rw [if_neg q, if_neg (I_m1 (by omega))]
    by_cases z : s.testBit j = false
    · rw [if_pos (by rw [show ((((I s).toUInt32 >>> ((I j).toUInt32 &&& Int32.toUInt32 31)).toInt32) &&& (1 : Int32) = 0) = _ from msk_bitC ⟨s, hs⟩ ⟨j, by omega⟩]; exact z), if_pos ⟨z, by omega⟩]
    · rw [if_neg (by rw [show ((((I s).toUInt32 >>> ((I j).toUInt32 &&& Int32.toUInt32 31)).toInt32) &&& (1 : Int32) = 0) = _ from msk_bitC ⟨s, hs⟩ ⟨j, by omega⟩]; exact z), if_neg (fun w => z w.1)]
theorem worthOf_ok (hI : INV C G Fd pc k r μ) {B0 M : Mem} (hB : FrB LC L2C μ B0) {f : Nat} (h : WI C r B0 C.P 0 M) (hf : f < C.P) (hrow : ∀ s, s < 2 ^ C.P → M.2.1 (480 + (C.P - f)) s = vlP 1000 (bE C r f s)) {p j s : Nat} (hp : p = C.P - (f + 1)) (hj : j < C.P) (hs : s < 2 ^ C.P) (hd : dE C r p j < 9999) : fX4_worthOf 471 (I p) (I j) (I s) M = some (vlP 1000 (cnd (bE C r f) (dE C r p) s j)) := by
  have hP := hI.2.1.2.1
  obtain ⟨_, mp2⟩ := msk_P ⟨C.P, by omega⟩
  have mp2' : 2 ^ C.P ≤ 64 := mp2
  have hG := (hB.trans h.1).gr hI.1
  have hd' := dE_le hI p j
  obtain ⟨o1, o2⟩ := msk_or ⟨s, by omega⟩ ⟨j, by omega⟩
  have o1' : (I s ||| ((1 : Int32) <<< (I j &&& 31))) = I (s ||| 2 ^ j) := o1
  have hin := msk_in hP hs hj
  unfold fX4_worthOf
  rw [g_471_1 hG, bs, ldR_472 hG (by omega), bs, ldI_I (rows_472 ⟨p, by omega⟩).2 (by omega) (by omega), bs, h.2.2.2 p j (by omega) (by omega) hj, g_471_2 hG, bs, show I p + (1 : Int32) = I (p + 1) from I_add p 1, ldR_479 hG (by omega), bs, o1', ldI_I (rows_479 ⟨p + 1, by omega⟩).2 (by omega) (by omega), bs, show 480 + (p + 1) = 480 + (C.P - f) by omega, hrow _ hin]
  unfold fE
  rw [if_neg (by omega), show (1000 : Int32) = I 1000 from rfl, vlP_cnd (f := f) (Or.inl rfl) (bst_ok (dE_le hI) f _) (by omega)]
end We
