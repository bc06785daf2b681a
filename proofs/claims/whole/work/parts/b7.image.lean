/-! the image: copies -/
theorem kd_250 : kd 250 = (4, 40) := by decide +kernel
theorem rows_250 : ∀ j : Fin 40, (250, j.1, 251 + 5 * j.1) ∈ gfix ∧ (kd (251 + 5 * j.1)).1 = 19 := by decide +kernel
theorem stA_m : ∀ j : Fin 40, 251 + 5 * j.1 ∈ stA := by decide
theorem ldR_250 {μ : Mem} (hG : Gr μ) {j : Nat} (hj : j < 40) : ldR μ 250 (I j) 19 = some (251 + 5 * j) := by
  unfold ldR
  rw [kd_250, inb_I (by omega), if_pos (decide_eq_true hj), ix_I (by omega)]
  exact hG.g (rows_250 ⟨j, hj⟩).1 (rows_250 ⟨j, hj⟩).2
theorem acts_g {a : Nat} {μ : Mem} (ha : a = 38 ∨ a = 249) (hG : Gr μ) : gR μ a 2 4 = some (a + 1) ∧ (∀ j, j < 40 → ldR μ (a + 1) (I j) 19 = some (a + 2 + 5 * j)) ∧ ∀ j, j < 40 → a + 2 + 5 * j ∈ stA := by
  rcases ha with rfl | rfl
  · exact ⟨g_38_2 hG, fun j hj => ldR_39 hG hj, fun j hj => stA_k ⟨j, hj⟩⟩
  · exact ⟨g_249_2 hG, fun j hj => ldR_250 hG hj, fun j hj => stA_m ⟨j, hj⟩⟩
/-- nothing changes outside of some cells -/
def FrO (lo hi : Nat) (μ ν : Mem) : Prop := ν.1 = μ.1 ∧ ν.2.2.2 = μ.2.2.2 ∧ (∀ c, c < lo ∨ hi ≤ c → ν.2.1 c = μ.2.1 c) ∧ (∀ c, c < lo ∨ hi ≤ c → ν.2.2.1 c = μ.2.2.1 c)
theorem FrO.refl (lo hi : Nat) (μ : Mem) : FrO lo hi μ μ := ⟨rfl, rfl, fun _ _ => rfl, fun _ _ => rfl⟩
theorem FrO.trans {lo hi : Nat} {μ ν ξ : Mem} (h : FrO lo hi μ ν) (h' : FrO lo hi ν ξ) : FrO lo hi μ ξ := ⟨h'.1.trans h.1, h'.2.1.trans h.2.1, fun c hc => (h'.2.2.1 c hc).trans (h.2.2.1 c hc), fun c hc => (h'.2.2.2 c hc).trans (h.2.2.2 c hc)⟩
theorem FrO.mono {lo hi lo' hi' : Nat} {μ ν : Mem} (h : FrO lo hi μ ν) (h1 : lo' ≤ lo) (h2 : hi ≤ hi') : FrO lo' hi' μ ν := ⟨h.1, h.2.1, fun c hc => h.2.2.1 c (by omega), fun c hc => h.2.2.2 c (by omega)⟩
theorem FrO.c {lo hi : Nat} {μ : Mem} {a : Nat} (g : Row) (h : lo ≤ a ∧ a < hi) : FrO lo hi μ (sC μ a g) := ⟨rfl, rfl, fun c hc => sC_n μ g (by omega), fun _ _ => rfl⟩
theorem FrO.gr {lo hi : Nat} {μ ν : Mem} (h : FrO lo hi μ ν) (hG : Gr μ) : Gr ν := hG.r h.1 h.2.1
theorem FrO.of {a : Nat} {μ ν : Mem} (h : FrI [a, a + 1, a + 2, a + 3, a + 4] [a] μ ν) : FrO a (a + 5) μ ν := ⟨h.1, h.2.1, fun c hc => h.2.2.1 c (by simp; omega), fun c hc => h.2.2.2 c (by simp; omega)⟩
theorem FrO.sh {C : Cel} {r : Row} {lo hi a : Nat} {μ ν : Mem} (h : FrO lo hi μ ν) (hS : SH C r a μ) (ha : a + 5 ≤ lo ∨ hi ≤ a) : SH C r a ν := hS.fr5 (fun c _ _ => h.2.2.1 c (by omega)) (h.2.2.2 a (by omega))
theorem FrO.actC {C : Cel} {K : Nat} {R : Nat → Row} {lo hi a : Nat} {μ ν : Mem} (h : FrO lo hi μ ν) (hA : ActC C K R a (a + 2) μ) (ha : a + 202 ≤ lo ∨ hi ≤ a) : ActC C K R a (a + 2) ν := by
  obtain ⟨o, ho, h0, h1, h2⟩ := hA
  exact ⟨o, ho, by rw [h.2.2.1 a (by omega)]; exact h0, by rw [h.2.2.1 a (by omega)]; exact h1, fun i hi => h.sh (h2 i hi) (by omega)⟩
theorem cpA {C : Cel} {K : Nat} {R : Nat → Row} {a b : Nat} {μ : Mem} (hab : a = 249 ∧ b = 38 ∨ a = 38 ∧ b = 249) (hG : Gr μ) (hK : K ≤ 40) (hA : ActC C K R b (b + 2) μ) : ∃ ν, fX0_copyFrom a b μ = some ν ∧ FrO a (a + 202) μ ν ∧ ActC C K R a (a + 2) ν := by
  have hA' := hA
  obtain ⟨o, ho, h0, h1, h2⟩ := hA
  unfold fX0_copyFrom
  rw [bs, bs, sI_C, sI_C, sC_C, sC_s, h0]
  have hF0 : FrO a (a + 202) μ (sC μ a (up (up (μ.2.1 a) 0 (I K)) 1 0)) := FrO.c _ (by omega)
  obtain ⟨⟨j, N⟩, e2, i1, i2, i3, i4, i5⟩ := loop_k (S := Nat × Mem) (R := Option Mem)
    (fun m s => fX0_copyFrom_15 m a b (I s.1) s.2) (fun s => some s.2) K
    (fun j s => s.1 = j ∧ FrO a (a + 202) μ s.2 ∧ s.2.2.1 a 0 = I K ∧ s.2.2.1 a 1 = 0 ∧ ∀ i, i < j → SH C (R i) (a + 2 + 5 * i) s.2)
    (by
      rintro m j ⟨j', N⟩ hj ⟨i1, i2, i3, i4, i5⟩
      simp only at i1 i2 i3 i4 i5
      subst i1
      have hGN := i2.gr hG
      obtain ⟨g1, g2, g3⟩ := acts_g (a := a) (by omega) hGN
      obtain ⟨g4, g5, g6⟩ := acts_g (a := b) (by omega) hGN
      have hq : (o + j') % 40 < 40 := Nat.mod_lt _ (by decide)
      obtain ⟨ξ, e, f1, f2⟩ := copyFrom_ok hGN (g3 j' (by omega)) (g6 _ hq) (by omega) (i2.sh (h2 j' hj) (by omega))
      show ∃ s', fX0_copyFrom_15 (m + 1) a b (I j') N = _ ∧ _
      rw [fX0_copyFrom_15, if_pos (show I j' < N.2.1 a 0 by rw [i3, I_lt (by omega) (by omega)]; exact hj), g1, bs, g2 j' (by omega), bs, g4, bs, show N.2.1 b 1 = I o by rw [i2.2.2.1 b (by omega)]; exact h1, I_add, I_mod (by omega) (by decide), show (OfNat.ofNat 40 : Nat) = 40 from rfl, g5 _ hq, bs, e, bs, I_addl]
      have f3 := FrO.of f1
      refine ⟨(j' + 1, ξ), rfl, rfl, i2.trans (f3.mono (by omega) (by omega)), ?_, ?_, ?_⟩
      · show ξ.2.1 a 0 = _
        rw [f3.2.2.1 a (by omega)]; exact i3
      · show ξ.2.1 a 1 = _
        rw [f3.2.2.1 a (by omega)]; exact i4
      · intro i hi
        by_cases e3 : i = j'
        · subst e3; exact f2
        · exact f3.sh (i5 i (by omega)) (by omega))
    (by
      rintro m ⟨j', N⟩ ⟨i1, i2, i3, i4, i5⟩
      simp only at i1 i3
      subst i1
      show fX0_copyFrom_15 (m + 1) a b (I j') N = _
      rw [fX0_copyFrom_15, if_neg (show ¬ I j' < N.2.1 a 0 by rw [i3, I_lt (by omega) (by omega)]; omega)])
    K fuel 0 (0, sC μ a (up (up (μ.2.1 a) 0 (I K)) 1 0)) rfl (by unfold fuel; omega) ⟨rfl, hF0, by show (sC μ a _).2.1 a 0 = _; rw [sC_s, up_n _ _ (by decide), up_s], by show (sC μ a _).2.1 a 1 = _; rw [sC_s, up_s], fun i hi => absurd hi (by omega)⟩
  refine ⟨N, e2, i2, 0, by decide, i3, i4, ?_⟩
  intro i hi
  rw [show (0 + i) % 40 = i by omega]
  exact i5 i hi
theorem see_g {a : Nat} {μ : Mem} (ha : a = 240 ∨ a = 451) (hG : Gr μ) : gR μ a 1 0 = some (a + 1) ∧ gR μ a 2 0 = some (a + 2) ∧ gR μ a 3 0 = some (a + 3) ∧ kd (a + 1) = (0, 8) ∧ kd (a + 2) = (0, 8) ∧ kd (a + 3) = (0, 8) := by
  rcases ha with rfl | rfl
  · exact ⟨g_240_1 hG, g_240_2 hG, g_240_3 hG, kd_241, kd_242, kd_243⟩
  · exact ⟨g_451_1 hG, g_451_2 hG, g_451_3 hG, kd_452, kd_453, kd_454⟩
theorem cpS {a b : Nat} {μ : Mem} (hab : a = 451 ∧ b = 240 ∨ a = 240 ∧ b = 451) (hG : Gr μ) : ∃ ν, fX8_copyFrom a b μ = some ν ∧ FrO a (a + 4) μ ν ∧ ν.2.1 a 0 = μ.2.1 b 0 ∧ ∀ i, i < 8 → ν.2.1 (a + 1) i = μ.2.1 (b + 1) i ∧ ν.2.1 (a + 2) i = μ.2.1 (b + 2) i ∧ ν.2.1 (a + 3) i = μ.2.1 (b + 3) i := by
  unfold fX8_copyFrom
  have hG1 := hG.sC a (up (μ.2.1 a) 0 (μ.2.1 b 0))
  obtain ⟨a1, a2, a3, a4, a5, a6⟩ := see_g (a := a) (by omega) hG1
  obtain ⟨b1, b2, b3, b4, b5, b6⟩ := see_g (a := b) (by omega) hG1
  rw [bs, sI_C, b1, bs, a1, bs, show cpI _ (b + 1) (0 : Int32) (a + 1) (0 : Int32) (8 : Int32) = _ from cpI_eq (n := 8) b4 a4 (by decide), bs, gC, b2, bs, gC, a2, bs, show cpI _ (b + 2) (0 : Int32) (a + 2) (0 : Int32) (8 : Int32) = _ from cpI_eq (n := 8) b5 a5 (by decide), bs, gC, gC, b3, bs, gC, gC, a3, bs, show cpI _ (b + 3) (0 : Int32) (a + 3) (0 : Int32) (8 : Int32) = _ from cpI_eq (n := 8) b6 a6 (by decide), bs]
  refine ⟨_, rfl, (((FrO.c _ (by omega)).trans (FrO.c _ (by omega))).trans (FrO.c _ (by omega))).trans (FrO.c _ (by omega)), ?_, ?_⟩
  · rw [sC_n _ _ (by omega), sC_n _ _ (by omega), sC_n _ _ (by omega), sC_s, up_s]
  · intro i hi
    refine ⟨?_, ?_, ?_⟩
    · rw [sC_n _ _ (by omega), sC_n _ _ (by omega), sC_s, cpy_in hi, sC_n _ _ (by omega)]
    · rw [sC_n _ _ (by omega), sC_s, cpy_in hi, sC_n _ _ (by omega), sC_n _ _ (by omega)]
    · rw [sC_s, cpy_in hi, sC_n _ _ (by omega), sC_n _ _ (by omega), sC_n _ _ (by omega)]
/-! the reference's copies -/
def cpF (N : Nat) (f g : Row) : Row := fun i => if i < N then f i else g i
theorem cpF_0 (f g : Row) : cpF 0 f g = g := by
  funext i
  unfold cpF
  rw [if_neg (by omega)]
theorem cpF_s (N : Nat) (f g : Row) : up (cpF N f g) N (f N) = cpF (N + 1) f g := by
  funext i
  rw [up_e]
  unfold cpF
  by_cases e : i = N
  · rw [if_pos e, if_pos (by omega), e]
  · rw [if_neg e]
    by_cases e2 : i < N
    · rw [if_pos e2, if_pos (by omega)]
    · rw [if_neg e2, if_neg (by omega)]
theorem cpF_in {N i : Nat} (f g : Row) (h : i < N) : cpF N f g i = f i := if_pos h
theorem copies_ok {μ : Mem} {a b N : Nat} (ka : kd a = (0, N)) (kb : kd b = (0, N)) (hN : N ≤ 4000) (hab : a ≠ b) : fX11_copies 492 a b μ = some (sC μ b (cpF N (μ.2.1 a) (μ.2.1 b))) := by
  unfold fX11_copies
  have key := loop_eq (S := Nat × Mem) (R := Mem) (fun m s => fX11_copies_2 m a b (I s.1) s.2) N (fun j => (j, sC μ b (cpF j (μ.2.1 a) (μ.2.1 b)))) (some (sC μ b (cpF N (μ.2.1 a) (μ.2.1 b))))
    (by
      intro n j hj
      show fX11_copies_2 (n + 1) a b (I j) _ = fX11_copies_2 n a b (I (j + 1)) _
      rw [fX11_copies_2, ka, if_pos (show I j < I N from (I_lt (by omega) (by omega)).mpr hj), ldI_I ka hj (by omega), bs, stI_I kb hj (by omega), bs, I_addl, sC_s, sC_C, sC_n μ _ hab, cpF_s])
    (by
      intro n
      show fX11_copies_2 (n + 1) a b (I N) _ = _
      rw [fX11_copies_2, ka, if_neg (show ¬ I N < I N by rw [I_lt (by omega) (by omega)]; omega)])
    N fuel 0 rfl (by unfold fuel; omega)
  simp only [cpF_0, sC_same] at key
  exact key
theorem rimg28 {μ : Mem} (hG : Gr μ) : fX11_image_28 fuel 492 0 μ = some (sC (sC (sC μ 515 (cpF 79 (μ.2.1 502) (μ.2.1 515))) 516 (cpF 3160 (μ.2.1 503) (μ.2.1 516))) 517 (cpF 24 (μ.2.1 512) (μ.2.1 517))) := by
  have key := loop_eq (S := Nat × Mem) (R := Mem) (fun m s => fX11_image_28 m 492 (I s.1) s.2) 79 (fun j => (j, sC μ 515 (cpF j (μ.2.1 502) (μ.2.1 515)))) (some (sC (sC (sC μ 515 (cpF 79 (μ.2.1 502) (μ.2.1 515))) 516 (cpF 3160 (μ.2.1 503) (μ.2.1 516))) 517 (cpF 24 (μ.2.1 512) (μ.2.1 517))))
    (by
      intro n j hj
      show fX11_image_28 (n + 1) 492 (I j) _ = fX11_image_28 n 492 (I (j + 1)) _
      rw [fX11_image_28, if_pos (show I j < (79 : Int32) by rw [I_ltl (by omega) (by decide)]; exact hj), g_492_57 (hG.sC _ _), bs, g_492_34 (hG.sC _ _), bs, ld_502 (by omega), bs, st_515 hj, bs, I_addl, sC_s, sC_C, sC_n μ _ (by decide : 502 ≠ 515), cpF_s])
    (by
      intro n
      show fX11_image_28 (n + 1) 492 (I 79) _ = _
      rw [fX11_image_28, if_neg (by decide), g_492_35 (hG.sC _ _), bs, g_492_58 (hG.sC _ _), bs, copies_ok kd_503 kd_516 (by decide) (by decide), bs, g_492_50 ((hG.sC _ _).sC _ _), bs, g_492_59 ((hG.sC _ _).sC _ _), bs, copies_ok kd_512 kd_517 (by decide) (by decide), bs]
      rw [sC_n _ _ (by decide : (503 : Nat) ≠ 515), sC_n _ _ (by decide : (516 : Nat) ≠ 515), sC_n _ _ (by decide : (512 : Nat) ≠ 516), sC_n _ _ (by decide : (512 : Nat) ≠ 515), sC_n _ _ (by decide : (517 : Nat) ≠ 516), sC_n _ _ (by decide : (517 : Nat) ≠ 515)])
    79 fuel 0 rfl (by unfold fuel; omega)
  simp only [cpF_0, sC_same] at key
  exact key
theorem rres32 {μ : Mem} (hG : Gr μ) : fX11_restore_32 fuel 492 0 μ = some (1, sC (sC (sC μ 502 (cpF 79 (μ.2.1 515) (μ.2.1 502))) 503 (cpF 3160 (μ.2.1 516) (μ.2.1 503))) 512 (cpF 24 (μ.2.1 517) (μ.2.1 512))) := by
  have key := loop_eq (S := Nat × Mem) (R := Int32 × Mem) (fun m s => fX11_restore_32 m 492 (I s.1) s.2) 79 (fun j => (j, sC μ 502 (cpF j (μ.2.1 515) (μ.2.1 502)))) (some (1, sC (sC (sC μ 502 (cpF 79 (μ.2.1 515) (μ.2.1 502))) 503 (cpF 3160 (μ.2.1 516) (μ.2.1 503))) 512 (cpF 24 (μ.2.1 517) (μ.2.1 512))))
    (by
      intro n j hj
      show fX11_restore_32 (n + 1) 492 (I j) _ = fX11_restore_32 n 492 (I (j + 1)) _
      rw [fX11_restore_32, if_pos (show I j < (79 : Int32) by rw [I_ltl (by omega) (by decide)]; exact hj), g_492_34 (hG.sC _ _), bs, g_492_57 (hG.sC _ _), bs, ld_515 hj, bs, st_502 (by omega), bs, I_addl, sC_s, sC_C, sC_n μ _ (by decide : 515 ≠ 502), cpF_s])
    (by
      intro n
      show fX11_restore_32 (n + 1) 492 (I 79) _ = _
      rw [fX11_restore_32, if_neg (by decide), g_492_58 (hG.sC _ _), bs, g_492_35 (hG.sC _ _), bs, copies_ok kd_516 kd_503 (by decide) (by decide), bs, g_492_59 ((hG.sC _ _).sC _ _), bs, g_492_50 ((hG.sC _ _).sC _ _), bs, copies_ok kd_517 kd_512 (by decide) (by decide), bs]
      rw [sC_n _ _ (by decide : (516 : Nat) ≠ 502), sC_n _ _ (by decide : (503 : Nat) ≠ 502), sC_n _ _ (by decide : (517 : Nat) ≠ 503), sC_n _ _ (by decide : (517 : Nat) ≠ 502), sC_n _ _ (by decide : (512 : Nat) ≠ 503), sC_n _ _ (by decide : (512 : Nat) ≠ 502)])
    79 fuel 0 rfl (by unfold fuel; omega)
  simp only [cpF_0, sC_same] at key
  exact key
theorem st244 : 244 ∈ stA := by decide
theorem image_ok {C : Cel} {G Fd : List Itm} {pc : Nat → Int32} {k : Nat} {r : Row} {μ : Mem} (hI : INV C G Fd pc k r μ) : ∃ ν ξ, fX10_image 0 μ = some ν ∧ fX11_image 492 ν = some ξ ∧ IV ξ := by
  have hC := hI.2.1
  have hG := hI.1
  obtain ⟨K, hK, hA, h36, hgo⟩ := hI.kept
  obtain ⟨sn, hsn, s0, s1, s2⟩ := hI.seI
  obtain ⟨ν1, e1, f1', S1⟩ := copyFrom_ok hG st244 a33 (Or.inr (by decide)) hI.sh
  have f1 := FrO.of f1'
  have hG1 := f1.gr hG
  obtain ⟨ν2, e2, f2, A2⟩ := cpA (a := 249) (b := 38) (Or.inl ⟨rfl, rfl⟩) hG1 hK (f1.actC hA (Or.inl (by decide)))
  have hG2 := f2.gr hG1
  obtain ⟨ν3, e3, f3, z0, z1⟩ := cpS (a := 451) (b := 240) (Or.inl ⟨rfl, rfl⟩) hG2
  have hG3 := f3.gr hG2
  have fA : FrO 244 455 μ ν3 := ((f1.mono (by decide) (by decide)).trans (f2.mono (by decide) (by decide))).trans (f3.mono (by decide) (by decide))
  have S3 : SH C r 244 ν3 := f3.sh (f2.sh S1 (Or.inl (by decide))) (Or.inl (by decide))
  have A3 : ActC C K (krow μ 503) 249 251 ν3 := f3.actC A2 (Or.inl (by decide))
  have z0' : ν3.2.1 451 0 = I sn := by
    rw [z0, f2.2.2.1 240 (by omega), f1.2.2.1 240 (by omega)]; exact s0
  have z1' : ∀ i, i < 8 → ν3.2.1 452 i = μ.2.1 241 i ∧ ν3.2.1 453 i = μ.2.1 242 i ∧ ν3.2.1 454 i = μ.2.1 243 i := by
    intro i hi
    obtain ⟨q1, q2, q3⟩ := z1 i hi
    refine ⟨q1.trans ?_, q2.trans ?_, q3.trans ?_⟩
    · rw [f2.2.2.1 _ (by omega), f1.2.2.1 _ (by omega)]
    · rw [f2.2.2.1 _ (by omega), f1.2.2.1 _ (by omega)]
    · rw [f2.2.2.1 _ (by omega), f1.2.2.1 _ (by omega)]
  have e492 : ν3.2.1 492 = μ.2.1 492 := fA.2.2.1 492 (by omega)
  refine ⟨sC ν3 0 (up (ν3.2.1 0) 10 1), sC (sC (sC (sC (sC ν3 0 (up (ν3.2.1 0) 10 1)) 492 (up (up (up (up (μ.2.1 492) 0 0) 54 1) 55 (I K)) 56 (I sn))) 515 (cpF 79 (μ.2.1 502) (μ.2.1 515))) 516 (cpF 3160 (μ.2.1 503) (μ.2.1 516))) 517 (cpF 24 (μ.2.1 512) (μ.2.1 517)), ?_, ?_, C, G, Fd, pc, k, r, ?_⟩
  · unfold fX10_image
    rw [g_0_11 hG, bs, g_0_7 hG, bs, e1, bs, g_0_12 hG1, bs, g_0_8 hG1, bs, e2, bs, g_0_13 hG2, bs, g_0_9 hG2, bs, e3, bs, bs, sI_C]
  · unfold fX11_image
    rw [bs, bs, bs, bs, sI_C, sI_C, sI_C, sI_C]
    simp only [sC_C, sC_s]
    rw [sC_n _ _ (by decide : (492 : Nat) ≠ 0), e492]
    simp only [up_n _ _ (show (36 : Nat) ≠ 54 by decide), up_n _ _ (show (36 : Nat) ≠ 0 by decide), up_n _ _ (show (49 : Nat) ≠ 55 by decide), up_n _ _ (show (49 : Nat) ≠ 54 by decide), up_n _ _ (show (49 : Nat) ≠ 0 by decide), h36, s1]
    rw [rimg28 ((hG3.sC _ _).sC _ _)]
    simp only [sC_n _ _ (show (502 : Nat) ≠ 492 by decide), sC_n _ _ (show (502 : Nat) ≠ 0 by decide), sC_n _ _ (show (503 : Nat) ≠ 492 by decide), sC_n _ _ (show (503 : Nat) ≠ 0 by decide), sC_n _ _ (show (512 : Nat) ≠ 492 by decide), sC_n _ _ (show (512 : Nat) ≠ 0 by decide), sC_n _ _ (show (515 : Nat) ≠ 492 by decide), sC_n _ _ (show (515 : Nat) ≠ 0 by decide), sC_n _ _ (show (516 : Nat) ≠ 492 by decide), sC_n _ _ (show (516 : Nat) ≠ 0 by decide), sC_n _ _ (show (517 : Nat) ≠ 492 by decide), sC_n _ _ (show (517 : Nat) ≠ 0 by decide), fA.2.2.1 502 (by omega), fA.2.2.1 503 (by omega), fA.2.2.1 512 (by omega), fA.2.2.1 515 (by omega), fA.2.2.1 516 (by omega), fA.2.2.1 517 (by omega)]
  · have hlo : ∀ c, c ≠ 0 → c ≠ 492 → c ≠ 515 → c ≠ 516 → c ≠ 517 → (sC (sC (sC (sC (sC ν3 0 (up (ν3.2.1 0) 10 1)) 492 (up (up (up (up (μ.2.1 492) 0 0) 54 1) 55 (I K)) 56 (I sn))) 515 (cpF 79 (μ.2.1 502) (μ.2.1 515))) 516 (cpF 3160 (μ.2.1 503) (μ.2.1 516))) 517 (cpF 24 (μ.2.1 512) (μ.2.1 517))).2.1 c = ν3.2.1 c := by
      intro c h1 h2 h3 h4 h5
      rw [sC_n _ _ h5, sC_n _ _ h4, sC_n _ _ h3, sC_n _ _ h2, sC_n _ _ h1]
    have h49 : (sC (sC (sC (sC (sC ν3 0 (up (ν3.2.1 0) 10 1)) 492 (up (up (up (up (μ.2.1 492) 0 0) 54 1) 55 (I K)) 56 (I sn))) 515 (cpF 79 (μ.2.1 502) (μ.2.1 515))) 516 (cpF 3160 (μ.2.1 503) (μ.2.1 516))) 517 (cpF 24 (μ.2.1 512) (μ.2.1 517))).2.1 492 = up (up (up (up (μ.2.1 492) 0 0) 54 1) 55 (I K)) 56 (I sn) := rfl
    have h00 : (sC (sC (sC (sC (sC ν3 0 (up (ν3.2.1 0) 10 1)) 492 (up (up (up (up (μ.2.1 492) 0 0) 54 1) 55 (I K)) 56 (I sn))) 515 (cpF 79 (μ.2.1 502) (μ.2.1 515))) 516 (cpF 3160 (μ.2.1 503) (μ.2.1 516))) 517 (cpF 24 (μ.2.1 512) (μ.2.1 517))).2.1 0 = up (μ.2.1 0) 10 1 := by
      rw [← fA.2.2.1 0 (by omega)]; rfl
    have h515 : (sC (sC (sC (sC (sC ν3 0 (up (ν3.2.1 0) 10 1)) 492 (up (up (up (up (μ.2.1 492) 0 0) 54 1) 55 (I K)) 56 (I sn))) 515 (cpF 79 (μ.2.1 502) (μ.2.1 515))) 516 (cpF 3160 (μ.2.1 503) (μ.2.1 516))) 517 (cpF 24 (μ.2.1 512) (μ.2.1 517))).2.1 515 = cpF 79 (μ.2.1 502) (μ.2.1 515) := rfl
    have h516 : (sC (sC (sC (sC (sC ν3 0 (up (ν3.2.1 0) 10 1)) 492 (up (up (up (up (μ.2.1 492) 0 0) 54 1) 55 (I K)) 56 (I sn))) 515 (cpF 79 (μ.2.1 502) (μ.2.1 515))) 516 (cpF 3160 (μ.2.1 503) (μ.2.1 516))) 517 (cpF 24 (μ.2.1 512) (μ.2.1 517))).2.1 516 = cpF 3160 (μ.2.1 503) (μ.2.1 516) := rfl
    have h517 : (sC (sC (sC (sC (sC ν3 0 (up (ν3.2.1 0) 10 1)) 492 (up (up (up (up (μ.2.1 492) 0 0) 54 1) 55 (I K)) 56 (I sn))) 515 (cpF 79 (μ.2.1 502) (μ.2.1 515))) 516 (cpF 3160 (μ.2.1 503) (μ.2.1 516))) 517 (cpF 24 (μ.2.1 512) (μ.2.1 517))).2.1 517 = cpF 24 (μ.2.1 512) (μ.2.1 517) := rfl
    have hL : (sC (sC (sC (sC (sC ν3 0 (up (ν3.2.1 0) 10 1)) 492 (up (up (up (up (μ.2.1 492) 0 0) 54 1) 55 (I K)) 56 (I sn))) 515 (cpF 79 (μ.2.1 502) (μ.2.1 515))) 516 (cpF 3160 (μ.2.1 503) (μ.2.1 516))) 517 (cpF 24 (μ.2.1 512) (μ.2.1 517))).2.2.1 = ν3.2.2.1 := rfl
    have hM : (sC (sC (sC (sC (sC ν3 0 (up (ν3.2.1 0) 10 1)) 492 (up (up (up (up (μ.2.1 492) 0 0) 54 1) 55 (I K)) 56 (I sn))) 515 (cpF 79 (μ.2.1 502) (μ.2.1 515))) 516 (cpF 3160 (μ.2.1 503) (μ.2.1 516))) 517 (cpF 24 (μ.2.1 512) (μ.2.1 517))).1 = ν3.1 ∧ (sC (sC (sC (sC (sC ν3 0 (up (ν3.2.1 0) 10 1)) 492 (up (up (up (up (μ.2.1 492) 0 0) 54 1) 55 (I K)) 56 (I sn))) 515 (cpF 79 (μ.2.1 502) (μ.2.1 515))) 516 (cpF 3160 (μ.2.1 503) (μ.2.1 516))) 517 (cpF 24 (μ.2.1 512) (μ.2.1 517))).2.2.2 = ν3.2.2.2 := ⟨rfl, rfl⟩
    generalize sC (sC (sC (sC (sC ν3 0 (up (ν3.2.1 0) 10 1)) 492 (up (up (up (up (μ.2.1 492) 0 0) 54 1) 55 (I K)) 56 (I sn))) 515 (cpF 79 (μ.2.1 502) (μ.2.1 515))) 516 (cpF 3160 (μ.2.1 503) (μ.2.1 516))) 517 (cpF 24 (μ.2.1 512) (μ.2.1 517)) = X at hlo h49 h00 h515 h516 h517 hL hM ⊢
    have hcl : ∀ c, c ≠ 0 → c < 244 → X.2.1 c = μ.2.1 c := fun c h1 h2 => (hlo c h1 (by omega) (by omega) (by omega) (by omega)).trans (fA.2.2.1 c (by omega))
    have hrf : ∀ c, 455 ≤ c → c ≠ 492 → c ≠ 515 → c ≠ 516 → c ≠ 517 → X.2.1 c = μ.2.1 c := fun c h1 h2 h3 h4 h5 => (hlo c (by omega) h2 h3 h4 h5).trans (fA.2.2.1 c (by omega))
    have hlg : ∀ c, c < 244 → X.2.2.1 c = μ.2.2.1 c := fun c h1 => by rw [hL]; exact fA.2.2.2 c (by omega)
    have hfd : ∀ f, f ≠ 0 → f ≠ 54 → f ≠ 55 → f ≠ 56 → X.2.1 492 f = μ.2.1 492 f := fun f h1 h2 h3 h4 => by rw [h49, up_n _ _ h4, up_n _ _ h3, up_n _ _ h2, up_n _ _ h1]
    have S4 : SH C r 244 X := S3.fr5 (fun c h1 h2 => hlo c (by omega) (by omega) (by omega) (by omega) (by omega)) (by rw [hL])
    have hrow : E79 r (X.2.1 515) := by
      intro q hq
      rw [h515, cpF_in _ _ hq]
      exact (hI.r502 hq).symm
    refine hI.set ⟨hM.1.trans fA.1, fun a f _ => by rw [hM.2, fA.2.1], fun c h1 h2 => hcl c (by simp at h2; omega) (by omega), fun c h1 => hlg c (by omega), hrf _ (by omega) (by decide) (by decide) (by decide) (by decide), hrf _ (by omega) (by decide) (by decide) (by decide) (by decide), fun f h1 h2 => hfd f (by omega) (by omega) (by omega) (by omega)⟩ hI.good (hI.sh.fr5 (fun c h1 h2 => hcl c (by omega) (by omega)) (hlg _ (by omega))) (e79_fr hI.row0 (hrf _ (by omega) (by decide) (by decide) (by decide) (by decide))) (ActI.fr (a := 38) hI.acI (fun c h1 h2 => hcl c (by omega) (by omega)) (fun c h1 h2 => hlg c (by omega)) (hrf _ (by omega) (by decide) (by decide) (by decide) (by decide)) (hfd _ (by decide) (by decide) (by decide) (by decide))) (hI.seI.fr (fun c h1 h2 => hcl c (by omega) (by omega)) (hrf _ (by omega) (by decide) (by decide) (by decide) (by decide)) (hfd _ (by decide) (by decide) (by decide) (by decide))) (Or.inr ⟨?_, ?_, S4.congr hC hrow, hI.good.congr hC hrow, ?_, ?_⟩) (hI.taI.fr ?_ (hfd _ (by decide) (by decide) (by decide) (by decide)) (hcl _ (by decide) (by decide)) (hrf _ (by omega) (by decide) (by decide) (by decide) (by decide))) ?_ ?_ ?_ ?_
    · rw [h00, up_s]
    · rw [h49, up_n _ _ (by decide), up_n _ _ (by decide), up_s]
    · obtain ⟨o, ho, g0, g1, g2⟩ := A3
      refine ⟨K, o, hK, ho, ?_, ?_, ?_, ?_⟩
      · rw [hlo _ (by omega) (by omega) (by omega) (by omega) (by omega)]; exact g0
      · rw [hlo _ (by omega) (by omega) (by omega) (by omega) (by omega)]; exact g1
      · rw [h49, up_n _ _ (by decide), up_s]
      · intro i hi
        have hk : E79 (krow μ 503 i) (krow X 516 i) := by
          intro q hq
          unfold krow
          rw [h516, cpF_in _ _ (by omega)]
        exact ⟨((g2 i hi).fr5 (fun c h1 h2 => hlo c (by omega) (by omega) (by omega) (by omega) (by omega)) (by rw [hL])).congr hC hk, (hgo i hi).congr hC hk⟩
    · refine ⟨sn, hsn, ?_, ?_, ?_⟩
      · rw [hlo _ (by omega) (by omega) (by omega) (by omega) (by omega)]; exact z0'
      · rw [h49, up_s]
      · intro i hi
        obtain ⟨w, d', b', q1, q2, q3, q4, q5, q6, q7, q8, q9⟩ := s2 i hi
        obtain ⟨y1, y2, y3⟩ := z1' i (by omega)
        refine ⟨w, d', b', q1, q2, q3, ?_, ?_, ?_, ?_, ?_, ?_⟩
        · rw [hlo _ (by omega) (by omega) (by omega) (by omega) (by omega)]; exact y1.trans q4
        · rw [hlo _ (by omega) (by omega) (by omega) (by omega) (by omega)]; exact y2.trans q5
        · rw [hlo _ (by omega) (by omega) (by omega) (by omega) (by omega)]; exact y3.trans q6
        · rw [h517, cpF_in _ _ (by omega)]; exact q7
        · rw [h517, cpF_in _ _ (by omega)]; exact q8
        · rw [h517, cpF_in _ _ (by omega)]; exact q9
    · rw [h00, up_n _ _ (by decide)]
    · rw [h00, up_n _ _ (by decide), hfd _ (by decide) (by decide) (by decide) (by decide)]; exact hI.faI
    · intro i hi
      rw [hcl _ (by decide) (by decide), hrf _ (by omega) (by decide) (by decide) (by decide) (by decide)]
      exact hI.ref i hi
    · rw [hfd _ (by decide) (by decide) (by decide) (by decide)]; exact hI.f41
    · rw [hfd _ (by decide) (by decide) (by decide) (by decide)]; exact hI.f45
