/-! CALLS: candles -/
theorem lit_C : ∀ L : Fin 32, ∀ d : Fin 5, fX10_isLit (I L.1) (I d.1) = if L.1.testBit d.1 = true then 1 else 0 := by decide +kernel
theorem lit_R : ∀ L : Fin 32, ∀ d : Fin 5, ((I L.1 >>> (I d.1 &&& 31)) &&& 1 = 1) ↔ L.1.testBit d.1 = true := by decide +kernel
theorem pw5 : ∀ n : Fin 6, (1 : Int32) <<< (I n.1 &&& 31) = I (2 ^ n.1) ∧ 2 ^ n.1 ≤ 32 := by decide +kernel
theorem compl5 : ∀ n : Fin 6, ∀ L : Fin 32, ∀ d : Fin 5, L.1 < 2 ^ n.1 → d.1 < n.1 → (2 ^ n.1 - 1 - L.1).testBit d.1 = !L.1.testBit d.1 := by decide +kernel
theorem sumI_front (f : Nat → Int32) : ∀ n, sumI f (n + 1) = f 0 + sumI (fun i => f (i + 1)) n := by
  intro n
  induction n with
  | zero =>
    show (0 : Int32) + f 0 = f 0 + 0
    rw [Int32.zero_add, Int32.add_zero]
  | succ n ih => rw [sumI_s, ih, sumI_s, Int32.add_assoc]
theorem sumI_rev (f : Nat → Int32) : ∀ n, sumI (fun i => f (n - 1 - i)) n = sumI f n := by
  intro n
  induction n with
  | zero => rfl
  | succ n ih =>
    rw [sumI_front, sumI_s, show n + 1 - 1 - 0 = n by omega, Int32.add_comm]
    congr 1
    rw [← ih]
    exact sumI_congr n (fun p hp => by rw [show n + 1 - 1 - (p + 1) = n - 1 - p by omega])
def wN (dk : Nat → Bool) (t : Nat) : Nat → Nat
  | 0 => 1
  | n + 1 => wN dk t n * (if dk n = true then t else 10 - t)
theorem wN_s (dk : Nat → Bool) (t n : Nat) : wN dk t (n + 1) = wN dk t n * (if dk n = true then t else 10 - t) := rfl
theorem wN_le (dk : Nat → Bool) {t : Nat} (ht : t ≤ 10) : ∀ n, wN dk t n ≤ 10 ^ n := by
  intro n
  induction n with
  | zero => exact Nat.le_refl 1
  | succ n ih =>
    rw [wN_s, Nat.pow_succ]
    exact Nat.mul_le_mul ih (by split <;> omega)
theorem wN_dk {dk dk' : Nat → Bool} {t : Nat} : ∀ n, (∀ d, d < n → dk d = dk' d) → wN dk t n = wN dk' t n := by
  intro n
  induction n with
  | zero => intro _; rfl
  | succ n ih => intro h; rw [wN_s, wN_s, ih (fun d hd => h d (by omega)), h n (by omega)]
theorem dN_s (C : Cel) (G Fd : List Itm) (dk : Nat → Bool) (r : Row) (n : Nat) : dN C G Fd dk r (n + 1) = dayR C G Fd (dk n) (dN C G Fd dk r n) := rfl
theorem dN_dk {C : Cel} {G Fd : List Itm} {dk dk' : Nat → Bool} {r : Row} : ∀ n, (∀ d, d < n → dk d = dk' d) → dN C G Fd dk r n = dN C G Fd dk' r n := by
  intro n
  induction n with
  | zero => intro _; rfl
  | succ n ih => intro h; rw [dN_s, dN_s, ih (fun d hd => h d (by omega)), h n (by omega)]
section Ca
variable {C : Cel} {G Fd : List Itm} {pc : Nat → Int32} {k : Nat} {r : Row} {μ : Mem}
noncomputable def canF (C : Cel) (G Fd : List Itm) (r : Row) (p n t w : Nat) : Int32 := if dN C G Fd (fun d => w.testBit d) r n (61 + p) = -1 then I (wN (fun d => w.testBit d) t n) else 0
def codeC (C : Cel) (a b c : Int32) : Int32 := if okP C a = true then (if okR b 1 5 = true then (if okR c 0 10 = true then 0 else 2) else 2) else 1
noncomputable def valC (C : Cel) (G Fd : List Itm) (r : Row) (a b c : Int32) : Int32 := sumI (canF C G Fd r (ix a) (ix b) (ix c)) (2 ^ ix b)
theorem c_candles (hI : INV C G Fd pc k r μ) (a b c : Int32) : CQ (fX10_candles 0 a b c μ) μ (codeC C a b c) (valC C G Fd r a b c) := by
  have hC := hI.2.1
  have hP := hC.2.1
  have hr := hI.2.2.2.2.2.2.2.2.1
  unfold fX10_candles codeC
  rw [needP_ok hI, bs]
  by_cases h1 : okP C a = true
  · rw [if_pos h1, if_pos h1]
    simp only
    rw [show fX10_needWithin 0 b (1 : Int32) (5 : Int32) = _ from needN_ok b 1 5, bs]
    by_cases h2 : okR b 1 5 = true
    · rw [if_pos h2, if_pos h2]
      simp only
      rw [show fX10_needWithin 0 c (0 : Int32) (10 : Int32) = _ from needN_ok c 0 10, bs]
      by_cases h3 : okR c 0 10 = true
      · rw [if_pos h3, if_pos h3]
        simp only
        obtain ⟨p, hp, rfl⟩ := okP_ex hC h1
        obtain ⟨m, hm1, hm, rfl⟩ := okR_ex (by decide) h2 (by decide)
        obtain ⟨t, _, ht, rfl⟩ := okR_ex (by decide) h3 (by decide)
        obtain ⟨pw, pl⟩ := pw5 ⟨m, by omega⟩
        simp only at pw pl
        -- one way of lights
        have one : ∀ (L : Nat), L < 2 ^ m → ∀ ν, FrB LC L2C μ ν → ∃ ξ, fX10_hasComeBy 0 (I p) (I L) (I m) ν = some (if dN C G Fd (fun d => !L.testBit d) r m (61 + p) = -1 then 1 else 0, ξ) ∧ FrB LC L2C μ ξ := by
          intro L hL ν hF
          have hIν := hI.q hF.ag
          obtain ⟨M, e, hM⟩ := hIν.beg (fun d => !L.testBit d)
          unfold fX10_hasComeBy
          rw [g_0_14 hIν.1, bs, hIν.cel, bs, g_0_7 hIν.1, bs, e, bs]
          obtain ⟨⟨j, N⟩, e2, i1, i2⟩ := loop_k (S := Nat × Mem) (R := Option (Int32 × Mem))
            (fun n s => fX10_hasComeBy_18 n 0 (I p) (I L) (I m) (I s.1) s.2) (fun s => fX10_hasComeBy_18 1 0 (I p) (I L) (I m) (I m) s.2) m
            (fun j s => s.1 = j ∧ CR C G Fd pc (fun d => !L.testBit d) r k ν j s.2)
            (by
              rintro n j ⟨j', N⟩ hj ⟨i1, i2⟩
              simp only at i1 i2
              subst i1
              have hlit := lit_C ⟨L, by omega⟩ ⟨j', by omega⟩
              simp only at hlit
              obtain ⟨ξ, e3, h3⟩ := i2.pass hC hr.1 hr.2.1 (lt := fX10_isLit (I L) (I j')) (by
                rw [hlit]
                cases L.testBit j' <;> rfl)
              show ∃ s', fX10_hasComeBy_18 (n + 1) 0 (I p) (I L) (I m) (I j') N = _ ∧ _
              rw [fX10_hasComeBy_18, if_pos (show I j' < I m from (I_lt (by omega) (by omega)).mpr hj), g_0_14 (i2.1.gr hIν.1), bs, e3, bs, I_addl]
              exact ⟨(j' + 1, ξ), rfl, rfl, h3⟩)
            (by
              rintro n ⟨j', N⟩ ⟨i1, i2⟩
              simp only at i1
              subst i1
              show fX10_hasComeBy_18 (n + 1) 0 (I p) (I L) (I j') (I j') N = _
              rw [fX10_hasComeBy_18, fX10_hasComeBy_18, if_neg (show ¬ I j' < I j' by rw [I_lt (by omega) (by omega)]; omega), if_neg (show ¬ I j' < I j' by rw [I_lt (by omega) (by omega)]; omega)])
            m fuel 0 (0, M) rfl (by unfold fuel; omega) ⟨rfl, hM⟩
          simp only at e2 i1 i2
          have hGN := i2.1.gr hIν.1
          have v2 := (i2.2.1.atv hp).2.1
          refine ⟨N, e2.trans ?_, hF.trans i2.fq⟩
          rw [fX10_hasComeBy_18, if_neg (show ¬ I m < I m by rw [I_lt (by omega) (by omega)]; omega), g_0_14 hGN, bs, g_455_0 hGN, bs, hGN.sent a456, bs, ld_459 (by omega), bs, v2]
          split <;> rfl
        have wgt : ∀ (L : Nat), L < 2 ^ m → fX10_weightOf (I L) (I m) (I t) = some (I (wN (fun d => !L.testBit d) t m)) := by
          intro L hL
          unfold fX10_weightOf
          refine loop_eq (fun n (s : Int32 × Int32) => fX10_weightOf_5 n (I L) (I m) (I t) s.1 s.2) m (fun j => (I (wN (fun d => !L.testBit d) t j), I j)) _ ?_ ?_ m fuel 0 rfl (by unfold fuel; omega)
          · intro n j hj
            have hlit := lit_C ⟨L, by omega⟩ ⟨j, by omega⟩
            simp only at hlit
            show fX10_weightOf_5 (n + 1) (I L) (I m) (I t) (I (wN (fun d => !L.testBit d) t j)) (I j) = fX10_weightOf_5 n (I L) (I m) (I t) (I (wN (fun d => !L.testBit d) t (j + 1))) (I (j + 1))
            conv => lhs; rw [fX10_weightOf_5]
            rw [if_pos (show I j < I m from (I_lt (by omega) (by omega)).mpr hj), hlit, I_addl, wN_s, show (10 : Int32) - I t = I (10 - t) from I_sub (n := 10) (by omega), I_mul, I_mul]
            cases hq : L.testBit j
            · rw [if_pos (show (if false = true then (1 : Int32) else 0) = 0 from rfl), if_pos (show (!false) = true from rfl)]
            · rw [if_neg (show ¬ (if true = true then (1 : Int32) else 0) = 0 by decide), if_neg (show ¬ (!true) = true by decide)]
          · intro n
            show fX10_weightOf_5 (n + 1) (I L) (I m) (I t) _ (I m) = _
            rw [fX10_weightOf_5, if_neg (show ¬ I m < I m by rw [I_lt (by omega) (by omega)]; omega)]
        have cF : ∀ L, L < 2 ^ m → canF C G Fd r p m t (2 ^ m - 1 - L) = if dN C G Fd (fun d => !L.testBit d) r m (61 + p) = -1 then I (wN (fun d => !L.testBit d) t m) else 0 := by
          intro L hL
          have hd : ∀ d, d < m → (2 ^ m - 1 - L).testBit d = !L.testBit d := fun d hd => compl5 ⟨m, by omega⟩ ⟨L, by omega⟩ ⟨d, by omega⟩ hL hd
          unfold canF
          rw [dN_dk m hd, wN_dk m hd]
        obtain ⟨⟨j, N⟩, e2, i1, i2⟩ := loop_k (S := Nat × Mem) (R := Option ((Int32 ⊕ Nat) × Mem))
          (fun n s => fX10_candles_26 n 0 (I p) (I m) (I t) (sumI (fun i => canF C G Fd r p m t (2 ^ m - 1 - i)) s.1) (I s.1) s.2) (fun s => some (.inl (sumI (fun i => canF C G Fd r p m t (2 ^ m - 1 - i)) s.1), s.2)) (2 ^ m)
          (fun j s => s.1 = j ∧ FrB LC L2C μ s.2)
          (by
            rintro n j ⟨j', N⟩ hj ⟨i1, i2⟩
            simp only at i1 i2
            subst i1
            have hw := wN_le (fun d => !j'.testBit d) ht m
            have h10 : 10 ^ m ≤ 10 ^ 5 := Nat.pow_le_pow_right (by omega) (by omega)
            have h105 : (10 : Nat) ^ 5 = 100000 := rfl
            show ∃ s', fX10_candles_26 (n + 1) 0 (I p) (I m) (I t) (sumI (fun i => canF C G Fd r p m t (2 ^ m - 1 - i)) j') (I j') N = _ ∧ _
            rw [fX10_candles_26, pw, if_pos (show I j' < I (2 ^ m) from (I_lt (by omega) (by omega)).mpr hj), wgt j' hj, bs]
            by_cases q : 0 < wN (fun d => !j'.testBit d) t m
            · rw [if_pos (show (0 : Int32) < I (wN (fun d => !j'.testBit d) t m) from (l_ltI (m := 0) (by omega) (by decide)).mpr q)]
              obtain ⟨ξ, e3, h3⟩ := one j' hj N i2
              rw [e3, bs]
              simp only [I_addl]
              refine ⟨(j' + 1, ξ), ?_, rfl, h3⟩
              simp only
              rw [sumI_s, cF j' hj]
              by_cases q2 : dN C G Fd (fun d => !j'.testBit d) r m (61 + p) = -1
              · rw [if_pos q2, if_neg (by decide), if_pos q2]
              · rw [if_neg q2, if_pos rfl, if_neg q2, Int32.add_zero]
            · have hz : wN (fun d => !j'.testBit d) t m = 0 := by omega
              rw [if_neg (show ¬ (0 : Int32) < I (wN (fun d => !j'.testBit d) t m) by rw [hz]; decide), I_addl]
              refine ⟨(j' + 1, N), ?_, rfl, i2⟩
              simp only
              rw [sumI_s, cF j' hj, hz]
              have : (if dN C G Fd (fun d => !j'.testBit d) r m (61 + p) = -1 then I 0 else 0) = 0 := by split <;> rfl
              rw [this, Int32.add_zero])
          (by
            rintro n ⟨j', N⟩ ⟨i1, i2⟩
            simp only at i1
            rw [i1]
            show fX10_candles_26 (n + 1) 0 (I p) (I m) (I t) _ (I (2 ^ m)) N = _
            rw [fX10_candles_26, pw, if_neg (show ¬ I (2 ^ m) < I (2 ^ m) by rw [I_lt (by omega) (by omega)]; omega)])
          (2 ^ m) fuel 0 (0, μ) (by omega) (by unfold fuel; omega) ⟨rfl, FrB.refl _ _ μ⟩
        simp only at e2 i1 i2
        rw [i1, sumI_rev] at e2
        refine ⟨N, i2, Or.inl ⟨rfl, ?_⟩⟩
        unfold valC
        rw [ix_I (by omega), ix_I (by omega), ix_I (by omega)]
        exact e2
      · rw [if_neg h3, if_neg h3]
        exact ⟨μ, FrB.refl _ _ μ, Or.inr (Or.inr ⟨rfl, rfl⟩)⟩
    · rw [if_neg h2, if_neg h2]
      exact ⟨μ, FrB.refl _ _ μ, Or.inr (Or.inr ⟨rfl, rfl⟩)⟩
  · rw [if_neg h1, if_neg h1]
    exact ⟨μ, FrB.refl _ _ μ, Or.inr (Or.inl ⟨rfl, rfl⟩)⟩
theorem r_candles (hI : INV C G Fd pc k r μ) (a b c : Int32) : RQ (fX11_candles 492 a b c μ) μ (codeC C a b c) (valC C G Fd r a b c) := by
  have hC := hI.2.1
  have hP := hC.2.1
  have hr := hI.2.2.2.2.2.2.2.2.1
  obtain ⟨t1, t2, t3, t4⟩ := thr0 μ
  have hR0 := t1.rc hI.2.2.2.2.2.2.1
  unfold fX11_candles codeC
  rw [bs, sI_C, isPerson_ok hR0 t2]
  by_cases h1 : okP C a = true
  · rw [if_pos h1, if_pos h1, bs]
    simp only
    rw [if_neg (by decide), show fX11_within b (1 : Int32) (5 : Int32) = _ from within_ok b 1 5, show fX11_within c (0 : Int32) (10 : Int32) = _ from within_ok c 0 10, right_ok t2 (by decide), right_ok t2 (by decide)]
    by_cases h2 : okR b 1 5 = true
    · rw [if_pos h2, if_pos h2, if_neg (by decide)]
      by_cases h3 : okR c 0 10 = true
      · rw [if_pos h3, if_pos h3, if_neg (by decide), if_neg (by decide), bs]
        simp only
        rw [if_neg (by decide)]
        obtain ⟨p, hp, rfl⟩ := okP_ex hC h1
        obtain ⟨m, hm1, hm, rfl⟩ := okR_ex (by decide) h2 (by decide)
        obtain ⟨t, _, ht, rfl⟩ := okR_ex (by decide) h3 (by decide)
        obtain ⟨pw, pl⟩ := pw5 ⟨m, by omega⟩
        simp only at pw pl
        obtain ⟨⟨j, N⟩, e2, i1, i2, i3, i4⟩ := loop_k (S := Nat × Mem) (R := Option (Int32 × Mem))
          (fun n s => fX11_candles_53 n 492 (I p) (I m) (I t) (sumI (canF C G Fd r p m t) s.1) (I s.1) s.2) (fun s => some (sumI (canF C G Fd r p m t) s.1, sC s.2 492 (up (s.2.2.1 492) 45 0))) (2 ^ m)
          (fun j s => s.1 = j ∧ FR μ s.2 ∧ s.2.2.1 492 41 = μ.2.1 492 41 ∧ s.2.2.1 492 0 = 0)
          (by
            rintro n j ⟨j', N⟩ hj ⟨i1, i2, i3, i4⟩
            simp only at i1 i2 i3 i4
            subst i1
            obtain ⟨M, e, m1, m2⟩ := tried hI (fun d => j'.testBit d) i2 i3
            show ∃ s', fX11_candles_53 (n + 1) 492 (I p) (I m) (I t) (sumI (canF C G Fd r p m t) j') (I j') N = _ ∧ _
            rw [fX11_candles_53, pw, if_pos (show I j' < I (2 ^ m) from (I_lt (by omega) (by omega)).mpr hj), e, bs]
            obtain ⟨⟨d, Z⟩, e5, k1, k2, k3, k4⟩ := loop_k (S := Nat × Mem) (R := Option (Int32 × Mem))
              (fun q s => fX11_candles_71 (fX11_candles_53 n) q 492 (I p) (I m) (I t) (sumI (canF C G Fd r p m t) j') (I j') (I (wN (fun d => j'.testBit d) t s.1)) (I s.1) s.2) (fun s => fX11_candles_71 (fX11_candles_53 n) 1 492 (I p) (I m) (I t) (sumI (canF C G Fd r p m t) j') (I j') (I (wN (fun d => j'.testBit d) t s.1)) (I m) s.2) m
              (fun d s => s.1 = d ∧ FR N s.2 ∧ RR C G Fd (fun d => j'.testBit d) r d s.2 ∧ s.2.2.1 492 0 = 0)
              (by
                rintro q d ⟨d', Z⟩ hd ⟨k1, k2, k3, k4⟩
                simp only at k1 k2 k3 k4
                subst k1
                have hbit := lit_R ⟨j', by omega⟩ ⟨d', by omega⟩
                simp only at hbit
                have hday : ∀ v : Int32, v = (if j'.testBit d' = true then 1 else 0) → ∃ ξ, fX11_dayGoes 492 79 (sC Z 492 (up (Z.2.1 492) 45 v)) = some ξ ∧ FR N ξ ∧ RR C G Fd (fun d => j'.testBit d) r (d' + 1) ξ ∧ ξ.2.1 492 0 = 0 := by
                  intro v hv
                  have hFv : FR Z (sC Z 492 (up (Z.2.1 492) 45 v)) := FR.f v (by decide)
                  have hRv : RR C G Fd (fun d => j'.testBit d) r d' (sC Z 492 (up (Z.2.1 492) 45 v)) := ⟨hFv.rc k3.1, hFv.rk k3.2.1, by rw [sC_s, up_n _ _ (by decide)]; exact k3.2.2.1, by rw [rwb_c _ _ (by decide)]; exact k3.2.2.2⟩
                  obtain ⟨ξ, e6, g1, g2, _⟩ := hRv.day hr.1 (by rw [sC_s, up_s]; exact hv)
                  exact ⟨ξ, e6, (k2.trans hFv).trans g1.fr, g2, by rw [g1.f4.1, sC_s, up_n _ _ (by decide)]; exact k4⟩
                show ∃ s', fX11_candles_71 (fX11_candles_53 n) (q + 1) 492 (I p) (I m) (I t) (sumI (canF C G Fd r p m t) j') (I j') (I (wN (fun d => j'.testBit d) t d')) (I d') Z = _ ∧ _
                rw [fX11_candles_71, if_pos (show I d' < I m from (I_lt (by omega) (by omega)).mpr hd), show (10 : Int32) - I t = I (10 - t) from I_sub (n := 10) (by omega), I_mul, I_mul, I_addl, sI_C, sI_C, bs, bs]
                by_cases hb : j'.testBit d' = true
                · rw [if_pos (hbit.mpr hb), sC_s, up_s, if_neg (by decide)]
                  obtain ⟨ξ, e6, g1, g2, g3⟩ := hday 1 (by rw [if_pos hb])
                  rw [e6, bs]
                  refine ⟨(d' + 1, ξ), ?_, rfl, g1, g2, g3⟩
                  simp only
                  rw [wN_s, if_pos hb]
                · rw [if_neg (fun u => hb (hbit.mp u)), sC_s, up_s, if_pos rfl]
                  obtain ⟨ξ, e6, g1, g2, g3⟩ := hday 0 (by rw [if_neg hb])
                  rw [e6, bs]
                  refine ⟨(d' + 1, ξ), ?_, rfl, g1, g2, g3⟩
                  simp only
                  rw [wN_s, if_neg hb])
              (by
                rintro q ⟨d', Z⟩ ⟨k1, k2⟩
                simp only at k1
                subst k1
                show fX11_candles_71 (fX11_candles_53 n) (q + 1) 492 (I p) (I d') (I t) _ (I j') _ (I d') Z = _
                rw [fX11_candles_71, fX11_candles_71, if_neg (show ¬ I d' < I d' by rw [I_lt (by omega) (by omega)]; omega), if_neg (show ¬ I d' < I d' by rw [I_lt (by omega) (by omega)]; omega)])
              m fuel 0 (0, M) rfl (by unfold fuel; omega) ⟨rfl, m1.fr, m2, by rw [m1.f4.1]; exact i4⟩
            simp only at e5 k1 k2 k3 k4
            rw [k1] at e5
            rw [show fX11_candles_71 (fX11_candles_53 n) fuel 492 (I p) (I m) (I t) (sumI (canF C G Fd r p m t) j') (I j') 1 0 M = _ from e5, fX11_candles_71, if_neg (show ¬ I m < I m by rw [I_lt (by omega) (by omega)]; omega), g_492_34 k3.1.1, bs, l_addI, ld_502 (by omega), bs, (k3.at (show p < 6 by omega)).2.1, I_addl]
            refine ⟨(j' + 1, Z), ?_, rfl, i2.trans k2, ?_, k4⟩
            · simp only
              rw [sumI_s]
              unfold canF
              by_cases q2 : dN C G Fd (fun d => j'.testBit d) r m (61 + p) = -1
              · rw [if_pos q2, if_pos q2]
              · rw [if_neg q2, if_neg q2]
            · show Z.2.1 492 41 = μ.2.1 492 41
              rw [k3.2.2.1]; exact hI.2.2.2.2.2.2.2.2.2.2.2.2.2.2.2.2.2.1.symm)
          (by
            rintro n ⟨j', N⟩ ⟨i1, i2⟩
            simp only at i1
            rw [i1]
            show fX11_candles_53 (n + 1) 492 (I p) (I m) (I t) _ (I (2 ^ m)) N = _
            rw [fX11_candles_53, pw, if_neg (show ¬ I (2 ^ m) < I (2 ^ m) by rw [I_lt (by omega) (by omega)]; omega), bs, sI_C])
          (2 ^ m) fuel 0 (0, thr μ 0) (by omega) (by unfold fuel; omega) ⟨rfl, t1, t3, t2⟩
        simp only at e2 i1 i2 i3 i4
        rw [i1] at e2
        unfold valC
        rw [ix_I (by omega), ix_I (by omega), ix_I (by omega)]
        show RQ (fX11_candles_53 fuel 492 (I p) (I m) (I t) (sumI (canF C G Fd r p m t) 0) (I 0) (thr μ 0)) μ 0 _
        rw [e2]
        refine ⟨_, _, rfl, i2.trans (FR.f 0 (by decide)), ?_, ?_, ?_, fun _ => rfl⟩
        · rw [sC_s, up_n _ _ (by decide)]; exact i3
        · rw [sC_s, up_s]; exact hI.dk.symm
        · rw [sC_s, up_n _ _ (by decide)]; exact i4
      · rw [if_neg h3, if_neg h3, if_pos rfl, if_pos rfl, bs]
        simp only [if_true]
        exact RQ.no (by decide) t1 t3 t4
    · rw [if_neg h2, if_neg h2, if_pos rfl, if_pos rfl, bs]
      simp only [if_true]
      exact RQ.no (by decide) t1 t3 t4
  · rw [if_neg h1, if_neg h1, bs]
    simp only [if_true]
    exact RQ.no (by decide) t1 t3 t4
theorem qq_candles (hI : INV C G Fd pc k r μ) (a b c : Int32) : QQ C G Fd pc k r (fun μ => fL_candles 0 a b c 518 μ) (fun ν => fX11_candles 492 a b c ν) μ := q_candles hI a b c (c_candles hI a b c) (fun ν h => r_candles h a b c)
end Ca
