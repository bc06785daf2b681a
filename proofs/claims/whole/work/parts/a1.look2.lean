/-! CALLS: look, the class -/
section Lk
variable {C : Cel} {G Fd : List Itm} {pc : Nat → Int32} {k : Nat} {r : Row} {μ : Mem}
theorem Lr_488 : 488 ∉ L2p ∧ 488 ∈ L2C := by decide
theorem addPl_C (hI : INV C G Fd pc k r μ) {ν : Mem} (hF : FrB LC L2C μ ν) {p v : Nat} (hp : p < C.P) (hv : v < 10) :
    ∃ ξ, fX10_addPlacesWith 0 (I p) (I v) ν = some ξ ∧ FrB LC L2C μ ξ ∧ ∀ q, q < C.P → ∀ x, mb (ξ.2.2.1 488 q) x = (mb (ν.2.2.1 488 q) x || decide (plG C G Fd r (10 * p + v) q = x)) := by
  have hC := hI.2.1
  have hP := hC.2.1
  have hr := hI.2.2.2.2.2.2.2.2.1
  have hIν := hI.q hF.ag
  obtain ⟨Z, e, hZ⟩ := hIν.beg dk0
  have hGZ := hZ.1.gr hIν.1
  have ok1 := rowOK_pac (p := p) (v := I v) hC hr.1
  have ok2 := inkOK_pac (p := p) (v := I v) hr.2.1
  unfold fX10_addPlacesWith fX10_beginWith
  rw [g_0_14 hIν.1, bs, hIν.cel, bs, g_0_7 hIν.1, bs, e, bs, if_neg (I_neg (by omega)), if_pos (show I p < (6 : Int32) by rw [I_ltl (by omega) (by decide)]; omega), g_0_14 hGZ, bs, g_455_2 hGZ, bs, st_464 (by omega), bs, bs]
  obtain ⟨⟨j, N⟩, e2, i1, i2⟩ := loop_k (S := Nat × Mem) (R := Option Mem)
    (fun m s => fX10_addPlacesWith_8 m 0 (I s.1) s.2) (fun s => fX10_addPlacesWith_29 fuel 0 0 s.2) 4
    (fun j s => s.1 = j ∧ CR C G Fd pc dk0 (up r (73 + p) (I v)) k ν j s.2)
    (by
      rintro m j ⟨j', N⟩ hj ⟨i1, i2⟩
      simp only at i1 i2
      subst i1
      obtain ⟨ξ, e3, h3⟩ := i2.pass hC ok1 ok2 (lt := 1) rfl
      show ∃ s', fX10_addPlacesWith_8 (m + 1) 0 (I j') N = _ ∧ _
      rw [fX10_addPlacesWith_8, if_pos (show I j' < (4 : Int32) by rw [I_ltl (by omega) (by decide)]; omega), g_0_14 (i2.1.gr hIν.1), bs, e3, bs, I_addl]
      exact ⟨(j' + 1, ξ), rfl, rfl, h3⟩)
    (by
      rintro m ⟨j', N⟩ ⟨i1, i2⟩
      simp only at i1
      subst i1
      show fX10_addPlacesWith_8 (m + 1) 0 (I 4) N = _
      rw [fX10_addPlacesWith_8, if_neg (by decide)])
    4 fuel 0 (0, sC Z 464 (up (Z.2.1 464) p (I v))) rfl (by unfold fuel; omega) ⟨rfl, hZ.pac hC hp (I v)⟩
  simp only at e2 i1 i2
  rw [show fX10_addPlacesWith_8 fuel 0 (0 : Int32) (sC Z 464 (up (Z.2.1 464) p (I v))) = _ from e2]
  have hGN := i2.1.gr hIν.1
  have hFN := hF.trans i2.fq
  have hIN := hI.q hFN.ag
  have hat : ∀ q, q < C.P → N.2.1 458 q = I (plG C G Fd r (10 * p + v) q) ∧ plG C G Fd r (10 * p + v) q < 48 := by
    intro q hq
    have h1 := i2.2.1.2.2.2.2.2.1.2.2.2.2.1 q (by omega)
    have h2 := plG_ok (G := G) (Fd := Fd) hC hr.1 (10 * p + v) hq
    rw [show (10 * p + v) / 10 = p by omega, show (10 * p + v) % 10 = v by omega] at h2
    rw [if_pos hq] at h1
    exact ⟨h1.trans h2.1, h2.2⟩
  have h488 : N.2.2.1 488 = ν.2.2.1 488 := i2.1.2.2.2 488 Lr_488.1
  obtain ⟨⟨j, g⟩, e4, j1, j2, j3⟩ := loop_k (S := Nat × (Nat → Int64)) (R := Option Mem)
    (fun m s => fX10_addPlacesWith_29 m 0 (I s.1) (sLC N 488 s.2)) (fun s => some (sLC N 488 s.2)) C.P
    (fun j s => s.1 = j ∧ (∀ q, q < j → ∀ x, mb (s.2 q) x = (mb (ν.2.2.1 488 q) x || decide (plG C G Fd r (10 * p + v) q = x))) ∧ ∀ q, j ≤ q → s.2 q = ν.2.2.1 488 q)
    (by
      rintro m j ⟨j', g⟩ hj ⟨i1, i2, i3⟩
      simp only at i1 i2 i3
      subst i1
      obtain ⟨a1, a2⟩ := hat j' hj
      have hcel : gR (sLC N 488 g) 0 4 11 = some k := by rw [gLC]; exact hIN.cel
      refine ⟨(j' + 1, up g j' (g j' ||| fX10_bit (I (plG C G Fd r (10 * p + v) j')))), ?_, rfl, ?_, ?_⟩
      · show fX10_addPlacesWith_29 (m + 1) 0 (I j') (sLC N 488 g) = fX10_addPlacesWith_29 m 0 (I (j' + 1)) (sLC N 488 (up g j' (g j' ||| fX10_bit (I (plG C G Fd r (10 * p + v) j')))))
        rw [fX10_addPlacesWith_29, hcel, bs, sLC_i, hIN.2.2.2.2.2.1.2.1, if_pos (show I j' < I C.P from (I_lt (by omega) (by omega)).mpr hj)]
        simp (disch := omega) only [gLC, g_0_18 hGN, g_0_14 hGN, g_455_0 hGN, hGN.at a456, bs, ld_488, sLC_s, Nat.reduceAdd, ld_458, sLC_i, a1, st_488, sLC_C, I_addl]
      · intro q hq x
        show mb (up g j' _ q) x = _
        by_cases e : q = j'
        · subst e
          rw [up_s, mb_or, mb_bit (by omega), i3 q (by omega)]
          congr 1
          exact decide_eq_decide.mpr ⟨fun h => h.symm, fun h => h.symm⟩
        · rw [up_n _ _ e]; exact i2 q (by omega) x
      · intro q hq
        show up g j' _ q = _
        rw [up_n _ _ (by omega)]; exact i3 q (by omega))
    (by
      rintro m ⟨j', g⟩ ⟨i1, i2⟩
      simp only at i1
      subst i1
      have hcel : gR (sLC N 488 g) 0 4 11 = some k := by rw [gLC]; exact hIN.cel
      show fX10_addPlacesWith_29 (m + 1) 0 (I C.P) (sLC N 488 g) = _
      rw [fX10_addPlacesWith_29, hcel, bs, sLC_i, hIN.2.2.2.2.2.1.2.1, if_neg (show ¬ I C.P < I C.P by rw [I_lt (by omega) (by omega)]; omega)])
    C.P fuel 0 (0, N.2.2.1 488) rfl (by unfold fuel; omega) ⟨rfl, fun q hq => absurd hq (Nat.not_lt_zero q), fun q _ => by rw [h488]⟩
  simp only [sLC_same] at e4
  simp only at j1 j2 j3
  refine ⟨sLC N 488 g, e4, hFN.trans ((FrI.l (L := LC) N g Lr_488.2).b (fun _ h => h) (fun _ h => h)), ?_⟩
  intro q hq x
  rw [sLC_s]
  exact j2 q (by omega) x
theorem mostL_C (hI : INV C G Fd pc k r μ) {c : Nat → Nat} (hc : ∀ q, q < C.P → cnt (mb (μ.2.2.1 488 q)) 64 = c q) (a : Int32) : fX10_mostLookedFor 0 a μ = some (if a = 0 then (mstL c C.P).1 else I (mstL c C.P).2) := by
  have hP := hI.2.1.2.1
  have key := loop_eq (S := Nat) (R := Int32) (fun m s => fX10_mostLookedFor_7 μ m 0 a (mstL c s).1 (I (mstL c s).2) (I s)) C.P id
    (some (if a = 0 then (mstL c C.P).1 else I (mstL c C.P).2)) ?_ ?_ C.P fuel 0 rfl (by unfold fuel; omega)
  · exact key
  · intro m j hj
    show fX10_mostLookedFor_7 μ (m + 1) 0 a (mstL c j).1 (I (mstL c j).2) (I j) = fX10_mostLookedFor_7 μ m 0 a (mstL c (j + 1)).1 (I (mstL c (j + 1)).2) (I (j + 1))
    have hle := mstL_le c 64 j (fun i hi => by rw [← hc i (by omega)]; exact cnt_le _ _)
    have hcj : c j ≤ 64 := by rw [← hc j hj]; exact cnt_le _ _
    rw [fX10_mostLookedFor_7, hI.cel, bs, hI.2.2.2.2.2.1.2.1, if_pos (show I j < I C.P from (I_lt (by omega) (by omega)).mpr hj), g_0_18 hI.1, bs, ld_488 (by omega), bs, bitCount_ok, hc j hj, mstL_s, I_addl]
    by_cases z : (mstL c j).2 < c j
    · rw [if_pos z, if_pos (show I (mstL c j).2 < I (c j) from (I_lt (by omega) (by omega)).mpr z)]
    · rw [if_neg z, if_neg (show ¬ I (mstL c j).2 < I (c j) from fun t => z ((I_lt (by omega) (by omega)).mp t))]
  · intro m
    show fX10_mostLookedFor_7 μ (m + 1) 0 a (mstL c C.P).1 (I (mstL c C.P).2) (I C.P) = _
    rw [fX10_mostLookedFor_7, hI.cel, bs, hI.2.2.2.2.2.1.2.1, if_neg (show ¬ I C.P < I C.P by rw [I_lt (by omega) (by omega)]; omega)]
    by_cases z : a = 0
    · rw [if_pos z, if_pos z]
    · rw [if_neg z, if_neg z]
theorem c_look (hI : INV C G Fd pc k r μ) {n : Nat} {W D B : Nat → Nat} (hN : SN C n W D B μ) (a : Int32) : CQ (fX10_look 0 a μ) μ (if okW a 2 = true then 0 else 1) (valLk C G Fd n W D B r a) := by
  have hC := hI.2.1
  have hP := hC.2.1
  have hr := hI.2.2.2.2.2.2.2.2.1
  unfold fX10_look valLk
  rw [show fX10_needWhat 0 a (2 : Int32) = _ from needW_ok a 2, bs]
  by_cases h2 : okW a 2 = true
  · rw [if_pos h2, if_pos h2]
    simp only
    obtain ⟨⟨j, g⟩, e0, z1, z2⟩ := loop_k (S := Nat × (Nat → Int64)) (R := Option ((Int32 ⊕ Nat) × Mem))
      (fun m s => fX10_look_8 m 0 a (I s.1) (sLC μ 488 s.2)) (fun s => fX10_look_29 fuel 0 a 0 (sLC μ 488 s.2)) 6
      (fun j s => s.1 = j ∧ ∀ q, q < j → s.2 q = 0)
      (by
        rintro m j ⟨j', g⟩ hj ⟨i1, i2⟩
        simp only at i1 i2
        subst i1
        refine ⟨(j' + 1, up g j' 0), ?_, rfl, ?_⟩
        · show fX10_look_8 (m + 1) 0 a (I j') (sLC μ 488 g) = fX10_look_8 m 0 a (I (j' + 1)) (sLC μ 488 (up g j' 0))
          rw [fX10_look_8, if_pos (show I j' < (6 : Int32) by rw [I_ltl (by omega) (by decide)]; omega)]
          simp (disch := omega) only [gLC, g_0_18 hI.1, bs, st_488, sLC_s, sLC_C, I_addl]
        · intro q hq
          show up g j' 0 q = 0
          by_cases e : q = j'
          · subst e; rw [up_s]
          · rw [up_n _ _ e]; exact i2 q (by omega))
      (by
        rintro m ⟨j', g⟩ ⟨i1, i2⟩
        simp only at i1
        subst i1
        show fX10_look_8 (m + 1) 0 a (I 6) (sLC μ 488 g) = _
        rw [fX10_look_8, if_neg (by decide)])
      6 fuel 0 (0, μ.2.2.1 488) rfl (by unfold fuel; omega) ⟨rfl, fun q hq => absurd hq (Nat.not_lt_zero q)⟩
    simp only [sLC_same] at e0
    simp only at z1 z2
    have hF0 : FrB LC L2C μ (sLC μ 488 g) := (FrI.l (L := LC) μ g Lr_488.2).b (fun _ h => h) (fun _ h => h)
    have hin : ∀ (K : Nat → Int32 → Int32 → Mem → Option ((Int32 ⊕ Nat) × Mem)) (p : Nat) (M : Mem), p < C.P → FrB LC L2C μ M → (∀ q, q < C.P → ∀ x, mb (M.2.2.1 488 q) x = LK C G Fd n W D B r (10 * p) q x) → ∃ M', fX10_look_42 K fuel 0 a (I p) 0 M = K 0 a (I (p + 1)) M' ∧ FrB LC L2C μ M' ∧ ∀ q, q < C.P → ∀ x, mb (M'.2.2.1 488 q) x = LK C G Fd n W D B r (10 * (p + 1)) q x := by
      intro K p M hp hM hb
      obtain ⟨⟨j, N⟩, e, i1, i2, i3⟩ := loop_k (S := Nat × Mem) (R := Option ((Int32 ⊕ Nat) × Mem))
        (fun m s => fX10_look_42 K m 0 a (I p) (I s.1) s.2)
        (fun s => K 0 a (I (p + 1)) s.2) 10
        (fun j s => s.1 = j ∧ FrB LC L2C μ s.2 ∧ ∀ q, q < C.P → ∀ x, mb (s.2.2.2.1 488 q) x = LK C G Fd n W D B r (10 * p + j) q x)
        (by
          rintro m j ⟨j', N⟩ hj ⟨i1, i2, i3⟩
          simp only at i1 i2 i3
          subst i1
          have hIN := hI.q i2.ag
          obtain ⟨p1, p2⟩ := pace_C hIN hp
          have hgs : gsS C G Fd n W D B r (10 * p + j') = if r (73 + p) = I j' then false else seenS C G Fd n W D B (up r (73 + p) (I j')) := by
            unfold gsS
            rw [show (10 * p + j') / 10 = p by omega, show (10 * p + j') % 10 = j' by omega]
          have hLK : ∀ q x, LK C G Fd n W D B r (10 * p + (j' + 1)) q x = (LK C G Fd n W D B r (10 * p + j') q x || (gsS C G Fd n W D B r (10 * p + j') && decide (plG C G Fd r (10 * p + j') q = x))) := fun q x => LK_s _ _ _
          show ∃ s', fX10_look_42 K (m + 1) 0 a (I p) (I j') N = _ ∧ _
          rw [fX10_look_42, if_neg (show ¬ (9 : Int32) < I j' by rw [l_ltI (by omega) (by decide)]; omega), hIN.cel, bs, p1, bs, p2, bs]
          by_cases q : r (73 + p) = I j'
          · rw [if_pos q] at hgs
            refine ⟨(j' + 1, N), ?_, rfl, i2, ?_⟩
            · rw [if_pos q.symm, I_addl]
            · intro q hq x
              rw [hLK, hgs, Bool.false_and, Bool.or_false]
              exact i3 q hq x
          · rw [if_neg q] at hgs
            obtain ⟨ξ, e3, h3⟩ := isSeenWith_C hI i2 hN hp (I j')
            have h4 := i2.trans (h3.mono Lr_LC.1 Lr_LC.2)
            have h5 : ξ.2.2.1 488 = N.2.2.1 488 := h3.2.2.2 488 Lr_488.1
            rw [if_neg (fun t => q t.symm), e3, bs, ← hgs]
            by_cases s : gsS C G Fd n W D B r (10 * p + j') = true
            · simp only [if_pos s, I_addl]
              rw [if_neg (by decide)]
              obtain ⟨M', e5, f5, g5⟩ := addPl_C hI h4 hp (v := j') (by omega)
              rw [e5, bs]
              refine ⟨(j' + 1, M'), rfl, rfl, f5, ?_⟩
              intro q hq x
              show mb (M'.2.2.1 488 q) x = _
              rw [hLK, s, Bool.true_and, g5 q hq x, h5, i3 q hq x]
            · simp only [if_neg s, I_addl]
              rw [if_pos trivial]
              refine ⟨(j' + 1, ξ), rfl, rfl, h4, ?_⟩
              intro q hq x
              have s' : gsS C G Fd n W D B r (10 * p + j') = false := by
                cases z : gsS C G Fd n W D B r (10 * p + j')
                · rfl
                · exact absurd z s
              show mb (ξ.2.2.1 488 q) x = _
              rw [hLK, s', Bool.false_and, Bool.or_false, h5]
              exact i3 q hq x)
        (by
          rintro m ⟨j', N⟩ ⟨i1, i2⟩
          simp only at i1 i2
          subst i1
          show fX10_look_42 K (m + 1) 0 a (I p) (I 10) N = _
          rw [fX10_look_42, if_pos (by decide), I_addl])
        10 fuel 0 (0, M) rfl (by unfold fuel; omega) ⟨rfl, hM, hb⟩
      simp only at i1 i2 i3 e
      exact ⟨N, e, i2, i3⟩
    obtain ⟨⟨j, N⟩, e, i1, i2, i3⟩ := loop_k (S := Nat × Mem) (R := Option ((Int32 ⊕ Nat) × Mem))
      (fun m s => fX10_look_29 m 0 a (I s.1) s.2)
      (fun s => (fX10_mostLookedFor 0 a s.2).bind fun r5 => some (.inl r5, s.2)) C.P
      (fun j s => s.1 = j ∧ FrB LC L2C μ s.2 ∧ ∀ q, q < C.P → ∀ x, mb (s.2.2.2.1 488 q) x = LK C G Fd n W D B r (10 * j) q x)
      (by
        rintro m j ⟨j', N⟩ hj ⟨i1, i2, i3⟩
        simp only at i1 i2 i3
        subst i1
        have hIN := hI.q i2.ag
        obtain ⟨M', e, hM', hb'⟩ := hin (fX10_look_29 m) j' N hj i2 i3
        refine ⟨(j' + 1, M'), ?_, rfl, hM', hb'⟩
        show fX10_look_29 (m + 1) 0 a (I j') N = _
        rw [fX10_look_29, hIN.cel, bs, hIN.2.2.2.2.2.1.2.1, if_pos (show I j' < I C.P from (I_lt (by omega) (by omega)).mpr hj)]
        exact e)
      (by
        rintro m ⟨j', N⟩ ⟨i1, i2, _⟩
        simp only at i1 i2
        subst i1
        have hIN := hI.q i2.ag
        show fX10_look_29 (m + 1) 0 a (I C.P) N = _
        rw [fX10_look_29, hIN.cel, bs, hIN.2.2.2.2.2.1.2.1, if_neg (show ¬ I C.P < I C.P by rw [I_lt (by omega) (by omega)]; omega)])
      C.P fuel 0 (0, sLC μ 488 g) rfl (by unfold fuel; omega) ⟨rfl, hF0, fun q hq x => by
        show mb ((sLC μ 488 g).2.2.1 488 q) x = false
        rw [sLC_s, z2 q (by omega), mb_0]⟩
    simp only at i1 i2 i3 e
    refine ⟨N, i2, Or.inl ⟨rfl, ?_⟩⟩
    rw [show fX10_look_8 fuel 0 a (0 : Int32) μ = _ from e0, show fX10_look_29 fuel 0 a (0 : Int32) (sLC μ 488 g) = _ from e, mostL_C (hI.q i2.ag) (c := lkc C G Fd n W D B r) (fun q hq => cnt_congr (fun x _ => i3 q hq x)), bs]
  · rw [if_neg h2, if_neg h2]
    exact ⟨μ, FrB.refl _ _ μ, Or.inr (Or.inl ⟨rfl, rfl⟩)⟩
theorem qq_look (hI : INV C G Fd pc k r μ) (a : Int32) : QQ C G Fd pc k r (fun μ => fL_look 0 a 518 μ) (fun ν => fX11_look 492 a ν) μ := by
  obtain ⟨n, W, D, B, hN⟩ := hI.sn
  refine QQ.mkA hI (c_look hI hN a) (by split <;> decide) ?_ ?_ (fun ν h hA => r_look h (hN.q hA) a)
  · intro v ν e
    show fL_look 0 a 518 μ = _
    unfold fL_look
    rw [e, bs]
    simp only
    rw [show stL ν 518 (0 : Int32) v.toInt64 = _ from stL_I (n := 0) kd518 (by omega) (by omega), bs]
  · intro ν e
    show fL_look 0 a 518 μ = _
    unfold fL_look
    rw [e, bs]
    rfl
end Lk
