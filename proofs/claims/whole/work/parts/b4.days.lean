/-! ACTS: days, undo -/
section Dy
variable {C : Cel} {G Fd : List Itm} {pc : Nat → Int32} {k : Nat} {r : Row} {μ : Mem}
theorem QD.refu (hI : INV C G Fd pc k r μ) {fc fr : Mem → Option (Int32 × Mem)} {i : Nat} (hi : i < 3) {v : Int32} (hc : fc μ = some (v, sC μ 2 (up (μ.2.1 2) i (μ.2.1 2 i + 1)))) (hr : ∀ ν, Gr ν → (∀ c, c ≠ 2 → ν.2.1 c = μ.2.1 c) → fr ν = some (v, sC (thr ν 0) 496 (up ((thr ν 0).2.1 496) i ((thr ν 0).2.1 496 i + 1)))) : QD fc fr μ := by
  have hf : FrC μ (sC μ 2 (up (μ.2.1 2) i (μ.2.1 2 i + 1))) := ⟨rfl, fun _ _ _ => rfl, fun c _ h _ => sC_n μ _ h, fun _ _ _ => rfl⟩
  refine ⟨v, _, _, hc, hr _ (hf.aa.gr hI.1) (fun c h => sC_n μ _ h), C, G, Fd, pc, k, r, INV.refu hI hf ?_ ?_ ?_ hi⟩
  · intro c h1 h2
    rw [sC_n μ _ (by omega)]
  · intro c h1 h2
    rfl
  · rw [sC_s]
theorem dayR_st (hC : C.ok) {dark : Bool} {d : Nat} (hd : d < 6) : dayR C G Fd dark r (49 + d) = r (49 + d) := by
  show up (fadeR C Fd (greetR C (walkA C G dark r C.P).1 C.P) 48) 0 _ (49 + d) = _
  rw [up_n _ _ (by omega)]
  unfold fadeR
  rw [if_neg (by omega)]
  unfold greetR
  rw [if_neg (by omega)]
  exact walkA_lo (by omega) _ hC.2.1
theorem dN_good (hC : C.ok) {dk : Nat → Bool} (hg : Good C pc r) (n : Nat) : Good C pc (dN C G Fd dk r n) := by
  refine ⟨dN_ok hC hg.1 n, dN_ink hC hg.2.1 n, ?_, ?_⟩
  · intro p hp
    induction n with
    | zero => exact hg.2.2.1 p hp
    | succ n ih =>
      show _ = dayR C G Fd (dk n) (dN C G Fd dk r n) (73 + p)
      rw [dayR_pace hC hp]
      exact ih
  · intro d hd p hp
    have : dN C G Fd dk r n (49 + d) = r (49 + d) := by
      induction n with
      | zero => rfl
      | succ n ih =>
        show dayR C G Fd (dk n) (dN C G Fd dk r n) (49 + d) = _
        rw [dayR_st hC hd]
        exact ih
    rw [this]
    exact hg.2.2.2 d hd p hp
/-- as run_ok, of a memory where the class has kept already -/
theorem run_c {ν : Mem} (hG : Gr ν) (hC : C.ok) (hk : k = 3 ∨ k = 17) (hcel : gR ν 0 4 11 = some k) (hE : CE C G Fd pc k ν) (hS : SH C r 33 ν) (hr : Good C pc r) {n : Nat} (hn : n ≤ 1000) : ∃ ξ, fX10_runAhead 0 (I n) ν = some ξ ∧ CR C G Fd pc dk0 r k ν n ξ := by
  obtain ⟨M, e, hM⟩ := begin_ok hG hC hk hE hS hr.2.2.1 dk0
  unfold fX10_runAhead
  rw [g_0_14 hG, bs, hcel, bs, g_0_7 hG, bs, e, bs]
  obtain ⟨⟨j, N⟩, e2, i1, i2⟩ := loop_k (S := Nat × Mem) (R := Option Mem)
    (fun m s => fX10_runAhead_17 m 0 (I n) (I s.1) s.2) (fun s => some s.2) n
    (fun j s => s.1 = j ∧ CR C G Fd pc dk0 r k ν j s.2)
    (by
      rintro m j ⟨j', N⟩ hj ⟨i1, i2⟩
      simp only at i1 i2
      subst i1
      obtain ⟨ξ, e3, h3⟩ := i2.pass hC hr.1 hr.2.1 (lt := 1) rfl
      show ∃ s', fX10_runAhead_17 (m + 1) 0 (I n) (I j') N = _ ∧ _
      rw [fX10_runAhead_17, if_pos (show I j' < I n from (I_lt (by omega) (by omega)).mpr hj), g_0_14 (i2.1.gr hG), bs, e3, bs, I_addl]
      exact ⟨(j' + 1, ξ), rfl, rfl, h3⟩)
    (by
      rintro m ⟨j', N⟩ ⟨i1, i2⟩
      simp only at i1
      subst i1
      show fX10_runAhead_17 (m + 1) 0 (I j') (I j') N = _
      rw [fX10_runAhead_17, if_neg (show ¬ I j' < I j' by rw [I_lt (by omega) (by omega)]; omega)])
    n fuel 0 (0, M) rfl (by unfold fuel; omega) ⟨rfl, hM⟩
  exact ⟨N, e2, i2⟩
theorem Lr_k : ∀ c ∈ Lr, c < 33 ∨ 240 ≤ c := by decide
theorem L2p_k : ∀ c ∈ L2p, 240 ≤ c := by decide
theorem RD.ff {μ ν : Mem} (h : RD 0 μ ν) : FrF μ ν := by
  refine ⟨h.1.1, h.1.2.1, fun c hc _ _ => h.1.2.2.1 c (fun q => hc ?_), fun f hf => h.1.2.2.2 f (fun q => hf (by simp [q])) (fun q => hf (by simp [q]))⟩
  have : ∀ c ∈ ldR7, c ∈ LR := by decide
  exact this c q
theorem ldR7_503 : 503 ∉ ldR7 ∧ 496 ∉ ldR7 := by decide
theorem rdays (hI : INV C G Fd pc k r μ) {M : Mem} (hRC : RC C M) (hRK : RK G Fd M) (h41 : M.2.1 492 41 = -1) (h45 : M.2.1 492 45 = 0) (hE : E79 (M.2.1 502) r) {n : Nat} (hn : n ≤ 1000) : ∃ ξ, fX11_days_41 fuel 492 (I n) 0 M = some (dN C G Fd dk0 r n 0, ξ) ∧ RD 0 M ξ ∧ E79 (rwb ξ 0) (dN C G Fd dk0 r n) := by
  have hC := hI.2.1
  have hr := hI.good
  obtain ⟨⟨j, N⟩, e2, i1, i2, i3⟩ := loop_k (S := Nat × Mem) (R := Option (Int32 × Mem))
    (fun m s => fX11_days_41 m 492 (I n) (I s.1) s.2) (fun s => some (s.2.2.1 502 0, s.2)) n
    (fun j s => s.1 = j ∧ RD 0 M s.2 ∧ E79 (rwb s.2 0) (dN C G Fd dk0 r j))
    (by
      rintro m j ⟨j', N⟩ hj ⟨i1, i2, i3⟩
      simp only at i1 i2 i3
      subst i1
      have f41 : N.2.1 492 41 = -1 := by rw [i2.1.2.2.2 41 (by decide) (by decide)]; exact h41
      have f45 : N.2.1 492 45 = if dk0 j' = true then 1 else 0 := by rw [i2.1.2.2.2 45 (by decide) (by decide)]; exact h45
      obtain ⟨ξ, e3, d1, d2, _⟩ := dayGoes_ok (i2.rc hRC) (i2.rk hRK) (b := 0) (dark := dk0 j') (by omega) (i3.symm.rowOK hC (dN_ok hC hr.1 j')) f41 f45
      show ∃ s', fX11_days_41 (m + 1) 492 (I n) (I j') N = _ ∧ _
      rw [fX11_days_41, if_pos (show I j' < I n from (I_lt (by omega) (by omega)).mpr hj), show fX11_dayGoes 492 (0 : Int32) N = _ from e3, bs, I_addl]
      refine ⟨(j' + 1, ξ), rfl, rfl, i2.trans d1, ?_⟩
      show E79 (rwb ξ 0) (dayR C G Fd (dk0 j') (dN C G Fd dk0 r j'))
      rw [d2]
      exact dayR_congr hC i3)
    (by
      rintro m ⟨j', N⟩ ⟨i1, i2, i3⟩
      simp only at i1
      subst i1
      show fX11_days_41 (m + 1) 492 (I j') (I j') N = _
      rw [fX11_days_41, if_neg (show ¬ I j' < I j' by rw [I_lt (by omega) (by omega)]; omega), g_492_34 (i2.rc hRC).1, bs, show ldI N 502 (0 : Int32) = _ from ld_502 (n := 0) (by omega), bs])
    n fuel 0 (0, M) rfl (by unfold fuel; omega) ⟨rfl, RD.refl 0 M, by
      intro q hq
      unfold rwb
      rw [Nat.zero_add]
      exact hE q hq⟩
  refine ⟨N, ?_, i2, i3⟩
  have h0 := i3 0 (by omega)
  unfold rwb at h0
  rw [Nat.zero_add] at h0
  simp only at e2
  rw [show (0 : Int32) = I 0 from rfl, e2, h0]
theorem qd_days (hI : INV C G Fd pc k r μ) (a : Int32) : QD (fun μ => fX10_days 0 a μ) (fun ν => fX11_days 492 a ν) μ := by
  have hC := hI.2.1
  have hG := hI.1
  have hday : μ.2.1 33 0 = r 0 := hI.sh.1
  by_cases hq : okR a 1 20 = true ∧ ¬ (9999 : Int32) < r 0 + a
  · obtain ⟨ha, h9⟩ := hq
    have ha' := ha
    obtain ⟨n, hn1, hn, rfl⟩ := okR_ex (by decide) ha (by decide)
    obtain ⟨K, hK, hA, h36, hgo⟩ := hI.kept
    obtain ⟨ν, e1, e2, e3⟩ := keep_ok hG hK hA hI.sh
    have hGν : Gr ν := e2.fc.aa.gr hG
    have hSν := e2.sh hI.sh
    have hcel : gR ν 0 4 11 = some k := by
      have := hI.cel
      unfold gR at this ⊢
      rw [e2.2.1]
      exact this
    have hEν : CE C G Fd pc k ν := by
      have hk := hI.2.2.1
      exact hI.2.2.2.2.2.1.fr (e2.2.2.1 _ (by omega)) (e2.2.2.2 _ (by omega)) (e2.2.2.1 _ (by omega)) (e2.2.2.1 _ (by omega)) (e2.2.2.1 _ (by omega)) (e2.2.2.1 _ (by omega)) (e2.2.2.1 _ (by omega)) (e2.2.2.1 _ (by omega))
    obtain ⟨ν2, e4, e5⟩ := run_c hGν hC hI.2.2.1 hcel hEν hSν hI.good (n := n) (by omega)
    have hG2 := e5.1.gr hGν
    obtain ⟨ν3, e6, e7, e8⟩ := copyFrom_ok hG2 a33 a456 (Or.inl (by decide)) e5.2.1.2.2.2.2.2.1
    have hG3 : Gr ν3 := e7.gr hG2
    have k1 : FrC μ ν3 := by
      refine (e2.fc.trans (FrB.fc (e5.1.mono Lr_LC.1 Lr_LC.2))).trans ⟨e7.1, fun a f _ => by rw [e7.2.1], fun c _ _ hc => e7.2.2.1 c (by simp; omega), fun c _ hc => e7.2.2.2 c (by simp; omega)⟩
    have k3 : ActC C (kpK K) (kpR K (krow μ 503) r) 38 40 ν3 := by
      refine e3.fr (fun c h1 h2 => ?_) (fun c h1 h2 => ?_)
      · rw [e7.2.2.1 c (by simp; omega), e5.1.2.2.1 c (fun q => by have := Lr_k c q; omega)]
      · rw [e7.2.2.2 c (by simp; omega), e5.1.2.2.2 c (fun q => by have := L2p_k c q; omega)]
    have k2' : ν3.2.1 2 = μ.2.1 2 := by
      rw [e7.2.2.1 2 (by simp), e5.1.2.2.1 2 (by decide), e2.2.2.1 2 (by omega)]
    obtain ⟨M, m1, m2, m3, m4, m5, m6, m7, m8, m9⟩ := rkeepA hI k1 hK h36
    have hRCM : RC C M := m2.aa.rc (k1.aa.rc hI.rcc)
    have hRKM : RK G Fd M := by
      have hAA := k1.aa.trans m2.aa
      unfold RK
      rw [hAA.hi (by omega), hAA.2.2.2.2 3 (by decide), hAA.2.2.2.2 4 (by decide)]
      exact hI.2.2.2.2.2.2.2.1
    obtain ⟨ξ, x1, x2, x3⟩ := rdays hI hRCM hRKM m7 m8 m5 (n := n) (by omega)
    obtain ⟨hR, h0, hr⟩ := rc_act hI k1
    refine ⟨dN C G Fd dk0 r n 0, ν3, ξ, ?_, ?_, C, G, Fd, pc, k, dN C G Fd dk0 r n, ?_⟩
    · show fX10_days 0 (I n) μ = _
      unfold fX10_days
      rw [if_neg (by rw [I_ltl (by omega) (by decide)]; show ¬ n < 1; omega), if_neg (by rw [l_ltI (by omega) (by decide)]; show ¬ 20 < n; omega), g_0_7 hG, bs, if_neg (by rw [hday]; exact h9), g_0_8 hG, bs, bs, e1, bs, e4, bs, g_0_7 hG2, bs, g_0_14 hG2, bs, g_455_0 hG2, bs, e6, bs, g_0_7 hG3, bs, e8.1]
    · show fX11_days 492 (I n) ν3 = _
      unfold fX11_days
      rw [bs, sI_C, show fX11_within (I n) (1 : Int32) (20 : Int32) = _ from within_ok (I n) 1 20, if_pos ha', if_neg (by decide), g_492_34 hR.1, bs, show ldI _ 502 (0 : Int32) = _ from ld_502 (n := 0) (by omega), bs, hr 0 (by omega), if_neg h9, m1, bs]
      exact x1
    · refine act_fin hI k1 e8 k3 (kpK_le hK) (m2.trans x2.ff) x3 ?_ ?_ (kpR_good hgo hI.good) (dN_good hC hI.good n) ?_ ?_ ?_
      · rw [x2.1.2.2.2 36 (by decide) (by decide)]; exact m3
      · intro i hi
        have : krow ξ 503 i = krow M 503 i := by
          unfold krow
          rw [x2.1.2.2.1 503 ldR7_503.1]
        rw [this]
        exact m4 i hi
      · rw [x2.1.2.2.2 41 (by decide) (by decide)]; exact m7
      · rw [x2.1.2.2.2 45 (by decide) (by decide)]; exact m8
      · intro i hi
        rw [(m2.trans x2.ff).cl (by omega), k2', x2.1.2.2.1 496 ldR7_503.2, m9]
        exact hI.ref i hi
  · refine QD.refu hI (i := 1) (by decide) (v := -1) ?_ ?_
    · show fX10_days 0 a μ = _
      have q := crefuse hG (i := 1) (by decide) (fun μ10 => some ((-1 : Int32), μ10))
      unfold fX10_days
      by_cases h1 : a < 1
      · rw [if_pos h1]; exact q
      · rw [if_neg h1]
        by_cases h2 : (20 : Int32) < a
        · rw [if_pos h2]; exact q
        · have ho : okR a 1 20 = true := okR_mk h1 h2
          have h9 : (9999 : Int32) < r 0 + a := Classical.not_not.mp (fun h => hq ⟨ho, h⟩)
          rw [if_neg h2, g_0_7 hG, bs, if_pos (by rw [hday]; exact h9)]
          exact q
    · intro ν hν he
      obtain ⟨hR, h0, hr⟩ := rc_ref hI hν he
      show fX11_days 492 a ν = _
      unfold fX11_days
      rw [bs, sI_C, show fX11_within a (1 : Int32) (20 : Int32) = _ from within_ok a 1 20]
      by_cases ho : okR a 1 20 = true
      · have h9 : (9999 : Int32) < r 0 + a := Classical.not_not.mp (fun h => hq ⟨ho, h⟩)
        rw [if_pos ho, if_neg (by decide), g_492_34 hR.1, bs, show ldI _ 502 (0 : Int32) = _ from ld_502 (n := 0) (by omega), bs, hr 0 (by omega), if_pos h9, show fX11_refuses 492 (1 : Int32) _ = _ from rrefuse (i := 1) hR.1 (by decide), bs]
      · rw [if_neg ho, if_pos rfl, show fX11_refuses 492 (1 : Int32) _ = _ from rrefuse (i := 1) hR.1 (by decide), bs]
theorem undo26 {μ : Mem} (hG : Gr μ) {K : Nat} (hK : K < 40) (h36 : μ.2.1 492 36 = I K) : fX11_undo_26 fuel 492 0 μ = some (I K, sC μ 502 (fun i => if i < 79 then μ.2.1 503 (79 * K + i) else μ.2.1 502 i)) := by
  have key := loop_eq (S := Nat × Mem) (R := Int32 × Mem) (fun m s => fX11_undo_26 m 492 (I s.1) s.2) 79 (fun j => (j, sC μ 502 (fun i => if i < j then μ.2.1 503 (79 * K + i) else μ.2.1 502 i))) (some (I K, sC μ 502 (fun i => if i < 79 then μ.2.1 503 (79 * K + i) else μ.2.1 502 i)))
    (by
      intro n j hj
      show fX11_undo_26 (n + 1) 492 (I j) _ = fX11_undo_26 n 492 (I (j + 1)) _
      rw [fX11_undo_26, if_pos (show I j < (79 : Int32) by rw [I_ltl (by omega) (by decide)]; exact hj), g_492_34 (hG.sC _ _), bs, g_492_35 (hG.sC _ _), bs, sC_n μ _ (by decide : 492 ≠ 502), h36, l_mulI, I_add, ld_503 (by show 79 * K + j < 3160; omega), bs, st_502 (by omega), bs, I_addl, sC_s, sC_C, sC_n μ _ (by decide : 503 ≠ 502)]
      congr 2
      funext i
      rw [up_e]
      by_cases e : i = j
      · rw [if_pos e, if_pos (by omega), e]
      · rw [if_neg e]
        by_cases e2 : i < j
        · rw [if_pos e2, if_pos (by omega)]
        · rw [if_neg e2, if_neg (by omega)])
    (by
      intro n
      show fX11_undo_26 (n + 1) 492 (I 79) _ = _
      rw [fX11_undo_26, if_neg (by decide), sC_n μ _ (by decide : 492 ≠ 502), h36])
    79 fuel 0 rfl (by unfold fuel; omega)
  have e0 : (fun i => if i < 0 then μ.2.1 503 (79 * K + i) else μ.2.1 502 i) = μ.2.1 502 := by
    funext i
    rw [if_neg (by omega)]
  simp only [e0, sC_same] at key
  exact key
theorem qd_undo (hI : INV C G Fd pc k r μ) : QD (fun μ => fX10_undo 0 μ) (fun ν => fX11_undo 492 ν) μ := by
  have hC := hI.2.1
  have hG := hI.1
  obtain ⟨K, hK, hA, h36, hgo⟩ := hI.kept
  obtain ⟨o, ho, h0, h1, h2⟩ := hA
  by_cases e : K = 0
  · subst e
    obtain ⟨t1, t2, t3, t4⟩ := thr0 μ
    refine ⟨-1, μ, thr μ 0, ?_, ?_, C, G, Fd, pc, k, r, hI.q (t1.ag t3 t4)⟩
    · show fX10_undo 0 μ = _
      unfold fX10_undo fX0_takeBack
      rw [g_0_8 hG, bs, g_0_7 hG, bs, if_pos (show μ.2.1 38 0 = 0 from h0), bs]
      rfl
    · show fX11_undo 492 μ = _
      unfold fX11_undo
      rw [bs, sI_C, if_pos (by rw [sC_s, up_n _ _ (by decide)]; exact h36)]
  · obtain ⟨K, rfl⟩ : ∃ m, K = m + 1 := ⟨K - 1, by omega⟩
    have hj : (o + K) % 40 < 40 := Nat.mod_lt _ (by decide)
    have hG1 := hG.sC 38 (up (μ.2.1 38) 0 (I K))
    obtain ⟨ν, e6, e7, e8⟩ := copyFrom_ok hG1 a33 (stA_k ⟨_, hj⟩) (Or.inl (by show 33 + 4 < 40 + 5 * ((o + K) % 40); omega)) ((h2 K (by omega)).c (c := 38) (up (μ.2.1 38) 0 (I K)) (by omega))
    simp only at e6 e7 e8
    have hGν := e7.gr hG1
    have n38 : ν.2.1 38 = up (μ.2.1 38) 0 (I K) := by rw [e7.2.2.1 38 (by simp), sC_s]
    have k1 : FrC μ ν := by
      refine FrC.trans (ν := sC μ 38 (up (μ.2.1 38) 0 (I K))) ⟨rfl, fun _ _ _ => rfl, fun c _ _ hc => sC_n μ _ (by omega), fun _ _ _ => rfl⟩ ⟨e7.1, fun a f _ => by rw [e7.2.1], fun c _ _ hc => e7.2.2.1 c (by simp; omega), fun c _ hc => e7.2.2.2 c (by simp; omega)⟩
    have k3 : ActC C K (krow μ 503) 38 40 ν := by
      refine ⟨o, ho, ?_, ?_, ?_⟩
      · rw [n38, up_s]
      · rw [n38, up_n _ _ (by decide)]; exact h1
      · intro i hi
        have q := (h2 i (by omega)).c (c := 38) (up (μ.2.1 38) 0 (I K)) (by omega)
        exact q.fr (e7.2.2.1 _ (by simp; omega)) (e7.2.2.2 _ (by simp; omega)) (e7.2.2.1 _ (by simp; omega)) (e7.2.2.1 _ (by simp; omega)) (e7.2.2.1 _ (by simp; omega)) (e7.2.2.1 _ (by simp; omega))
    have e492 : ν.2.1 492 = μ.2.1 492 := k1.2.2.1 492 LC_492.1 (by decide) (by omega)
    have e503 : ν.2.1 503 = μ.2.1 503 := k1.2.2.1 503 (by decide) (by decide) (by omega)
    have e496 : ν.2.1 496 = μ.2.1 496 := k1.2.2.1 496 (by decide) (by decide) (by omega)
    have hu := undo26 (μ := sC (thr ν 0) 492 (up ((thr ν 0).2.1 492) 36 (I K))) ((hGν.sC _ _).sC _ _) (K := K) (by omega) (by rw [sC_s, up_s])
    refine ⟨I K, ν, sC (sC (thr ν 0) 492 (up ((thr ν 0).2.1 492) 36 (I K))) 502 (fun i => if i < 79 then (sC (thr ν 0) 492 (up ((thr ν 0).2.1 492) 36 (I K))).2.1 503 (79 * K + i) else (sC (thr ν 0) 492 (up ((thr ν 0).2.1 492) 36 (I K))).2.1 502 i), ?_, ?_, C, G, Fd, pc, k, krow μ 503 K, ?_⟩
    · show fX10_undo 0 μ = _
      unfold fX10_undo fX0_takeBack
      rw [g_0_8 hG, bs, g_0_7 hG, bs, if_neg (by rw [h0]; intro q; rw [show (0 : Int32) = I 0 from rfl, I_inj (by omega) (by omega)] at q; omega), bs, sI_C, h0, I_subl (by show 1 ≤ K + 1; omega), show K + 1 - OfNat.ofNat 1 = K from rfl, g_38_2 hG1, bs, sC_s, up_s, up_n _ _ (by decide), h1, I_add, I_mod (by omega) (by decide), show (OfNat.ofNat 40 : Nat) = 40 from rfl, ldR_39 hG1 hj, bs, e6, bs, bs]
      simp only
      rw [if_neg (by decide), g_0_8 hGν, bs, n38, up_s]
    · show fX11_undo 492 ν = _
      unfold fX11_undo
      rw [bs, sI_C, if_neg (by rw [sC_s, up_n _ _ (by decide), e492, h36]; intro q; rw [show (0 : Int32) = I 0 from rfl, I_inj (by omega) (by omega)] at q; omega), bs, sI_C]
      have : (thr ν 0).2.1 492 36 - 1 = I K := by
        rw [sC_s, up_n _ _ (by decide), e492, h36, I_subl (by show 1 ≤ K + 1; omega)]
        rfl
      rw [this, hu]
    · refine act_fin hI k1 e8 k3 (by omega) ((FrF.f (f := 0) 0 (by decide)).trans ((FrF.f (f := 36) (I K) (by decide)).trans (FrF.row _))) ?_ ?_ ?_ (fun i hi => hgo i (by omega)) (hgo K (by omega)) ?_ ?_ ?_
      · intro q hq
        unfold rwb krow
        rw [Nat.zero_add, sC_s, if_pos hq, sC_n _ _ (by decide), sC_n _ _ (by decide), e503]
      · rw [sC_n _ _ (by decide), sC_s, up_s]
      · intro i _ q _
        unfold krow
        rw [sC_n _ _ (by decide), sC_n _ _ (by decide), sC_n _ _ (by decide), e503]
      · rw [sC_n _ _ (by decide), sC_s, up_n _ _ (by decide), sC_s, up_n _ _ (by decide), e492]
        exact hI.2.2.2.2.2.2.2.2.2.2.2.2.2.2.2.2.2.1
      · rw [sC_n _ _ (by decide), sC_s, up_n _ _ (by decide), sC_s, up_n _ _ (by decide), e492]
        exact hI.2.2.2.2.2.2.2.2.2.2.2.2.2.2.2.2.2.2
      · intro i hi
        rw [sC_n _ _ (by decide), sC_n _ _ (by decide), sC_n _ _ (by decide), sC_n _ _ (by decide), sC_n _ _ (by decide), sC_n _ _ (by decide), e496, e7.2.2.1 2 (by simp), sC_n _ _ (by decide)]
        exact hI.ref i hi
end Dy
