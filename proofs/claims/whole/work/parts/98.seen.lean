/-! CALLS: what was seen -/
section Se
variable {C : Cel} {G Fd : List Itm} {pc : Nat → Int32} {k : Nat} {r : Row} {μ : Mem}
theorem AG.trans {μ ν ξ : Mem} (h : AG μ ν) (h' : AG ν ξ) : AG μ ξ := ⟨h'.1.trans h.1, fun a f q => (h'.2.1 a f q).trans (h.2.1 a f q), fun c hc => (h'.2.2.1 c hc).trans (h.2.2.1 c hc), fun c hc => (h'.2.2.2.1 c hc).trans (h.2.2.2.1 c hc), fun f hf => (h'.2.2.2.2.1 f hf).trans (h.2.2.2.2.1 f hf), fun j hj => (h'.2.2.2.2.2.1 j hj).trans (h.2.2.2.2.2.1 j hj), h'.2.2.2.2.2.2.1.trans h.2.2.2.2.2.2.1, h'.2.2.2.2.2.2.2.trans h.2.2.2.2.2.2.2⟩
/-- both halves, the second one over a memory that agrees with the first one's -/
theorem QQ.mkA {fc fr : Mem → Option (Int32 × Mem)} {x : Option ((Int32 ⊕ Nat) × Mem)} {code val : Int32} (hI : INV C G Fd pc k r μ) (hc : CQ x μ code val) (hne : code ≠ 2)
    (hf : ∀ v ν, x = some (.inl v, ν) → fc μ = some (0, sLC ν 518 (up (ν.2.2.1 518) 0 v.toInt64))) (hf1 : ∀ ν, x = some (.inr 0, ν) → fc μ = some (1, ν))
    (hr : ∀ ν, INV C G Fd pc k r ν → AG μ ν → RQ (fr ν) ν code val) : QQ C G Fd pc k r fc fr μ := by
  obtain ⟨ν, h1, h2⟩ := hc
  have key : ∀ ν1, AG μ ν1 → fc μ = some (code, ν1) → (code = 0 → ν1.2.2.1 518 0 = val.toInt64) → QQ C G Fd pc k r fc fr μ := by
    intro ν1 hA e h0
    have hI1 := hI.q hA
    obtain ⟨v, ν2, e2, f1, f2, f3, f4, f5⟩ := hr ν1 hI1 hA
    refine ⟨code, ν1, v, ν2, e, e2, f4, ?_, hI1.q (f1.ag f2 f3)⟩
    intro hz
    rw [show ldL ν2 518 (0 : Int32) = _ from ldL_I (n := 0) kd518 (by omega) (by omega)]
    have : ν2.2.2.1 = ν1.2.2.1 := by rw [f1.2.1]
    rw [this, h0 hz, f5 hz]
  rcases h2 with ⟨hz, e⟩ | ⟨hz, e⟩ | ⟨hz, e⟩
  · subst hz
    refine key _ ((h1.trans ((FrI.l (L := LC) ν (up (ν.2.2.1 518) 0 val.toInt64) (by decide : 518 ∈ L2C)).b (fun _ h => h) (fun _ h => h))).ag) (hf val ν e) (fun _ => by rw [sLC_s, up_s])
  · subst hz
    exact key ν h1.ag (hf1 ν e) (fun q => absurd q (by decide))
  · exact absurd hz hne
/-- what was seen, by numbers: how many; who, in which deed, behind how many days -/
def SN (C : Cel) (n : Nat) (W D B : Nat → Nat) (μ : Mem) : Prop := n ≤ 8 ∧ μ.2.1 240 0 = I n ∧ μ.2.1 492 49 = I n ∧ ∀ i, i < n → W i < C.P ∧ D i < C.D ∧ B i ≤ 20 ∧ μ.2.1 241 i = I (W i) ∧ μ.2.1 242 i = I (D i) ∧ μ.2.1 243 i = I (B i) ∧ μ.2.1 512 (3 * i) = I (W i) ∧ μ.2.1 512 (3 * i + 1) = I (D i) ∧ μ.2.1 512 (3 * i + 2) = I (B i)
theorem INV.sn (hI : INV C G Fd pc k r μ) : ∃ n W D B, SN C n W D B μ := by
  obtain ⟨n, h1, h2, h3, h4⟩ := hI.2.2.2.2.2.2.2.2.2.2.2.2.1
  have hC := hI.2.1
  have hD := hC.1
  have hP := hC.2.1
  refine ⟨n, fun i => ix (μ.2.1 241 i), fun i => ix (μ.2.1 242 i), fun i => ix (μ.2.1 243 i), h1, h2, h3, ?_⟩
  intro i hi
  obtain ⟨w, d, b, a1, a2, a3, a4, a5, a6, a7, a8, a9⟩ := h4 i hi
  have e1 : ix (μ.2.1 241 i) = w := by rw [show μ.2.1 241 i = I w from a4]; exact ix_I (by omega)
  have e2 : ix (μ.2.1 242 i) = d := by rw [show μ.2.1 242 i = I d from a5]; exact ix_I (by omega)
  have e3 : ix (μ.2.1 243 i) = b := by rw [show μ.2.1 243 i = I b from a6]; exact ix_I (by omega)
  simp only [e1, e2, e3]
  exact ⟨a1, a2, a3, a4, a5, a6, a7, a8, a9⟩
theorem SN.q {n : Nat} {W D B : Nat → Nat} {ν : Mem} (h : SN C n W D B μ) (hA : AG μ ν) : SN C n W D B ν := by
  obtain ⟨h1, h2, h3, h4⟩ := h
  have e0 : ν.2.1 240 = μ.2.1 240 := hA.lo (by omega) (by omega) (by omega) (by omega) (by omega)
  have e1 : ν.2.1 241 = μ.2.1 241 := hA.lo (by omega) (by omega) (by omega) (by omega) (by omega)
  have e2 : ν.2.1 242 = μ.2.1 242 := hA.lo (by omega) (by omega) (by omega) (by omega) (by omega)
  have e3 : ν.2.1 243 = μ.2.1 243 := hA.lo (by omega) (by omega) (by omega) (by omega) (by omega)
  refine ⟨h1, by rw [e0]; exact h2, by rw [hA.2.2.2.2.1 49 (by decide)]; exact h3, ?_⟩
  rw [e1, e2, e3, hA.hi (c := 512) (by omega)]
  exact h4
/-- all that was seen behind so many days is so -/
def agR (n : Nat) (W D B : Nat → Nat) (r : Row) (day : Nat) : Bool := decide (∀ i, i < n → B i = day → r (55 + W i) / 8 = I (D i))
noncomputable def seenS (C : Cel) (G Fd : List Itm) (n : Nat) (W D B : Nat → Nat) (r : Row) : Bool := @decide (∀ d, d < 21 → agR n W D B (dN C G Fd dk0 r d) d = true) (Classical.propDecidable _)
theorem seenS_iff {n : Nat} {W D B : Nat → Nat} {r : Row} : seenS C G Fd n W D B r = true ↔ ∀ d, d < 21 → agR n W D B (dN C G Fd dk0 r d) d = true :=
  ⟨fun t => @of_decide_eq_true _ (Classical.propDecidable _) t, fun h => @decide_eq_true _ (Classical.propDecidable _) h⟩
theorem agR_congr {n : Nat} {W D B : Nat → Nat} {r r' : Row} {day : Nat} (h : ∀ i, i < n → r (55 + W i) = r' (55 + W i)) : agR n W D B r day = agR n W D B r' day := by
  unfold agR
  apply decide_eq_decide.mpr
  constructor
  · intro q i hi hb; rw [← h i hi]; exact q i hi hb
  · intro q i hi hb; rw [h i hi]; exact q i hi hb
theorem agrees_C {n : Nat} {W D B : Nat → Nat} (hG : Gr μ) (hC : C.ok) (hN : SN C n W D B μ) (hS : SH C r 456 μ) {day : Nat} (hd : day < 1000) : fX8_agreesOn 240 (I day) 456 μ = some (if agR n W D B r day = true then 1 else 0) := by
  have hP := hC.2.1
  have hDD := hC.1
  obtain ⟨h1, h2, h3, h4⟩ := hN
  unfold fX8_agreesOn
  have key := loop_ok (S := Nat) (R := Int32) (fun m s => fX8_agreesOn_2 μ m 240 (I day) 456 (I s)) n
    (fun j s => s = j ∧ ∀ i, i < j → B i = day → r (55 + W i) / 8 = I (D i))
    (fun v => v = if agR n W D B r day = true then 1 else 0) ?_ ?_ n fuel 0 0 rfl (by unfold fuel; omega) ⟨rfl, fun i hi => absurd hi (Nat.not_lt_zero i)⟩
  · obtain ⟨v, e, rfl⟩ := key
    exact e
  · rintro m j j' hj ⟨i1, i2⟩
    subst i1
    obtain ⟨a1, a2, a3, a4, a5, a6, _⟩ := h4 j' hj
    have hat : μ.2.1 458 (W j') = r (55 + W j') := by
      have := hS.2.2.2.2.1 (W j') (by omega)
      rw [if_pos a1] at this
      exact this
    rw [fX8_agreesOn_2, h2, if_pos (show I j' < I n from (I_lt (by omega) (by omega)).mpr hj), g_240_3 hG, bs, ld_243 (by omega), bs, a6]
    simp (disch := omega) only [hG.at a456, g_240_1 hG, g_240_2 hG, bs, ld_241, ld_242, a4, a5, ld_458, hat, Nat.reduceAdd, I_inj, I_addl]
    by_cases q : B j' = day
    · rw [if_pos q]
      by_cases q2 : r (55 + W j') / 8 = I (D j')
      · rw [if_pos q2]
        right
        refine ⟨j' + 1, rfl, rfl, ?_⟩
        intro i hi hb
        by_cases e : i = j'
        · subst e; exact q2
        · exact i2 i (by omega) hb
      · rw [if_neg q2]
        left
        refine Ok.s ?_
        rw [if_neg]
        intro t
        exact q2 (of_decide_eq_true t j' hj q)
    · rw [if_neg q]
      right
      refine ⟨j' + 1, rfl, rfl, ?_⟩
      intro i hi hb
      by_cases e : i = j'
      · subst e; exact absurd hb q
      · exact i2 i (by omega) hb
  · rintro m s ⟨i1, i2⟩
    subst i1
    rw [fX8_agreesOn_2, h2, if_neg (show ¬ I s < I s by rw [I_lt (by omega) (by omega)]; omega)]
    refine Ok.s ?_
    rw [if_pos (show agR s W D B r day = true from decide_eq_true i2)]
theorem lastDay_C {n : Nat} {W D B : Nat → Nat} (hG : Gr μ) (hN : SN C n W D B μ) : ∃ l, l ≤ 21 ∧ fX8_lastDay 240 μ = some (if l = 0 then -1 else I (l - 1)) ∧ ∀ i, i < n → B i < l := by
  obtain ⟨h1, h2, h3, h4⟩ := hN
  unfold fX8_lastDay
  have key := loop_ok (S := Nat × Nat) (R := Int32) (fun m s => fX8_lastDay_4 μ m 240 (if s.2 = 0 then -1 else I (s.2 - 1)) (I s.1)) n
    (fun j s => s.1 = j ∧ s.2 ≤ 21 ∧ ∀ i, i < j → B i < s.2)
    (fun v => ∃ l, l ≤ 21 ∧ v = (if l = 0 then -1 else I (l - 1)) ∧ ∀ i, i < n → B i < l) ?_ ?_ n fuel 0 (0, 0) rfl (by unfold fuel; omega) ⟨rfl, by omega, fun i hi => absurd hi (Nat.not_lt_zero i)⟩
  · obtain ⟨v, e, l, l1, rfl, l2⟩ := key
    exact ⟨l, l1, e, l2⟩
  · rintro m j ⟨j', l⟩ hj ⟨i1, i2, i3⟩
    simp only at i1 i2 i3
    subst i1
    obtain ⟨_, _, a3, _, _, a6, _⟩ := h4 j' hj
    right
    show ∃ s', fX8_lastDay_4 μ (m + 1) 240 (if l = 0 then -1 else I (l - 1)) (I j') = _ ∧ _
    rw [fX8_lastDay_4, h2, if_pos (show I j' < I n from (I_lt (by omega) (by omega)).mpr hj), g_240_3 hG, bs, ld_243 (by omega), bs, a6, I_addl]
    have hmx : mxI (if l = 0 then -1 else I (l - 1)) (I (B j')) = if (max l (B j' + 1)) = 0 then -1 else I (max l (B j' + 1) - 1) := by
      unfold mxI
      rw [if_neg (show ¬ max l (B j' + 1) = 0 by omega)]
      by_cases l0 : l = 0
      · rw [if_pos l0, if_pos (m1_lt (by omega)), show max l (B j' + 1) - 1 = B j' by omega]
      · rw [if_neg l0]
        by_cases q : l - 1 < B j'
        · rw [if_pos (show I (l - 1) < I (B j') from (I_lt (by omega) (by omega)).mpr q), show max l (B j' + 1) - 1 = B j' by omega]
        · rw [if_neg (show ¬ I (l - 1) < I (B j') from fun t => q ((I_lt (by omega) (by omega)).mp t)), show max l (B j' + 1) - 1 = l - 1 by omega]
    refine ⟨(j' + 1, max l (B j' + 1)), by rw [hmx], rfl, by show max l (B j' + 1) ≤ 21; omega, ?_⟩
    intro i hi
    show B i < max l (B j' + 1)
    by_cases e : i = j'
    · subst e; omega
    · have := i3 i (by omega); omega
  · rintro m ⟨s, l⟩ ⟨i1, i2, i3⟩
    simp only at i1 i2 i3
    subst i1
    show Ok (fX8_lastDay_4 μ (m + 1) 240 _ (I s)) _
    rw [fX8_lastDay_4, h2, if_neg (show ¬ I s < I s by rw [I_lt (by omega) (by omega)]; omega)]
    exact Ok.s ⟨l, i2, rfl, i3⟩
/-- a guess: another pace -/
theorem CR.pac {ν : Mem} (hC : C.ok) (h : CR C G Fd pc dk0 r k μ 0 ν) {p : Nat} (hp : p < C.P) (v : Int32) : CR C G Fd pc dk0 (up r (73 + p) v) k μ 0 (sC ν 464 (up (ν.2.1 464) p v)) := by
  have hP := hC.2.1
  obtain ⟨h1, h2, h3, h4, h5⟩ := h
  obtain ⟨hG, _, hk, hcel, hE, hS, hpa⟩ := h2
  have hf : FrI [464] [] ν (sC ν 464 (up (ν.2.1 464) p v)) := FrI.c ν _ (by decide)
  refine ⟨h1.trans ((FrI.c ν _ (by decide : 464 ∈ Lr)).b (L2 := L2p) (fun _ h => h) (fun _ h => h)), ⟨hf.gr hG, hC, hk, by rw [gC]; exact hcel, hE.fl hk hf (by decide) (by decide), ?_, ?_⟩, ?_, ?_, ?_⟩
  · obtain ⟨b0, b1, b2, b3, b4, b5, b6⟩ := hS.c (c := 464) (up (ν.2.1 464) p v) (by omega)
    have ew : wh C (up r (73 + p) v) = wh C r := wh_congr hC (fun k _ hk => up_n _ _ (by omega))
    have es : stl (up r (73 + p) v) = stl r := stl_congr (fun k _ hk => up_n _ _ (by omega))
    show SH C (up r (73 + p) v) 456 _
    unfold SH
    rw [ew, es]
    refine ⟨by rw [up_n _ _ (by omega)]; exact b0, b1, b2, fun x hx => by rw [up_n _ _ (by omega)]; exact b3 x hx, ?_, ?_, ?_⟩
    · intro q hq; rw [up_n _ _ (by omega)]; exact b4 q hq
    · intro q hq; rw [up_n _ _ (by omega)]; exact b5 q hq
    · intro q hq; rw [up_n _ _ (by omega)]; exact b6 q hq
  · intro q hq
    show (sC ν 464 _).2.1 464 q = up r (73 + p) v (73 + q)
    rw [sC_s]
    by_cases e : q = p
    · subst e; rw [up_s, up_s]
    · rw [up_n _ _ e, up_n _ _ (by omega)]; exact hpa q hq
  · intro q hq; rw [sC_n _ _ (by decide)]; exact h3 q hq
  · intro q hq; rw [sC_n _ _ (by decide)]; exact h4 q hq
  · rw [sC_n _ _ (by decide)]; exact h5
/-- from a Course that has just begun: whether all is seen so -/
theorem seen_C (hI : INV C G Fd pc k r μ) {n : Nat} {W D B : Nat → Nat} {ν Z : Mem} (hF : FrB LC L2C μ ν) (hN : SN C n W D B μ) {r' : Row} (ok1 : RowOK C r') (ok2 : InkOK C r') (hZ : CR C G Fd pc dk0 r' k ν 0 Z) :
    ∃ ξ, ((gR Z 0 9 18).bind fun a5 => (fX8_lastDay a5 Z).bind fun r9 => fX10_isSeenWith_17 fuel 0 r9 (0 : Int32) Z) = some (if seenS C G Fd n W D B r' = true then 1 else 0, ξ) ∧ FrB Lr L2p ν ξ := by
  have hC := hI.2.1
  have hIν := hI.q hF.ag
  have hGZ := hZ.1.gr hIν.1
  have hNZ : SN C n W D B Z := hN.q ((hF.trans hZ.fq).ag)
  obtain ⟨l, l1, l2, l3⟩ := lastDay_C hGZ hNZ
  rw [g_0_9 hGZ, bs, l2, bs]
  have key := loop_ok (S := Nat × Mem) (R := Int32 × Mem) (fun m s => fX10_isSeenWith_17 m 0 (if l = 0 then -1 else I (l - 1)) (I s.1) s.2) l
    (fun j s => s.1 = j ∧ CR C G Fd pc dk0 r' k ν j s.2 ∧ ∀ d, d < j → agR n W D B (dN C G Fd dk0 r' d) d = true)
    (fun q => ∃ ξ, q = (if seenS C G Fd n W D B r' = true then 1 else 0, ξ) ∧ FrB Lr L2p ν ξ) ?_ ?_ l fuel 0 (0, Z) rfl (by unfold fuel; omega) ⟨rfl, hZ, fun d hd => absurd hd (Nat.not_lt_zero d)⟩
  · obtain ⟨q, e, ξ, rfl, h⟩ := key
    exact ⟨ξ, e, h⟩
  · rintro m j ⟨j', N⟩ hj ⟨i1, i2, i3⟩
    simp only at i1 i2 i3
    subst i1
    have hFN := hF.trans i2.fq
    have hGN := i2.1.gr hIν.1
    have hNN : SN C n W D B N := hN.q hFN.ag
    show Ok (fX10_isSeenWith_17 (m + 1) 0 (if l = 0 then -1 else I (l - 1)) (I j') N) _ ∨ ∃ s', fX10_isSeenWith_17 (m + 1) 0 (if l = 0 then -1 else I (l - 1)) (I j') N = _ ∧ _
    rw [fX10_isSeenWith_17, if_neg (show ¬ (if l = 0 then -1 else I (l - 1)) < I j' by
      rw [if_neg (by omega), I_lt (by omega) (by omega)]; omega), g_0_9 hGN, bs, g_0_14 hGN, bs, g_455_0 hGN, bs, agrees_C hGN hC hNN i2.2.1.2.2.2.2.2.1 (by omega), bs]
    by_cases q : agR n W D B (dN C G Fd dk0 r' j') j' = true
    · rw [if_pos q, if_neg (by decide)]
      obtain ⟨ξ, e3, h3⟩ := i2.pass hC ok1 ok2 (lt := 1) rfl
      rw [bs, e3, bs, I_addl]
      right
      refine ⟨(j' + 1, ξ), rfl, rfl, h3, ?_⟩
      intro d hd
      by_cases e : d = j'
      · subst e; exact q
      · exact i3 d (by omega)
    · rw [if_neg q, if_pos rfl]
      left
      refine Ok.s ⟨N, ?_, i2.1⟩
      rw [if_neg]
      intro t
      exact q (seenS_iff.mp t j' (by omega))
  · rintro m ⟨j', N⟩ ⟨i1, i2, i3⟩
    simp only at i1 i2 i3
    subst i1
    show Ok (fX10_isSeenWith_17 (m + 1) 0 (if j' = 0 then -1 else I (j' - 1)) (I j') N) _
    rw [fX10_isSeenWith_17, if_pos (show (if j' = 0 then -1 else I (j' - 1)) < I j' by
      by_cases z : j' = 0
      · rw [if_pos z]; exact m1_lt (by omega)
      · rw [if_neg z, I_lt (by omega) (by omega)]; omega)]
    refine Ok.s ⟨N, ?_, i2.1⟩
    rw [if_pos]
    refine seenS_iff.mpr ?_
    intro d hd
    by_cases q : d < j'
    · exact i3 d q
    · refine decide_eq_true ?_
      intro i hi hb
      have := l3 i hi
      omega
end Se
