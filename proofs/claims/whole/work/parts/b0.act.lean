/-! ACTS: what they may change; rows kept -/
def AAc (c : Nat) : Prop := c ∈ LC ++ LR ∨ c = 2 ∨ (33 ≤ c ∧ c < 240) ∨ c = 496 ∨ c = 503
def AA (μ ν : Mem) : Prop := ν.1 = μ.1 ∧ (∀ a f, ¬ (a = 455 ∧ f = 7) → ν.2.2.2 a f = μ.2.2.2 a f) ∧ (∀ c, ¬ AAc c → ν.2.1 c = μ.2.1 c) ∧ (∀ c, c ∉ L2C → ¬ (33 ≤ c ∧ c < 240) → ν.2.2.1 c = μ.2.2.1 c) ∧ (∀ f, f ∉ [0, 36, 41, 42, 43, 45, 53] → ν.2.1 492 f = μ.2.1 492 f)
theorem AA.refl (μ : Mem) : AA μ μ := ⟨rfl, fun _ _ _ => rfl, fun _ _ => rfl, fun _ _ _ => rfl, fun _ _ => rfl⟩
theorem AA.trans {μ ν ξ : Mem} (h : AA μ ν) (h' : AA ν ξ) : AA μ ξ := ⟨h'.1.trans h.1, fun a f q => (h'.2.1 a f q).trans (h.2.1 a f q), fun c hc => (h'.2.2.1 c hc).trans (h.2.2.1 c hc), fun c hc hd => (h'.2.2.2.1 c hc hd).trans (h.2.2.2.1 c hc hd), fun f hf => (h'.2.2.2.2 f hf).trans (h.2.2.2.2 f hf)⟩
theorem AA.gr {μ ν : Mem} (h : AA μ ν) (hG : Gr μ) : Gr ν := ⟨h.1.trans hG.1, fun e he => by rw [h.2.1 _ _ (gfix_455 e he)]; exact hG.2 e he⟩
theorem AA.lo {μ ν : Mem} (h : AA μ ν) {c : Nat} (h1 : c < 455) (h2 : c ≠ 8) (h3 : c ≠ 11) (h4 : c ≠ 22) (h5 : c ≠ 25) (h6 : c ≠ 2) (h7 : c < 33 ∨ 240 ≤ c) : ν.2.1 c = μ.2.1 c := by
  refine h.2.2.1 c (fun q => ?_)
  rcases q with q | q | q | q | q
  · rcases LA_lt c q with q | q <;> omega
  · omega
  · omega
  · omega
  · omega
theorem AA.hi {μ ν : Mem} (h : AA μ ν) {c : Nat} (h1 : c = 493 ∨ c = 494 ∨ c = 495 ∨ c = 512 ∨ c = 515 ∨ c = 516 ∨ c = 517) : ν.2.1 c = μ.2.1 c := by
  refine h.2.2.1 c (fun q => ?_)
  rcases q with q | q | q | q | q
  · rcases LA_lt c q with q | q <;> omega
  · omega
  · omega
  · omega
  · omega
theorem AA.lg {μ ν : Mem} (h : AA μ ν) {c : Nat} (h1 : c < 455) (h7 : c < 33 ∨ 240 ≤ c) : ν.2.2.1 c = μ.2.2.1 c := by
  refine h.2.2.2.1 c (fun q => ?_) (by omega)
  have := L2_lt c q
  omega
theorem AA.sh {C : Cel} {r : Row} {a : Nat} {μ ν : Mem} (h : AA μ ν) (hS : SH C r a μ) (h1 : 240 ≤ a) (h2 : a < 450) : SH C r a ν :=
  hS.fr (h.lo (by omega) (by omega) (by omega) (by omega) (by omega) (by omega) (by omega)) (h.lg (by omega) (by omega)) (h.lo (by omega) (by omega) (by omega) (by omega) (by omega) (by omega) (by omega)) (h.lo (by omega) (by omega) (by omega) (by omega) (by omega) (by omega) (by omega)) (h.lo (by omega) (by omega) (by omega) (by omega) (by omega) (by omega) (by omega)) (h.lo (by omega) (by omega) (by omega) (by omega) (by omega) (by omega) (by omega))
theorem AA.act {C : Cel} {pc : Nat → Int32} {μ ν : Mem} (h : AA μ ν) (hA : ActI C pc 249 251 516 55 μ) : ActI C pc 249 251 516 55 ν := by
  obtain ⟨K, o, h1, h2, h3, h4, h5, h6⟩ := hA
  have e1 : ν.2.1 249 = μ.2.1 249 := h.lo (by omega) (by omega) (by omega) (by omega) (by omega) (by omega) (by omega)
  have e2 : ∀ i, krow ν 516 i = krow μ 516 i := by
    intro i
    unfold krow
    rw [h.hi (by omega)]
  refine ⟨K, o, h1, h2, by rw [e1]; exact h3, by rw [e1]; exact h4, by rw [h.2.2.2.2 55 (by decide)]; exact h5, ?_⟩
  intro i hi
  rw [e2]
  exact ⟨h.sh (h6 i hi).1 (by omega) (by omega), (h6 i hi).2⟩
theorem AA.see {C : Cel} {a rc rf : Nat} {μ ν : Mem} (h : AA μ ν) (hA : SeeI C a rc rf μ) (ha : a = 240 ∨ a = 451) (hrc : rc = 512 ∨ rc = 517) (hrf : rf ∉ [0, 36, 41, 42, 43, 45, 53]) : SeeI C a rc rf ν := by
  obtain ⟨n, h1, h2, h3, h4⟩ := hA
  have e0 : ν.2.1 a = μ.2.1 a := h.lo (by omega) (by omega) (by omega) (by omega) (by omega) (by omega) (by omega)
  have e1 : ν.2.1 (a + 1) = μ.2.1 (a + 1) := h.lo (by omega) (by omega) (by omega) (by omega) (by omega) (by omega) (by omega)
  have e2 : ν.2.1 (a + 2) = μ.2.1 (a + 2) := h.lo (by omega) (by omega) (by omega) (by omega) (by omega) (by omega) (by omega)
  have e3 : ν.2.1 (a + 3) = μ.2.1 (a + 3) := h.lo (by omega) (by omega) (by omega) (by omega) (by omega) (by omega) (by omega)
  have e4 : ν.2.1 rc = μ.2.1 rc := h.hi (by omega)
  refine ⟨n, h1, by rw [e0]; exact h2, by rw [h.2.2.2.2 rf hrf]; exact h3, ?_⟩
  rw [e1, e2, e3, e4]
  exact h4
theorem INV.act {C : Cel} {G Fd : List Itm} {pc : Nat → Int32} {k : Nat} {r r' : Row} {μ ν : Mem} (hI : INV C G Fd pc k r μ) (h : AA μ ν) (hg : Good C pc r') (hS : SH C r' 33 ν) (hE : E79 (rwb ν 0) r') (hA : ActI C pc 38 40 503 36 ν) (hR : ∀ i, i < 3 → ν.2.1 2 i = ν.2.1 496 i) (h41 : ν.2.1 492 41 = -1) (h45 : ν.2.1 492 45 = 0) : INV C G Fd pc k r' ν := by
  obtain ⟨a1, a2, a3, a4, a5, a6, a7, a8, a9, a10, a11, a12, a13, a14, a15, a16, a17, a18, a19⟩ := hI
  have hlo : ∀ {c : Nat}, c < 33 → c ≠ 8 → c ≠ 11 → c ≠ 22 → c ≠ 25 → c ≠ 2 → ν.2.1 c = μ.2.1 c := fun h1 h2 h3 h4 h5 h6 => h.lo (by omega) h2 h3 h4 h5 h6 (by omega)
  refine ⟨h.gr a1, a2, a3, by rw [h.2.1 _ _ (by omega)]; exact a4, by rw [h.2.1 _ _ (by omega)]; exact a5, ?_, ?_, ?_, hg, hS, hE, hA, h.see a13 (Or.inl rfl) (Or.inl rfl) (by decide), ?_, ?_, ?_, hR, h41, h45⟩
  · exact a6.fr (hlo (by omega) (by omega) (by omega) (by omega) (by omega) (by omega)) (h.lg (by omega) (by omega)) (hlo (by omega) (by omega) (by omega) (by omega) (by omega) (by omega)) (hlo (by omega) (by omega) (by omega) (by omega) (by omega) (by omega)) (hlo (by omega) (by omega) (by omega) (by omega) (by omega) (by omega)) (hlo (by omega) (by omega) (by omega) (by omega) (by omega) (by omega)) (hlo (by omega) (by omega) (by omega) (by omega) (by omega) (by omega)) (hlo (by omega) (by omega) (by omega) (by omega) (by omega) (by omega))
  · refine ⟨h.gr a1, a2, ?_, ?_, ?_⟩
    · rw [h.2.2.2.2 1 (by decide)]; exact a7.2.2.1
    · rw [h.2.2.2.2 2 (by decide)]; exact a7.2.2.2.1
    · rw [h.hi (by omega)]; exact a7.2.2.2.2
  · unfold RK
    rw [h.hi (by omega), h.2.2.2.2 3 (by decide), h.2.2.2.2 4 (by decide)]
    exact a8
  · unfold ImgI
    rw [hlo (by omega) (by omega) (by omega) (by omega) (by omega) (by omega), h.2.2.2.2 54 (by decide), h.hi (c := 515) (by omega)]
    rcases a14 with q | ⟨q1, q2, q3, q4, q5, q6⟩
    · exact Or.inl q
    · exact Or.inr ⟨q1, q2, h.sh q3 (by omega) (by omega), q4, h.act q5, h.see q6 (Or.inr rfl) (Or.inr rfl) (by decide)⟩
  · unfold TapI
    rw [hlo (c := 0) (by omega) (by omega) (by omega) (by omega) (by omega) (by omega), hlo (c := 1) (by omega) (by omega) (by omega) (by omega) (by omega) (by omega), h.2.2.2.2 8 (by decide), h.hi (c := 495) (by omega)]
    exact a15
  · rw [hlo (c := 0) (by omega) (by omega) (by omega) (by omega) (by omega) (by omega), h.2.2.2.2 10 (by decide)]; exact a16
/-! rows that agree -/
theorem SH.congr {C : Cel} {r r' : Row} {a : Nat} {μ : Mem} (hC : C.ok) (h : SH C r a μ) (e : E79 r r') : SH C r' a μ := by
  have hP := hC.2.1
  obtain ⟨b0, b1, b2, b3, b4, b5, b6⟩ := h
  have ew : wh C r' = wh C r := wh_congr hC (fun k _ hk => (e k (by omega)).symm)
  have es : stl r' = stl r := stl_congr (fun k _ hk => (e k (by omega)).symm)
  unfold SH
  rw [ew, es]
  refine ⟨b0.trans (e 0 (by omega)), b1, b2, fun x hx => (b3 x hx).trans (e _ (by omega)), ?_, ?_, ?_⟩
  · intro p hp; rw [b4 p hp]; split
    · exact e _ (by omega)
    · rfl
  · intro p hp; rw [b5 p hp]; split
    · exact e _ (by omega)
    · rfl
  · intro p hp; rw [b6 p hp]; split
    · exact e _ (by omega)
    · rfl
theorem Good.congr {C : Cel} {pc : Nat → Int32} {r r' : Row} (hC : C.ok) (h : Good C pc r) (e : E79 r r') : Good C pc r' := by
  have hP := hC.2.1
  obtain ⟨h1, h2, h3, h4⟩ := h
  refine ⟨e.rowOK hC h1, h2.congr (fun k _ hk => (e k (by omega)).symm), fun p hp => (h3 p hp).trans (e _ (by omega)), fun d hd p hp => by rw [← e _ (by omega)]; exact h4 d hd p hp⟩
/-! keeping: the class -/
theorem stA_k : ∀ j : Fin 40, 40 + 5 * j.1 ∈ stA := by decide
theorem rows_39 : ∀ j : Fin 40, (39, j.1, 40 + 5 * j.1) ∈ gfix ∧ (kd (40 + 5 * j.1)).1 = 19 := by decide +kernel
theorem kd_39 : kd 39 = (4, 40) := by decide +kernel
theorem ldR_39 {μ : Mem} (hG : Gr μ) {j : Nat} (hj : j < 40) : ldR μ 39 (I j) 19 = some (40 + 5 * j) := by
  unfold ldR
  rw [kd_39, inb_I (by omega), if_pos (decide_eq_true hj), ix_I (by omega)]
  exact hG.g (rows_39 ⟨j, hj⟩).1 (rows_39 ⟨j, hj⟩).2
/-- the class's kept rows -/
def ActC (C : Cel) (K : Nat) (R : Nat → Row) (a st : Nat) (μ : Mem) : Prop := ∃ o, o < 40 ∧ μ.2.1 a 0 = I K ∧ μ.2.1 a 1 = I o ∧ ∀ i, i < K → SH C (R i) (st + 5 * ((o + i) % 40)) μ
def kpK (K : Nat) : Nat := if K = 40 then 40 else K + 1
def kpR (K : Nat) (R : Nat → Row) (r : Row) (i : Nat) : Row := if K = 40 then (if i = 39 then r else R (i + 1)) else (if i = K then r else R i)
/-- only what is kept changes -/
def KF (μ ν : Mem) : Prop := ν.1 = μ.1 ∧ ν.2.2.2 = μ.2.2.2 ∧ (∀ c, c < 38 ∨ 240 ≤ c → ν.2.1 c = μ.2.1 c) ∧ (∀ c, c < 38 ∨ 240 ≤ c → ν.2.2.1 c = μ.2.2.1 c)
theorem KF.trans {μ ν ξ : Mem} (h : KF μ ν) (h' : KF ν ξ) : KF μ ξ := ⟨h'.1.trans h.1, h'.2.1.trans h.2.1, fun c hc => (h'.2.2.1 c hc).trans (h.2.2.1 c hc), fun c hc => (h'.2.2.2 c hc).trans (h.2.2.2 c hc)⟩
theorem KF.c {μ : Mem} {a : Nat} (g : Row) (h : 38 ≤ a ∧ a < 240) : KF μ (sC μ a g) := ⟨rfl, rfl, fun c hc => sC_n μ g (by omega), fun _ _ => rfl⟩
theorem keepT {C : Cel} {K : Nat} {R : Nat → Row} {r : Row} {μ : Mem} (hG : Gr μ) (hK : K < 40) (hA : ActC C K R 38 40 μ) (hS : SH C r 33 μ) :
    ∃ ν, ((gR μ 38 2 4).bind fun a20 => (ldR μ a20 (((μ.2.1 38 1) + (μ.2.1 38 0)) - ((μ.2.1 38 1) + (μ.2.1 38 0)) / (40 : Int32) * (40 : Int32)) 19).bind fun a23 => (fX9_copyFrom a23 33 μ).bind fun μ27 => (some (sI μ27 38 0 ((μ27.2.1 38 0) + (1 : Int32)))).bind fun μ30 => some μ30) = some ν ∧ KF μ ν ∧ ActC C (K + 1) (fun i => if i = K then r else R i) 38 40 ν := by
  obtain ⟨o, ho, h0, h1, h2⟩ := hA
  have hj : (o + K) % 40 < 40 := Nat.mod_lt _ (by decide)
  rw [g_38_2 hG, bs, h0, h1, I_add, I_mod (by omega) (by decide), show (OfNat.ofNat 40 : Nat) = 40 from rfl, ldR_39 hG hj, bs]
  obtain ⟨ν, e, f1, f2⟩ := copyFrom_ok hG (stA_k ⟨_, hj⟩) a33 (Or.inr (by show 33 + 4 < 40 + 5 * ((o + K) % 40); omega)) hS
  simp only at e f1 f2
  rw [e, bs, bs, sI_C]
  have n38 : ν.2.1 38 = μ.2.1 38 := f1.2.2.1 38 (by simp; omega)
  refine ⟨_, rfl, ?_, ?_⟩
  · refine KF.trans (ν := ν) ⟨f1.1, f1.2.1, fun c hc => f1.2.2.1 c (by simp; omega), fun c hc => f1.2.2.2 c (by simp; omega)⟩ (KF.c _ (by omega))
  · refine ⟨o, ho, ?_, ?_, ?_⟩
    · rw [sC_s, up_s, n38, h0]; exact I_addl _ _
    · rw [sC_s, up_n _ _ (by decide), n38, h1]
    · intro i hi
      refine SH.c ?_ _ (by omega)
      show SH C (if i = K then r else R i) _ ν
      by_cases e2 : i = K
      · rw [if_pos e2, e2]; exact f2
      · rw [if_neg e2]
        have hne : (o + i) % 40 ≠ (o + K) % 40 := by omega
        have hx : ∀ q, q ≤ 4 → (40 + 5 * ((o + i) % 40) + q) ∉ [40 + 5 * ((o + K) % 40), 40 + 5 * ((o + K) % 40) + 1, 40 + 5 * ((o + K) % 40) + 2, 40 + 5 * ((o + K) % 40) + 3, 40 + 5 * ((o + K) % 40) + 4] := by
          intro q hq
          simp
          omega
        exact (h2 i (by omega)).fr (f1.2.2.1 _ (hx 0 (by omega))) (f1.2.2.2 _ (by simp; omega)) (f1.2.2.1 _ (hx 1 (by omega))) (f1.2.2.1 _ (hx 2 (by omega))) (f1.2.2.1 _ (hx 3 (by omega))) (f1.2.2.1 _ (hx 4 (by omega)))
theorem ActC.eq {C : Cel} {K : Nat} {R R' : Nat → Row} {a st : Nat} {μ : Mem} (h : ActC C K R a st μ) (e : ∀ i, i < K → R i = R' i) : ActC C K R' a st μ := by
  obtain ⟨o, ho, h0, h1, h2⟩ := h
  exact ⟨o, ho, h0, h1, fun i hi => by rw [← e i hi]; exact h2 i hi⟩
theorem keep_ok {C : Cel} {K : Nat} {R : Nat → Row} {r : Row} {μ : Mem} (hG : Gr μ) (hK : K ≤ 40) (hA : ActC C K R 38 40 μ) (hS : SH C r 33 μ) :
    ∃ ν, fX0_keep 38 33 μ = some ν ∧ KF μ ν ∧ ActC C (kpK K) (kpR K R r) 38 40 ν := by
  unfold fX0_keep kpK
  by_cases e : K = 40
  · obtain ⟨o, ho, h0, h1, h2⟩ := hA
    subst e
    rw [if_pos (show μ.2.1 38 0 = 40 from h0), if_pos rfl, bs, bs, sI_C, sI_C, sC_C]
    simp only [sC_s]
    rw [up_n _ _ (show (0 : Nat) ≠ 1 by decide), h0, h1, I_addl, I_mod (by omega) (by decide), show (OfNat.ofNat 40 : Nat) = 40 from rfl, show (OfNat.ofNat 1 : Nat) = 1 from rfl]
    have hG1 := hG.sC 38 (up (up (μ.2.1 38) 1 (I ((o + 1) % 40))) 0 (I 40 - 1))
    have hA1 : ActC C 39 (fun i => R (i + 1)) 38 40 (sC μ 38 (up (up (μ.2.1 38) 1 (I ((o + 1) % 40))) 0 (I 40 - 1))) := by
      refine ⟨(o + 1) % 40, Nat.mod_lt _ (by decide), ?_, ?_, ?_⟩
      · rw [sC_s, up_s]; exact I_subl (n := 40) (m := 1) (by decide)
      · rw [sC_s, up_n _ _ (by decide), up_s]
      · intro i hi
        have e : ((o + 1) % 40 + i) % 40 = (o + (i + 1)) % 40 := by omega
        rw [e]
        exact (h2 (i + 1) (by omega)).c _ (by omega)
    obtain ⟨ν, e1, e2, e3⟩ := keepT hG1 (by decide) hA1 (hS.c _ (by omega))
    refine ⟨ν, ?_, (KF.c _ (by omega)).trans e2, e3.eq ?_⟩
    · simp only [sC_s] at e1
      exact e1
    · intro i hi
      unfold kpR
      rw [if_pos rfl]
  · have h0 : ¬ μ.2.1 38 0 = 40 := by
      obtain ⟨o, ho, h0, h1, h2⟩ := hA
      rw [h0, I_eql (by omega) (by decide)]
      exact e
    rw [if_neg h0, if_neg e]
    obtain ⟨ν, e1, e2, e3⟩ := keepT hG (by omega) hA hS
    refine ⟨ν, e1, e2, e3.eq ?_⟩
    intro i hi
    unfold kpR
    rw [if_neg e]
/-! keeping: the reference -/
theorem rkeep52 {μ : Mem} (hG : Gr μ) {K : Nat} (hK : K < 40) (h36 : μ.2.1 492 36 = I K) :
    ∃ g, fX11_keeps_52 fuel 492 0 μ = some (sC (sC μ 503 g) 492 (up (μ.2.1 492) 36 (I (K + 1)))) ∧ (∀ q, q < 79 → g (79 * K + q) = μ.2.1 502 q) ∧ ∀ i, i < 79 * K → g i = μ.2.1 503 i := by
  have key := loop_eq (S := Nat × Mem) (R := Mem) (fun m s => fX11_keeps_52 m 492 (I s.1) s.2) 79 (fun j => (j, sC μ 503 (fun i => if 79 * K ≤ i ∧ i < 79 * K + j then μ.2.1 502 (i - 79 * K) else μ.2.1 503 i))) (some (sC (sC μ 503 (fun i => if 79 * K ≤ i ∧ i < 79 * K + 79 then μ.2.1 502 (i - 79 * K) else μ.2.1 503 i)) 492 (up (μ.2.1 492) 36 (I (K + 1)))))
    (by
      intro n j hj
      show fX11_keeps_52 (n + 1) 492 (I j) _ = fX11_keeps_52 n 492 (I (j + 1)) _
      rw [fX11_keeps_52, if_pos (show I j < (79 : Int32) by rw [I_ltl (by omega) (by decide)]; exact hj), g_492_35 (hG.sC _ _), bs, g_492_34 (hG.sC _ _), bs, ld_502 (by omega), bs, sC_n μ _ (by decide : 492 ≠ 503), h36, l_mulI, I_add, st_503 (by show 79 * K + j < 3160; omega), bs, I_addl, sC_s, sC_C, sC_n μ _ (by decide : 502 ≠ 503)]
      congr 2
      funext i
      rw [up_e]
      show (if i = 79 * K + j then _ else _) = _
      by_cases e : i = 79 * K + j
      · rw [if_pos e, if_pos (by omega), e, show 79 * K + j - 79 * K = j by omega]
      · rw [if_neg e]
        by_cases e2 : 79 * K ≤ i ∧ i < 79 * K + j
        · rw [if_pos e2, if_pos (by omega)]
        · rw [if_neg e2, if_neg (by omega)])
    (by
      intro n
      show fX11_keeps_52 (n + 1) 492 (I 79) _ = _
      rw [fX11_keeps_52, if_neg (by decide), bs, sI_C, sC_n μ _ (by decide : 492 ≠ 503), h36, I_addl])
    79 fuel 0 rfl (by unfold fuel; omega)
  refine ⟨fun i => if 79 * K ≤ i ∧ i < 79 * K + 79 then μ.2.1 502 (i - 79 * K) else μ.2.1 503 i, ?_, ?_, ?_⟩
  · have e0 : (fun i => if 79 * K ≤ i ∧ i < 79 * K + 0 then μ.2.1 502 (i - 79 * K) else μ.2.1 503 i) = μ.2.1 503 := by
      funext i
      rw [if_neg (by omega)]
    simp only [e0, sC_same] at key
    exact key
  · intro q hq
    show (if _ then _ else _) = _
    rw [if_pos (by omega), show 79 * K + q - 79 * K = q by omega]
  · intro i hi
    show (if _ then _ else _) = _
    rw [if_neg (by omega)]
theorem rkeep12 {μ : Mem} (hG : Gr μ) (h36 : μ.2.1 492 36 = I 40) :
    fX11_keeps 492 μ = fX11_keeps_52 fuel 492 0 (sC (sC μ 503 (fun i => if i < 3081 then μ.2.1 503 (i + 79) else μ.2.1 503 i)) 492 (up (μ.2.1 492) 36 (I 39))) := by
  unfold fX11_keeps
  rw [if_pos (show μ.2.1 492 36 = 40 from h36)]
  have key := loop_eq (S := Nat × Mem) (R := Mem) (fun m s => fX11_keeps_12 (fX11_keeps_52 fuel) m 492 (I s.1) s.2) 3081 (fun j => (79 + j, sC μ 503 (fun i => if i < j then μ.2.1 503 (i + 79) else μ.2.1 503 i))) (fX11_keeps_52 fuel 492 0 (sC (sC μ 503 (fun i => if i < 3081 then μ.2.1 503 (i + 79) else μ.2.1 503 i)) 492 (up (μ.2.1 492) 36 (I 39))))
    (by
      intro n j hj
      show fX11_keeps_12 _ (n + 1) 492 (I (79 + j)) _ = fX11_keeps_12 _ n 492 (I (79 + (j + 1))) _
      rw [fX11_keeps_12, if_pos (show I (79 + j) < (3160 : Int32) by rw [I_ltl (by omega) (by decide)]; omega), g_492_35 (hG.sC _ _), bs, bs, ld_503 (by omega), bs, I_subl (by omega), st_503 (by show 79 + j - 79 < 3160; omega), bs, I_addl, sC_s, sC_C]
      congr 2
      funext i
      rw [up_e]
      show (if i = 79 + j - 79 then (if 79 + j < j then _ else _) else (if i < j then _ else _)) = _
      by_cases e : i = j
      · rw [if_pos (by omega), if_neg (by omega), if_pos (by omega), show 79 + j = i + 79 by omega]
      · rw [if_neg (by omega)]
        by_cases e2 : i < j
        · rw [if_pos e2, if_pos (by omega)]
        · rw [if_neg e2, if_neg (by omega)])
    (by
      intro n
      show fX11_keeps_12 _ (n + 1) 492 (I (79 + 3081)) _ = _
      rw [fX11_keeps_12, if_neg (by decide), bs, sI_C, sC_n μ _ (by decide : 492 ≠ 503), h36]
      rfl)
    3081 fuel 0 rfl (by unfold fuel; omega)
  have e0 : (fun i => if i < 0 then μ.2.1 503 (i + 79) else μ.2.1 503 i) = μ.2.1 503 := by
    funext i
    rw [if_neg (by omega)]
  simp only [e0, sC_same] at key
  exact key
theorem rkeep_ok {μ : Mem} (hG : Gr μ) {K : Nat} (hK : K ≤ 40) (h36 : μ.2.1 492 36 = I K) :
    ∃ g, fX11_keeps 492 μ = some (sC (sC μ 503 g) 492 (up (μ.2.1 492) 36 (I (kpK K)))) ∧ ∀ i, i < kpK K → ∀ q, q < 79 → g (79 * i + q) = kpR K (krow μ 503) (μ.2.1 502) i q := by
  by_cases e : K = 40
  · subst e
    rw [rkeep12 hG h36]
    obtain ⟨g, e1, e2, e3⟩ := rkeep52 (K := 39) ((hG.sC 503 (fun i => if i < 3081 then μ.2.1 503 (i + 79) else μ.2.1 503 i)).sC 492 (up (μ.2.1 492) 36 (I 39))) (by decide) (by rw [sC_s, up_s])
    refine ⟨g, ?_, ?_⟩
    · rw [e1, sC_s, up_up]
      congr 1
      unfold kpK
      rw [if_pos rfl, sC_comm _ _ _ (by decide : (492 : Nat) ≠ 503), sC_C, sC_C]
    · intro i hi q hq
      unfold kpK at hi
      rw [if_pos rfl] at hi
      unfold kpR
      rw [if_pos rfl]
      by_cases e4 : i = 39
      · rw [if_pos e4, e4, e2 q hq]
        rfl
      · rw [if_neg e4, e3 _ (by omega), sC_n _ _ (by decide : (503 : Nat) ≠ 492), sC_s]
        show (if _ then _ else _) = _
        rw [if_pos (by omega)]
        unfold krow
        rw [show 79 * i + q + 79 = 79 * (i + 1) + q by omega]
  · unfold fX11_keeps
    rw [if_neg (by rw [h36, I_eql (by omega) (by decide)]; exact e)]
    obtain ⟨g, e1, e2, e3⟩ := rkeep52 hG (by omega : K < 40) h36
    refine ⟨g, ?_, ?_⟩
    · rw [e1]
      unfold kpK
      rw [if_neg e]
    · intro i hi q hq
      unfold kpK at hi
      rw [if_neg e] at hi
      unfold kpR
      rw [if_neg e]
      by_cases e4 : i = K
      · rw [if_pos e4, e4, e2 q hq]
      · rw [if_neg e4, e3 _ (by omega)]
        rfl
