/-! CALLS: comes, meet, clear, gone -/
/-- the first of some days from n on -/
def sr (Q : Nat → Bool) : Nat → Nat → Int32
  | 0, _ => -1
  | f + 1, n => if Q n = true then I n else sr Q f (n + 1)
theorem bitI_bv : ∀ j : Fin 32, (bitI j.1).toBitVec = BitVec.twoPow 32 j.1 := by decide +kernel
theorem tb_bitI {j : Nat} (hj : j < 32) (p : Nat) : tb (bitI j) p = decide (p = j) := by
  unfold tb
  rw [bitI_bv ⟨j, hj⟩, BitVec.getLsbD_twoPow, decide_eq_true hj]
  simp [eq_comm]
theorem tb_or (a b : Int32) (p : Nat) : tb (a ||| b) p = (tb a p || tb b p) := BitVec.getLsbD_or
theorem tb_cbits (f : Nat → Bool) : ∀ j, j ≤ 32 → ∀ p, tb (cbits f j) p = (decide (p < j) && f p) := by
  intro j
  induction j with
  | zero =>
    intro _ p
    have : tb (cbits f 0) p = false := by
      show (0 : Int32).toBitVec.getLsbD p = false
      rw [show (0 : Int32).toBitVec = 0#32 from rfl]
      exact BitVec.getLsbD_zero
    rw [this]; simp
  | succ j ih =>
    intro hj p
    unfold cbits
    by_cases q : f j = true
    · rw [if_pos q, tb_or, ih (by omega), tb_bitI (by omega)]
      by_cases e : p = j
      · subst e; simp [q]
      · have : (decide (p < j + 1)) = decide (p < j) := by
          apply decide_eq_decide.mpr; omega
        simp [e, this]
    · rw [if_neg q, ih (by omega)]
      by_cases e : p = j
      · subst e
        have : f p = false := by cases h : f p; rfl; exact absurd h q
        simp [this]
      · have : (decide (p < j + 1)) = decide (p < j) := by
          apply decide_eq_decide.mpr; omega
        rw [this]
section Cm
variable {C : Cel} {G Fd : List Itm} {pc : Nat → Int32} {k : Nat} {r : Row} {μ : Mem}
noncomputable def Qcm (C : Cel) (G Fd : List Itm) (r : Row) (p d : Nat) : Bool := cameD C G false (dN C G Fd dk0 r (d - 1)) p
theorem c_comes_l (hI : INV C G Fd pc k r μ) {p : Nat} (hp : p < C.P) : ∀ (f e : Nat) (ν : Mem) (n : Nat), f + e = 60 → f < n → CR C G Fd pc dk0 r k μ e ν → cS C G Fd dk0 r p e = 0 → ∃ ξ, fX10_comes_22 n 0 (I p) (I (e + 1)) ν = some (.inl (sr (Qcm C G Fd r p) f (e + 1)), ξ) ∧ FrB LC L2C μ ξ := by
  have hC := hI.2.1
  have hP := hC.2.1
  have hr := hI.2.2.2.2.2.2.2.2.1
  intro f
  induction f with
  | zero =>
    intro e ν n hf hn hR h0
    obtain ⟨n, rfl⟩ : ∃ m, n = m + 1 := ⟨n - 1, by omega⟩
    obtain rfl : e = 60 := by omega
    rw [fX10_comes_22, if_pos (by decide)]
    exact ⟨ν, rfl, hR.fq⟩
  | succ f ih =>
    intro e ν n hf hn hR h0
    obtain ⟨n, rfl⟩ : ∃ m, n = m + 1 := ⟨n - 1, by omega⟩
    obtain ⟨ξ, e3, h3⟩ := hR.pass hC hr.1 hr.2.1 (lt := 1) rfl
    have hGξ := h3.1.gr hI.1
    have hc : ξ.2.1 466 p = if Qcm C G Fd r p (e + 1) = true then 1 else 0 := by
      rw [h3.2.2.2.1 p (by omega)]
      show cS C G Fd dk0 r p e + _ = _
      rw [h0]
      exact Int32.zero_add _
    rw [fX10_comes_22, if_neg (show ¬ (60 : Int32) < I (e + 1) by rw [l_ltI (by omega) (by decide)]; omega), g_0_14 (hR.1.gr hI.1), bs, e3, bs, g_0_14 hGξ, bs, g_455_4 hGξ, bs, ld_466 (by omega), bs, hc]
    unfold sr
    by_cases q : Qcm C G Fd r p (e + 1) = true
    · rw [if_pos q, if_pos (by decide), if_pos q]
      exact ⟨ξ, rfl, h3.fq⟩
    · rw [if_neg q, if_neg (by decide), if_neg q, I_addl]
      refine ih (e + 1) ξ n (by omega) (by omega) h3 ?_
      have := h3.2.2.2.1 p (by omega)
      rw [hc, if_neg q] at this
      exact this.symm
def codeP (C : Cel) (a : Int32) : Int32 := if okP C a = true then 0 else 1
theorem c_comes (hI : INV C G Fd pc k r μ) (a : Int32) : CQ (fX10_comes 0 a μ) μ (codeP C a) (sr (Qcm C G Fd r (ix a)) 60 1) := by
  have hC := hI.2.1
  have hP := hC.2.1
  unfold fX10_comes codeP
  rw [needP_ok hI, bs]
  by_cases h1 : okP C a = true
  · rw [if_pos h1, if_pos h1]
    simp only
    obtain ⟨p, hp, rfl⟩ := okP_ex hC h1
    obtain ⟨M, e, hM⟩ := hI.beg dk0
    rw [g_0_14 hI.1, bs, hI.cel, bs, g_0_7 hI.1, bs, e, bs, ix_I (by omega)]
    obtain ⟨ξ, e2, h2⟩ := c_comes_l hI hp 60 0 M fuel (by omega) (by unfold fuel; omega) hM rfl
    exact ⟨ξ, h2, Or.inl ⟨rfl, e2⟩⟩
  · rw [if_neg h1, if_neg h1]
    exact ⟨μ, FrB.refl _ _ μ, Or.inr (Or.inl ⟨rfl, rfl⟩)⟩
theorem r_comes_l (hC : C.ok) (hr : RowOK C r) {p : Nat} (hp : p < C.P) {μ0 : Mem} (hd : μ0.2.1 492 45 = 0) : ∀ (f e : Nat) (ν : Mem) (n : Nat), f + e = 60 → f < n → RD 79 μ0 ν → RR C G Fd dk0 r e ν → ∃ ξ, fX11_comes_21 n 492 (I p) (I (e + 1)) ν = some (sr (Qcm C G Fd r p) f (e + 1), ξ) ∧ RD 79 μ0 ξ := by
  have hP := hC.2.1
  intro f
  induction f with
  | zero =>
    intro e ν n hf hn hD hR
    obtain ⟨n, rfl⟩ : ∃ m, n = m + 1 := ⟨n - 1, by omega⟩
    obtain rfl : e = 60 := by omega
    rw [fX11_comes_21, if_pos (by decide)]
    exact ⟨ν, rfl, hD⟩
  | succ f ih =>
    intro e ν n hf hn hD hR
    obtain ⟨n, rfl⟩ : ∃ m, n = m + 1 := ⟨n - 1, by omega⟩
    obtain ⟨ξ, e3, h3, h4, _, h6, _⟩ := hR.day hr (by rw [hD.f4.2.2, hd]; rfl)
    have hq : ((ξ.2.1 492 42 >>> (I p &&& 31)) &&& 1 = 1) = (Qcm C G Fd r p (e + 1) = true) := by
      rw [tb_sh (by omega), h6, tb_cbits _ _ (by omega), decide_eq_true hp, Bool.true_and]
      rfl
    rw [fX11_comes_21, if_neg (show ¬ (60 : Int32) < I (e + 1) by rw [l_ltI (by omega) (by decide)]; omega), e3, bs]
    simp only [hq]
    unfold sr
    by_cases q : Qcm C G Fd r p (e + 1) = true
    · rw [if_pos q, if_pos q]
      exact ⟨ξ, rfl, hD.trans h3⟩
    · rw [if_neg q, if_neg q, I_addl]
      exact ih (e + 1) ξ n (by omega) (by omega) (hD.trans h3) h4
theorem INV.dk (hI : INV C G Fd pc k r μ) : μ.2.1 492 45 = 0 := hI.2.2.2.2.2.2.2.2.2.2.2.2.2.2.2.2.2.2
/-- a query of the reference that only tries days -/
theorem RQ.yes {μ ν ξ : Mem} {val : Int32} (t1 : FR μ ν) (t2 : ν.2.1 492 0 = 0) (t3 : ν.2.1 492 41 = μ.2.1 492 41) (t4 : ν.2.1 492 45 = μ.2.1 492 45) (d : RD 79 ν ξ) : RQ (some (val, ξ)) μ 0 val :=
  ⟨val, ξ, rfl, t1.trans d.fr, d.f4.2.1.trans t3, d.f4.2.2.trans t4, d.f4.1.trans t2, fun _ => rfl⟩
theorem r_comes (hI : INV C G Fd pc k r μ) (a : Int32) : RQ (fX11_comes 492 a μ) μ (codeP C a) (sr (Qcm C G Fd r (ix a)) 60 1) := by
  have hC := hI.2.1
  have hP := hC.2.1
  obtain ⟨t1, t2, t3, t4⟩ := thr0 μ
  have hR0 := t1.rc hI.2.2.2.2.2.2.1
  unfold fX11_comes codeP
  rw [bs, sI_C, isPerson_ok hR0 t2]
  by_cases h1 : okP C a = true
  · rw [if_pos h1, if_pos h1, bs]
    simp only
    rw [if_neg (by decide)]
    obtain ⟨p, hp, rfl⟩ := okP_ex hC h1
    obtain ⟨M, e, m1, m2⟩ := tried hI dk0 t1 t3
    rw [e, bs, ix_I (by omega)]
    obtain ⟨ξ, e2, h2⟩ := r_comes_l hC hI.2.2.2.2.2.2.2.2.1.1 hp (μ0 := thr μ 0) (by rw [t4]; exact hI.dk) 60 0 M fuel (by omega) (by unfold fuel; omega) m1 m2
    rw [show (1 : Int32) = I (0 + 1) from rfl, e2]
    exact RQ.yes t1 t2 t3 t4 h2
  · rw [if_neg h1, if_neg h1, bs]
    simp only [if_true]
    exact RQ.no (by decide) t1 t3 t4
theorem codeP_ne (C : Cel) (a : Int32) : codeP C a ≠ 2 := by unfold codeP; split <;> decide
theorem qq_comes (hI : INV C G Fd pc k r μ) (a : Int32) : QQ C G Fd pc k r (fun μ => fL_comes 0 a 518 μ) (fun ν => fX11_comes 492 a ν) μ := q_comes hI a (c_comes hI a) (codeP_ne C a) (fun ν h => r_comes h a)
noncomputable def Qmt (C : Cel) (G Fd : List Itm) (r : Row) (p q d : Nat) : Bool := decide (dN C G Fd dk0 r d (55 + p) = dN C G Fd dk0 r d (55 + q))
def codePP (C : Cel) (a b : Int32) : Int32 := if okP C a = true then (if okP C b = true then 0 else 1) else 1
noncomputable def valM (C : Cel) (G Fd : List Itm) (r : Row) (a b : Int32) : Int32 := if a = b then -1 else sr (Qmt C G Fd r (ix a) (ix b)) 61 0
theorem c_meet_l (hI : INV C G Fd pc k r μ) {p q : Nat} (hp : p < C.P) (hq : q < C.P) : ∀ (f e : Nat) (ν : Mem) (n : Nat), f + e = 61 → f < n → CR C G Fd pc dk0 r k μ e ν → ∃ ξ, fX10_meet_34 n 0 (I p) (I q) (I e) ν = some (.inl (sr (Qmt C G Fd r p q) f e), ξ) ∧ FrB LC L2C μ ξ := by
  have hC := hI.2.1
  have hP := hC.2.1
  have hr := hI.2.2.2.2.2.2.2.2.1
  intro f
  induction f with
  | zero =>
    intro e ν n hf hn hR
    obtain ⟨n, rfl⟩ : ∃ m, n = m + 1 := ⟨n - 1, by omega⟩
    obtain rfl : e = 61 := by omega
    rw [fX10_meet_34, if_pos (by decide)]
    exact ⟨ν, rfl, hR.fq⟩
  | succ f ih =>
    intro e ν n hf hn hR
    obtain ⟨n, rfl⟩ : ∃ m, n = m + 1 := ⟨n - 1, by omega⟩
    have hG := hR.1.gr hI.1
    have v1 := (hR.2.1.atv hp).1
    have v2 := (hR.2.1.atv hq).1
    rw [fX10_meet_34, if_neg (show ¬ (60 : Int32) < I e by rw [l_ltI (by omega) (by decide)]; omega)]
    simp (disch := omega) only [g_0_14 hG, g_455_0 hG, hG.at a456, bs, ld_458, v1, v2, Nat.reduceAdd]
    unfold sr
    by_cases h : dN C G Fd dk0 r e (55 + p) = dN C G Fd dk0 r e (55 + q)
    · rw [if_pos h, if_pos (show Qmt C G Fd r p q e = true from decide_eq_true h)]
      exact ⟨ν, rfl, hR.fq⟩
    · rw [if_neg h, if_neg (show ¬ Qmt C G Fd r p q e = true from fun t => h (of_decide_eq_true t))]
      obtain ⟨ξ, e3, h3⟩ := hR.pass hC hr.1 hr.2.1 (lt := 1) rfl
      rw [e3, bs, I_addl]
      exact ih (e + 1) ξ n (by omega) (by omega) h3
theorem I_ne {p q : Nat} (hp : p < 2147483648) (hq : q < 2147483648) : (I p = I q) = (p = q) := I_inj hp hq
theorem c_meet (hI : INV C G Fd pc k r μ) (a b : Int32) : CQ (fX10_meet 0 a b μ) μ (codePP C a b) (valM C G Fd r a b) := by
  have hC := hI.2.1
  have hP := hC.2.1
  unfold fX10_meet codePP valM
  rw [needP_ok hI, bs]
  by_cases h1 : okP C a = true
  · rw [if_pos h1, if_pos h1]
    simp only
    rw [needP_ok hI, bs]
    by_cases h2 : okP C b = true
    · rw [if_pos h2, if_pos h2]
      simp only
      by_cases hab : a = b
      · rw [if_pos hab, if_pos hab]
        exact ⟨μ, FrB.refl _ _ μ, Or.inl ⟨rfl, rfl⟩⟩
      · rw [if_neg hab, if_neg hab]
        obtain ⟨p, hp, rfl⟩ := okP_ex hC h1
        obtain ⟨q, hq, rfl⟩ := okP_ex hC h2
        obtain ⟨M, e, hM⟩ := hI.beg dk0
        rw [g_0_14 hI.1, bs, hI.cel, bs, g_0_7 hI.1, bs, e, bs, ix_I (by omega), ix_I (by omega)]
        obtain ⟨ξ, e2, h3⟩ := c_meet_l hI hp hq 61 0 M fuel (by omega) (by unfold fuel; omega) hM
        exact ⟨ξ, h3, Or.inl ⟨rfl, e2⟩⟩
    · rw [if_neg h2, if_neg h2]
      exact ⟨μ, FrB.refl _ _ μ, Or.inr (Or.inl ⟨rfl, rfl⟩)⟩
  · rw [if_neg h1, if_neg h1]
    exact ⟨μ, FrB.refl _ _ μ, Or.inr (Or.inl ⟨rfl, rfl⟩)⟩
theorem RR.v {dk : Nat → Bool} {n : Nat} {ν : Mem} (h : RR C G Fd dk r n ν) {j : Nat} (hj : j < 79) : ν.2.1 502 (79 + j) = dN C G Fd dk r n j := h.2.2.2 j hj
theorem RR.at {dk : Nat → Bool} {n : Nat} {ν : Mem} (h : RR C G Fd dk r n ν) {p : Nat} (hp : p < 6) : ν.2.1 502 (134 + p) = dN C G Fd dk r n (55 + p) ∧ ν.2.1 502 (140 + p) = dN C G Fd dk r n (61 + p) ∧ ν.2.1 502 (146 + p) = dN C G Fd dk r n (67 + p) := by
  refine ⟨?_, ?_, ?_⟩
  · rw [← h.v (by omega), ← Nat.add_assoc]
  · rw [← h.v (by omega), ← Nat.add_assoc]
  · rw [← h.v (by omega), ← Nat.add_assoc]
theorem r_meet_l (hC : C.ok) (hr : RowOK C r) {p q : Nat} (hp : p < C.P) (hq : q < C.P) (hpq : p ≠ q) {μ0 : Mem} (hd : μ0.2.1 492 45 = 0) : ∀ (f e : Nat) (ν : Mem) (n : Nat), f + e = 61 → f < n → RD 79 μ0 ν → RR C G Fd dk0 r e ν → ∃ ξ, fX11_meet_29 n 492 (I p) (I q) (I e) ν = some (sr (Qmt C G Fd r p q) f e, ξ) ∧ RD 79 μ0 ξ := by
  have hP := hC.2.1
  intro f
  induction f with
  | zero =>
    intro e ν n hf hn hD hR
    obtain ⟨n, rfl⟩ : ∃ m, n = m + 1 := ⟨n - 1, by omega⟩
    obtain rfl : e = 61 := by omega
    rw [fX11_meet_29, if_pos (by decide)]
    exact ⟨ν, rfl, hD⟩
  | succ f ih =>
    intro e ν n hf hn hD hR
    obtain ⟨n, rfl⟩ : ∃ m, n = m + 1 := ⟨n - 1, by omega⟩
    have hG := hR.1.1
    have v1 := (hR.at (show p < 6 by omega)).1
    have v2 := (hR.at (show q < 6 by omega)).1
    rw [fX11_meet_29, if_neg (show ¬ (60 : Int32) < I e by rw [l_ltI (by omega) (by decide)]; omega), if_neg (by rw [I_inj (by omega) (by omega)]; exact hpq)]
    simp (disch := omega) only [g_492_34 hG, bs, l_addI, ld_502, v1, v2]
    unfold sr
    by_cases h : dN C G Fd dk0 r e (55 + p) = dN C G Fd dk0 r e (55 + q)
    · rw [if_pos h, if_pos (show Qmt C G Fd r p q e = true from decide_eq_true h)]
      exact ⟨ν, rfl, hD⟩
    · rw [if_neg h, if_neg (show ¬ Qmt C G Fd r p q e = true from fun t => h (of_decide_eq_true t))]
      obtain ⟨ξ, e3, h3, h4, _⟩ := hR.day hr (by rw [hD.f4.2.2, hd]; rfl)
      rw [e3, bs, I_addl]
      exact ih (e + 1) ξ n (by omega) (by omega) (hD.trans h3) h4
theorem r_meet (hI : INV C G Fd pc k r μ) (a b : Int32) : RQ (fX11_meet 492 a b μ) μ (codePP C a b) (valM C G Fd r a b) := by
  have hC := hI.2.1
  have hP := hC.2.1
  obtain ⟨t1, t2, t3, t4⟩ := thr0 μ
  have hR0 := t1.rc hI.2.2.2.2.2.2.1
  unfold fX11_meet codePP valM
  rw [bs, sI_C, isPerson_ok hR0 t2]
  by_cases h1 : okP C a = true
  · rw [if_pos h1, if_pos h1, bs]
    simp only
    rw [if_neg (by decide), isPerson_ok hR0 t2]
    by_cases h2 : okP C b = true
    · rw [if_pos h2, if_pos h2, bs]
      simp only
      rw [if_neg (by decide)]
      obtain ⟨M, e, m1, m2⟩ := tried hI dk0 t1 t3
      rw [e, bs]
      by_cases hab : a = b
      · rw [if_pos hab]
        show RQ (fX11_meet_29 (4999 + 1) 492 a b 0 M) μ 0 (-1)
        rw [fX11_meet_29, if_neg (by decide), if_pos hab]
        exact RQ.yes t1 t2 t3 t4 m1
      · rw [if_neg hab]
        obtain ⟨p, hp, rfl⟩ := okP_ex hC h1
        obtain ⟨q, hq, rfl⟩ := okP_ex hC h2
        rw [ix_I (by omega), ix_I (by omega)]
        obtain ⟨ξ, e2, h3⟩ := r_meet_l hC hI.2.2.2.2.2.2.2.2.1.1 hp hq (fun e => hab (by rw [e])) (μ0 := thr μ 0) (by rw [t4]; exact hI.dk) 61 0 M fuel (by omega) (by unfold fuel; omega) m1 m2
        rw [show (0 : Int32) = I 0 from rfl, e2]
        exact RQ.yes t1 t2 t3 t4 h3
    · rw [if_neg h2, if_neg h2, bs]
      simp only [if_true]
      exact RQ.no (by decide) t1 t3 t4
  · rw [if_neg h1, if_neg h1, bs]
    simp only [if_true]
    exact RQ.no (by decide) t1 t3 t4
theorem codePP_ne (C : Cel) (a b : Int32) : codePP C a b ≠ 2 := by
  unfold codePP
  split
  · split <;> decide
  · decide
theorem qq_meet (hI : INV C G Fd pc k r μ) (a b : Int32) : QQ C G Fd pc k r (fun μ => fL_meet 0 a b 518 μ) (fun ν => fX11_meet 492 a b ν) μ := q_meet hI a b (c_meet hI a b) (codePP_ne C a b) (fun ν h => r_meet h a b)
/-- gone -/
def codePN (C : Cel) (a b : Int32) : Int32 := if okP C a = true then (if okR b 0 60 = true then 0 else 2) else 1
theorem c_gone (hI : INV C G Fd pc k r μ) (a b : Int32) : CQ (fX10_gone 0 a b μ) μ (codePN C a b) (mS C G Fd dk0 r (ix a) (ix b)) := by
  have hC := hI.2.1
  have hP := hC.2.1
  unfold fX10_gone codePN
  rw [needP_ok hI, bs]
  by_cases h1 : okP C a = true
  · rw [if_pos h1, if_pos h1]
    simp only
    rw [show fX10_needWithin 0 b (0 : Int32) (60 : Int32) = _ from needN_ok b 0 60, bs]
    by_cases h3 : okR b 0 60 = true
    · rw [if_pos h3, if_pos h3]
      simp only
      obtain ⟨p, hp, rfl⟩ := okP_ex hC h1
      obtain ⟨n, _, hn, rfl⟩ := okR_ex (by decide) h3 (by decide)
      obtain ⟨ν, e, hR⟩ := run_ok hI (n := n) (by omega)
      have hGν := hR.1.gr hI.1
      refine ⟨ν, hR.fq, Or.inl ⟨rfl, ?_⟩⟩
      rw [ix_I (by omega), ix_I (by omega), e, bs, g_0_14 hGν, bs, g_455_3 hGν, bs, ld_465 (by omega), bs, hR.2.2.1 p (by omega)]
    · rw [if_neg h3, if_neg h3]
      exact ⟨μ, FrB.refl _ _ μ, Or.inr (Or.inr ⟨rfl, rfl⟩)⟩
  · rw [if_neg h1, if_neg h1]
    exact ⟨μ, FrB.refl _ _ μ, Or.inr (Or.inl ⟨rfl, rfl⟩)⟩
theorem r_gone (hI : INV C G Fd pc k r μ) (a b : Int32) : RQ (fX11_gone 492 a b μ) μ (codePN C a b) (mS C G Fd dk0 r (ix a) (ix b)) := by
  have hC := hI.2.1
  have hP := hC.2.1
  have hr := hI.2.2.2.2.2.2.2.2.1
  obtain ⟨t1, t2, t3, t4⟩ := thr0 μ
  have hR0 := t1.rc hI.2.2.2.2.2.2.1
  unfold fX11_gone codePN
  rw [bs, sI_C, isPerson_ok hR0 t2]
  by_cases h1 : okP C a = true
  · rw [if_pos h1, if_pos h1, bs]
    simp only
    rw [if_neg (by decide), show fX11_isSoon 492 b (0 : Int32) (2 : Int32) (thr μ 0) = _ from isSoon_ok t2 b 0 (by decide)]
    by_cases h3 : okR b 0 60 = true
    · rw [if_pos h3, if_pos h3, bs]
      simp only
      rw [if_neg (by decide)]
      obtain ⟨p, hp, rfl⟩ := okP_ex hC h1
      obtain ⟨m, _, hm, rfl⟩ := okR_ex (by decide) h3 (by decide)
      obtain ⟨M, e, m1, m2⟩ := tried hI dk0 t1 t3
      rw [e, bs, ix_I (by omega), ix_I (by omega)]
      obtain ⟨⟨j, N⟩, e2, i1, i2, i3⟩ := loop_k (S := Nat × Mem) (R := Option (Int32 × Mem))
        (fun n s => fX11_gone_34 n 492 (I p) (I m) (mS C G Fd dk0 r p s.1) (I s.1) s.2) (fun s => some (mS C G Fd dk0 r p s.1, s.2)) m
        (fun j s => s.1 = j ∧ RD 79 (thr μ 0) s.2 ∧ RR C G Fd dk0 r j s.2)
        (by
          rintro n j ⟨j', N⟩ hj ⟨i1, i2, i3⟩
          simp only at i1 i2 i3
          subst i1
          obtain ⟨ξ, e3, h3, h4, h5, _⟩ := i3.day hr.1 (by rw [i2.f4.2.2, t4, hI.dk]; rfl)
          show ∃ s', fX11_gone_34 (n + 1) 492 (I p) (I m) (mS C G Fd dk0 r p j') (I j') N = _ ∧ _
          rw [fX11_gone_34, if_pos (show I j' < I m from (I_lt (by omega) (by omega)).mpr hj), e3, bs, g_492_44 h4.1.1, bs, ld_508 (by omega), bs, h5 p hp, I_addl]
          exact ⟨(j' + 1, ξ), rfl, rfl, i2.trans h3, h4⟩)
        (by
          rintro n ⟨j', N⟩ ⟨i1, i2⟩
          simp only at i1
          subst i1
          show fX11_gone_34 (n + 1) 492 (I p) (I j') (mS C G Fd dk0 r p j') (I j') N = _
          rw [fX11_gone_34, if_neg (show ¬ I j' < I j' by rw [I_lt (by omega) (by omega)]; omega)])
        m fuel 0 (0, M) rfl (by unfold fuel; omega) ⟨rfl, m1, m2⟩
      simp only at e2 i1 i2
      rw [i1] at e2
      rw [show (0 : Int32) = I 0 from rfl]
      show RQ (fX11_gone_34 fuel 492 (I p) (I m) (mS C G Fd dk0 r p 0) (I 0) M) μ 0 _
      rw [e2]
      exact RQ.yes t1 t2 t3 t4 i2
    · rw [if_neg h3, if_neg h3, bs]
      simp only [if_true]
      exact RQ.no (by decide) t1 t3 t4
  · rw [if_neg h1, if_neg h1, bs]
    simp only [if_true]
    exact RQ.no (by decide) t1 t3 t4
theorem qq_gone (hI : INV C G Fd pc k r μ) (a b : Int32) : QQ C G Fd pc k r (fun μ => fL_gone 0 a b 518 μ) (fun ν => fX11_gone 492 a b ν) μ := q_gone hI a b (c_gone hI a b) (fun ν h => r_gone h a b)
end Cm
