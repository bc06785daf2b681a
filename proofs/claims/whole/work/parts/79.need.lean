/-! CALLS: what all of them need -/
def okP (C : Cel) (a : Int32) : Bool := !decide (a < 0) && decide (a < I C.P)
def okD (C : Cel) (a : Int32) : Bool := !decide (a < 0) && decide (a < I C.D)
def okW (a : Int32) (m : Nat) : Bool := !decide (a < 0) && decide (a < I m)
def okR (a : Int32) (lo hi : Nat) : Bool := !decide (a < I lo) && !decide (I hi < a)
theorem okW_ex {a : Int32} {m : Nat} (hm : m < 2147483648) (h : okW a m = true) : ∃ p, p < m ∧ a = I p := by
  unfold okW at h
  rw [Bool.and_eq_true] at h
  have h1 : ¬ a < 0 := by simpa using h.1
  have h2 : a < I m := of_decide_eq_true h.2
  obtain ⟨e1, e2⟩ := I_of h1
  rw [e1, I_lt e2 hm] at h2
  exact ⟨_, h2, e1⟩
theorem okP_ex {C : Cel} {a : Int32} (hC : C.ok) (h : okP C a = true) : ∃ p, p < C.P ∧ a = I p := okW_ex (by have := hC.2.1; omega) h
theorem okD_ex {C : Cel} {a : Int32} (hC : C.ok) (h : okD C a = true) : ∃ p, p < C.D ∧ a = I p := okW_ex (by have := hC.1; omega) h
theorem okR_ex {a : Int32} {lo hi : Nat} (hm : hi < 2147483648) (h : okR a lo hi = true) (hl : lo < 2147483648) : ∃ p, lo ≤ p ∧ p ≤ hi ∧ a = I p := by
  unfold okR at h
  rw [Bool.and_eq_true] at h
  have h1 : ¬ a < I lo := by simpa using h.1
  have h2 : ¬ I hi < a := by simpa using h.2
  have h0 : ¬ a < 0 := by
    intro q
    exact h1 (Int32.lt_of_lt_of_le q (Int32.not_lt.mp (I_neg hl)))
  obtain ⟨e1, e2⟩ := I_of h0
  rw [e1, I_lt e2 hl] at h1
  rw [e1, I_lt hm e2] at h2
  exact ⟨_, by omega, by omega, e1⟩
section Nd
variable {C : Cel} {G Fd : List Itm} {pc : Nat → Int32} {k : Nat} {r : Row} {μ : Mem}
theorem INV.cel (hI : INV C G Fd pc k r μ) : gR μ 0 4 11 = some k := by
  unfold gR
  rw [hI.2.2.2.1]
  rcases hI.2.2.1 with rfl | rfl <;> decide +kernel
theorem needP_ok (hI : INV C G Fd pc k r μ) (a : Int32) : fX10_needPerson 0 a μ = some (if okP C a = true then .inl () else .inr 0) := by
  have e := hI.2.2.2.2.2.1.2.1
  unfold fX10_needPerson okP
  by_cases h : a < 0
  · rw [if_pos h, decide_eq_true h]; rfl
  · rw [if_neg h, hI.cel, bs, e, decide_eq_false h]
    by_cases q : a < I C.P
    · rw [if_pos q, decide_eq_true q]; rfl
    · rw [if_neg q, decide_eq_false q]; rfl
theorem needD_ok (hI : INV C G Fd pc k r μ) (a : Int32) : fX10_needDeed 0 a μ = some (if okD C a = true then .inl () else .inr 0) := by
  have e := hI.2.2.2.2.2.1.1
  unfold fX10_needDeed okD
  by_cases h : a < 0
  · rw [if_pos h, decide_eq_true h]; rfl
  · rw [if_neg h, hI.cel, bs, e, decide_eq_false h]
    by_cases q : a < I C.D
    · rw [if_pos q, decide_eq_true q]; rfl
    · rw [if_neg q, decide_eq_false q]; rfl
theorem needW_ok (a : Int32) (m : Nat) : fX10_needWhat 0 a (I m) = some (if okW a m = true then .inl () else .inr 0) := by
  unfold fX10_needWhat okW
  by_cases h : a < 0
  · rw [if_pos h, decide_eq_true h]; rfl
  · rw [if_neg h, decide_eq_false h]
    by_cases q : a < I m
    · rw [if_pos q, decide_eq_true q]; rfl
    · rw [if_neg q, decide_eq_false q]; rfl
theorem needN_ok (a : Int32) (lo hi : Nat) : fX10_needWithin 0 a (I lo) (I hi) = some (if okR a lo hi = true then .inl () else .inr 1) := by
  unfold fX10_needWithin okR
  by_cases h : a < I lo
  · rw [if_pos h, decide_eq_true h]; rfl
  · rw [if_neg h, decide_eq_false h]
    by_cases q : I hi < a
    · rw [if_pos q, decide_eq_true q]; rfl
    · rw [if_neg q, decide_eq_false q]; rfl
/-- the reference's thrown is w -/
abbrev thr (μ : Mem) (w : Int32) : Mem := sC μ 492 (up (μ.2.1 492) 0 w)
theorem right_ok (h0 : μ.2.1 492 0 = 0) {v w : Int32} (hw : w ≠ 0) : fX11_right 492 v w μ = if v = 0 then some (0, thr μ w) else some (1, μ) := by
  unfold fX11_right
  rw [if_pos h0, h0]
  by_cases h : v = 0
  · rw [if_pos h, if_pos h, bs, sI_C, sC_s, up_s, if_neg hw]
  · rw [if_neg h, if_neg h, if_pos rfl]
theorem isPerson_ok (hI : RC C μ) (h0 : μ.2.1 492 0 = 0) (a : Int32) : fX11_isPerson 492 a μ = if okP C a = true then some (1, μ) else some (0, thr μ 1) := by
  have e := hI.2.2.2.1
  unfold fX11_isPerson okP
  by_cases h : a < 0
  · rw [if_pos h, decide_eq_true h, right_ok h0 (by decide), if_pos rfl]; rfl
  · rw [if_neg h, e, decide_eq_false h]
    by_cases q : a < I C.P
    · rw [if_pos q, decide_eq_true q, right_ok h0 (by decide), if_neg (by decide)]; rfl
    · rw [if_neg q, decide_eq_false q, right_ok h0 (by decide), if_pos rfl]; rfl
theorem isDeed_ok (hI : RC C μ) (h0 : μ.2.1 492 0 = 0) (a : Int32) : fX11_isDeed 492 a μ = if okD C a = true then some (1, μ) else some (0, thr μ 1) := by
  have e := hI.2.2.1
  unfold fX11_isDeed okD
  by_cases h : a < 0
  · rw [if_pos h, decide_eq_true h, right_ok h0 (by decide), if_pos rfl]; rfl
  · rw [if_neg h, e, decide_eq_false h]
    by_cases q : a < I C.D
    · rw [if_pos q, decide_eq_true q, right_ok h0 (by decide), if_neg (by decide)]; rfl
    · rw [if_neg q, decide_eq_false q, right_ok h0 (by decide), if_pos rfl]; rfl
theorem lt_succI {a : Int32} {m : Nat} (hm : m + 1 < 2147483648) : (a < I (m + 1)) ↔ ¬ (I m < a) := by
  rw [Int32.lt_iff_toInt_lt, Int32.lt_iff_toInt_lt, I_nat hm, I_nat (by omega)]
  omega
theorem isWhat_ok (h0 : μ.2.1 492 0 = 0) (a : Int32) {m : Nat} (hm : m + 1 < 2147483648) : fX11_isWhat 492 a (I m) μ = if okW a (m + 1) = true then some (1, μ) else some (0, thr μ 1) := by
  unfold fX11_isWhat fX11_within okW
  by_cases h : a < 0
  · rw [if_pos h, decide_eq_true h, right_ok h0 (by decide), if_pos rfl]; rfl
  · rw [if_neg h, decide_eq_false h]
    by_cases q : I m < a
    · rw [if_pos q, decide_eq_false (fun t => (lt_succI hm).mp t q), right_ok h0 (by decide), if_pos rfl]; rfl
    · rw [if_neg q, decide_eq_true ((lt_succI hm).mpr q), right_ok h0 (by decide), if_neg (by decide)]; rfl
theorem within_ok (a : Int32) (lo hi : Nat) : fX11_within a (I lo) (I hi) = if okR a lo hi = true then 1 else 0 := by
  unfold fX11_within okR
  by_cases h : a < I lo
  · rw [if_pos h, decide_eq_true h]; rfl
  · rw [if_neg h, decide_eq_false h]
    by_cases q : I hi < a
    · rw [if_pos q, decide_eq_true q]; rfl
    · rw [if_neg q, decide_eq_false q]; rfl
theorem isSoon_ok (h0 : μ.2.1 492 0 = 0) (a : Int32) (lo : Nat) {w : Int32} (hw : w ≠ 0) : fX11_isSoon 492 a (I lo) w μ = if okR a lo 60 = true then some (1, μ) else some (0, thr μ w) := by
  unfold fX11_isSoon
  rw [show (60 : Int32) = I 60 from rfl, within_ok, right_ok h0 hw]
  by_cases q : okR a lo 60 = true
  · rw [if_pos q, if_pos q, if_neg (by decide)]; rfl
  · rw [if_neg q, if_neg q, if_pos rfl]; rfl
def dk0 : Nat → Bool := fun _ => false
theorem INV.beg (hI : INV C G Fd pc k r μ) (dk : Nat → Bool) : ∃ ν, fX2_begin 455 k 33 μ = some ν ∧ CR C G Fd pc dk r k μ 0 ν :=
  begin_ok hI.1 hI.2.1 hI.2.2.1 hI.2.2.2.2.2.1 hI.2.2.2.2.2.2.2.2.2.1 hI.2.2.2.2.2.2.2.2.1.2.2.1 dk
theorem Lr_LC : (∀ c ∈ Lr, c ∈ LC) ∧ (∀ c ∈ L2p, c ∈ L2C) := by decide
theorem CR.fq {dk : Nat → Bool} {n : Nat} {ν : Mem} (h : CR C G Fd pc dk r k μ n ν) : FrB LC L2C μ ν := h.1.mono Lr_LC.1 Lr_LC.2
theorem CR.cel {dk : Nat → Bool} {n : Nat} {ν : Mem} (h : CR C G Fd pc dk r k μ n ν) (hI : INV C G Fd pc k r μ) : INV C G Fd pc k r ν := hI.q h.fq.ag
/-- the Course goes on for some days -/
theorem run_ok (hI : INV C G Fd pc k r μ) {n : Nat} (hn : n ≤ 1000) : ∃ ν, fX10_runAhead 0 (I n) μ = some ν ∧ CR C G Fd pc dk0 r k μ n ν := by
  obtain ⟨M, e, hM⟩ := hI.beg dk0
  unfold fX10_runAhead
  rw [g_0_14 hI.1, bs, hI.cel, bs, g_0_7 hI.1, bs, e, bs]
  have hC := hI.2.1
  have hr := hI.2.2.2.2.2.2.2.2.1
  obtain ⟨⟨j, N⟩, e2, i1, i2⟩ := loop_k (S := Nat × Mem) (R := Option Mem)
    (fun m s => fX10_runAhead_17 m 0 (I n) (I s.1) s.2) (fun s => some s.2) n
    (fun j s => s.1 = j ∧ CR C G Fd pc dk0 r k μ j s.2)
    (by
      rintro m j ⟨j', N⟩ hj ⟨i1, i2⟩
      simp only at i1 i2
      subst i1
      obtain ⟨ξ, e3, h3⟩ := i2.pass hC hr.1 hr.2.1 (lt := 1) rfl
      show ∃ s', fX10_runAhead_17 (m + 1) 0 (I n) (I j') N = _ ∧ _
      rw [fX10_runAhead_17, if_pos (show I j' < I n from (I_lt (by omega) (by omega)).mpr hj), g_0_14 (i2.1.gr hI.1), bs, e3, bs, I_addl]
      exact ⟨(j' + 1, ξ), rfl, rfl, h3⟩)
    (by
      rintro m ⟨j', N⟩ ⟨i1, i2⟩
      simp only at i1
      subst i1
      show fX10_runAhead_17 (m + 1) 0 (I j') (I j') N = _
      rw [fX10_runAhead_17, if_neg (show ¬ I j' < I j' by rw [I_lt (by omega) (by omega)]; omega)])
    n fuel 0 (0, M) rfl (by unfold fuel; omega) ⟨rfl, hM⟩
  exact ⟨N, e2, i2⟩
theorem tried (hI : INV C G Fd pc k r μ) (dk : Nat → Bool) {ν : Mem} (hF : FR μ ν) (h41 : ν.2.1 492 41 = μ.2.1 492 41) : ∃ ξ, fX11_tries 492 ν = some ξ ∧ RD 79 ν ξ ∧ RR C G Fd dk r 0 ξ := by
  obtain ⟨ξ, e, h1, h2, h3⟩ := tries_ok (hF.gr hI.1)
  have hRC := hF.rc hI.2.2.2.2.2.2.1
  have hRK := hF.rk hI.2.2.2.2.2.2.2.1
  refine ⟨ξ, e, h1, h1.rc hRC, h1.rk hRK, ?_, ?_⟩
  · rw [h3, h41]; exact hI.2.2.2.2.2.2.2.2.2.2.2.2.2.2.2.2.2.1
  · refine h2.trans (E79.trans ?_ hI.2.2.2.2.2.2.2.2.2.2.1)
    intro j hj
    exact hF.2.2.2.2 (0 + j) (by omega)
/-- the reference tries some days -/
theorem goesTo_ok (hI : INV C G Fd pc k r μ) {ν : Mem} (hF : FR μ ν) (h41 : ν.2.1 492 41 = μ.2.1 492 41) (h45 : ν.2.1 492 45 = μ.2.1 492 45) {n : Nat} (hn : n ≤ 1000) : ∃ ξ, fX11_goesTo 492 (I n) ν = some ξ ∧ RD 79 ν ξ ∧ RR C G Fd dk0 r n ξ := by
  obtain ⟨M, e, h1, h2⟩ := tried hI dk0 hF h41
  have hr := hI.2.2.2.2.2.2.2.2.1
  have hd : ν.2.1 492 45 = 0 := by rw [h45]; exact hI.2.2.2.2.2.2.2.2.2.2.2.2.2.2.2.2.2.2
  unfold fX11_goesTo fX11_daysGo
  rw [e, bs]
  obtain ⟨⟨j, N⟩, e2, i1, i2, i3⟩ := loop_k (S := Nat × Mem) (R := Option Mem)
    (fun m s => fX11_daysGo_2 m 492 (I n) (I s.1) s.2) (fun s => some s.2) n
    (fun j s => s.1 = j ∧ RD 79 ν s.2 ∧ RR C G Fd dk0 r j s.2)
    (by
      rintro m j ⟨j', N⟩ hj ⟨i1, i2, i3⟩
      simp only at i1 i2 i3
      subst i1
      obtain ⟨ξ, e3, h3, h4, _⟩ := i3.day hr.1 (by rw [i2.1.2.2.2 45 (by decide) (by decide), hd]; rfl)
      show ∃ s', fX11_daysGo_2 (m + 1) 492 (I n) (I j') N = _ ∧ _
      rw [fX11_daysGo_2, if_pos (show I j' < I n from (I_lt (by omega) (by omega)).mpr hj), e3, bs, I_addl]
      exact ⟨(j' + 1, ξ), rfl, rfl, i2.trans h3, h4⟩)
    (by
      rintro m ⟨j', N⟩ ⟨i1, i2⟩
      simp only at i1
      subst i1
      show fX11_daysGo_2 (m + 1) 492 (I j') (I j') N = _
      rw [fX11_daysGo_2, if_neg (show ¬ I j' < I j' by rw [I_lt (by omega) (by omega)]; omega)])
    n fuel 0 (0, M) rfl (by unfold fuel; omega) ⟨rfl, h1, h2⟩
  simp only at e2
  rw [show (0 : Int32) = I 0 from rfl, e2]
  exact ⟨N, rfl, i2, i3⟩
end Nd
