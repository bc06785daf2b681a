/-! CALLS: ahead, clear -/
theorem tb_ext {a b : Int32} (h : ∀ p, p < 32 → tb a p = tb b p) : a = b := by
  rw [← Int32.toBitVec_inj]
  exact BitVec.eq_of_getLsbD_eq (fun i hi => h i hi)
theorem tb_and (a b : Int32) (p : Nat) : tb (a &&& b) p = (tb a p && tb b p) := BitVec.getLsbD_and
theorem m1_bits32 : (-1 : Int32).toBitVec = BitVec.allOnes 32 := by decide +kernel
theorem tb_not {a : Int32} {p : Nat} (hp : p < 32) : tb (a ^^^ (-1 : Int32)) p = !tb a p := by
  unfold tb
  rw [Int32.toBitVec_xor, BitVec.getLsbD_xor, m1_bits32, BitVec.getLsbD_allOnes, decide_eq_true hp]
  simp
theorem tb_msk : ∀ P : Fin 7, ∀ p : Fin 32, tb (bitI P.1 - 1) p.1 = decide (p.1 < P.1) := by decide +kernel
theorem tb_0 (p : Nat) : tb 0 p = false := by
  show (0 : Int32).toBitVec.getLsbD p = false
  rw [show (0 : Int32).toBitVec = 0#32 from rfl]
  exact BitVec.getLsbD_zero
theorem tb_kbits (c : Int32) (f : Nat → Bool) : ∀ j, j ≤ 32 → ∀ p, tb (kbits c f j) p = (tb c p || (decide (p < j) && f p)) := by
  intro j
  induction j with
  | zero => intro _ p; simp [kbits]
  | succ j ih =>
    intro hj p
    unfold kbits
    by_cases q : f j = true
    · rw [if_pos q, tb_or, ih (by omega), tb_bitI (by omega)]
      by_cases e : p = j
      · subst e; simp [q]
      · have : (decide (p < j + 1)) = decide (p < j) := by
          apply decide_eq_decide.mpr; omega
        simp [e, this]
    · rw [if_neg q, ih (by omega)]
      by_cases e : p = j
      · subst e
        have : f p = false := by cases h : f p; rfl; exact absurd h q
        simp [this]
      · have : (decide (p < j + 1)) = decide (p < j) := by
          apply decide_eq_decide.mpr; omega
        rw [this]
section Ah
variable {C : Cel} {G Fd : List Itm} {pc : Nat → Int32} {k : Nat} {r : Row} {μ : Mem}
theorem oth_pos (hC : C.ok) (hr : RowOK C r) {p : Nat} (hp : p < C.P) : decide (0 < oth C r p) = !decide (oth C r p = 0) := by
  obtain ⟨x, hx1, hx2⟩ := hr.2.1 p hp
  have hself : 0 < nAt C r x := by
    have : cnt (fun _ => false) C.P < cnt (fun q => decide (r (55 + q) = I x)) C.P := cnt_lt hp rfl (decide_eq_true hx1) (fun _ _ q => by cases q)
    unfold nAt
    omega
  have hle := nAt_le (r := r) hC x
  have e : oth C r p = I (nAt C r x - 1) := by
    unfold oth
    rw [cntI_N, hx1]
    show I (nAt C r x) - 1 = _
    rw [I_subl (by omega)]
  rw [e]
  by_cases q : nAt C r x - 1 = 0
  · rw [q]; decide
  · have h1 : (0 : Int32) < I (nAt C r x - 1) := (l_ltI (m := 0) (by omega) (by decide)).mpr (show 0 < nAt C r x - 1 by omega)
    have h2 : ¬ I (nAt C r x - 1) = 0 := by
      intro t
      exact q ((I_inj (m := 0) (by omega) (by omega)).mp t)
    rw [decide_eq_true h1, decide_eq_false h2]; rfl
/-- those who were alone all the days -/
noncomputable def lonS (C : Cel) (G Fd : List Itm) (r : Row) : Nat → Int32
  | 0 => bitI C.P - 1
  | n + 1 => lonS C G Fd r n &&& cbits (loneD C G false (dN C G Fd dk0 r n)) C.P
theorem lon_eq (hC : C.ok) (hr : RowOK C r) (n : Nat) : lonS C G Fd r n = (bitI C.P - 1) &&& (kS C G Fd dk0 r n ^^^ (-1 : Int32)) := by
  have hP := hC.2.1
  have msk : ∀ p, p < 32 → tb (bitI C.P - 1) p = decide (p < C.P) := fun p hp => tb_msk ⟨C.P, by omega⟩ ⟨p, hp⟩
  induction n with
  | zero =>
    apply tb_ext
    intro p hp
    show tb (bitI C.P - 1) p = tb ((bitI C.P - 1) &&& ((0 : Int32) ^^^ (-1 : Int32))) p
    rw [tb_and, tb_not hp, tb_0]
    simp
  | succ n ih =>
    apply tb_ext
    intro p hp
    show tb (lonS C G Fd r n &&& cbits (loneD C G false (dN C G Fd dk0 r n)) C.P) p = tb ((bitI C.P - 1) &&& (kbits (kS C G Fd dk0 r n) (fun p => decide (0 < oth C (walkA C G false (dN C G Fd dk0 r n) C.P).1 p)) C.P ^^^ (-1 : Int32))) p
    rw [tb_and, ih, tb_and, tb_and, tb_not hp, tb_not hp, tb_kbits _ _ _ (by omega), tb_cbits _ _ (by omega), msk p hp]
    by_cases q : p < C.P
    · rw [oth_pos hC (walkA_ok hC (dN_ok hC hr n) C.P (Nat.le_refl _)) q]
      unfold loneD
      rw [decide_eq_true q]
      cases tb (kS C G Fd dk0 r n) p <;> simp
    · simp [q]
noncomputable def valA (C : Cel) (G Fd : List Itm) (r : Row) (a b : Int32) : Int32 := if b = 0 then lonS C G Fd r (ix a) else fX10_outside (enc (thk (dN C G Fd dk0 r (ix a)) 48))
theorem c_ahead (hI : INV C G Fd pc k r μ) (a b : Int32) : CQ (fX10_ahead 0 a b μ) μ (codeWN b 2 a) (valA C G Fd r a b) := by
  have hC := hI.2.1
  have hr := hI.2.2.2.2.2.2.2.2.1
  unfold fX10_ahead codeWN
  rw [show fX10_needWhat 0 b (2 : Int32) = _ from needW_ok b 2, bs]
  by_cases h2 : okW b 2 = true
  · rw [if_pos h2, if_pos h2]
    simp only
    rw [show fX10_needWithin 0 a (0 : Int32) (60 : Int32) = _ from needN_ok a 0 60, bs]
    by_cases h3 : okR a 0 60 = true
    · rw [if_pos h3, if_pos h3]
      simp only
      obtain ⟨n, _, hn, rfl⟩ := okR_ex (by decide) h3 (by decide)
      obtain ⟨ν, e, hR⟩ := run_ok hI (n := n) (by omega)
      have hGν := hR.1.gr hI.1
      have hS := hR.2.1.2.2.2.2.2.1
      have hIν := hI.q hR.fq.ag
      refine ⟨ν, hR.fq, Or.inl ⟨rfl, ?_⟩⟩
      unfold valA
      rw [ix_I (by omega), e, bs]
      by_cases b0 : b = 0
      · rw [if_pos b0, if_pos b0, hIν.cel, bs, g_0_14 hGν, bs, hR.2.2.2.2, hIν.2.2.2.2.2.1.2.1, lon_eq hC hr.1]
      · rw [if_neg b0, if_neg b0, g_0_14 hGν, bs, g_455_0 hGν, bs, thick_C hGν a456 hS, bs]
    · rw [if_neg h3, if_neg h3]
      exact ⟨μ, FrB.refl _ _ μ, Or.inr (Or.inr ⟨rfl, rfl⟩)⟩
  · rw [if_neg h2, if_neg h2]
    exact ⟨μ, FrB.refl _ _ μ, Or.inr (Or.inl ⟨rfl, rfl⟩)⟩
theorem r_ahead (hI : INV C G Fd pc k r μ) (a b : Int32) : RQ (fX11_ahead 492 a b μ) μ (codeWN b 2 a) (valA C G Fd r a b) := by
  have hC := hI.2.1
  have hr := hI.2.2.2.2.2.2.2.2.1
  obtain ⟨t1, t2, t3, t4⟩ := thr0 μ
  have hR0 := t1.rc hI.2.2.2.2.2.2.1
  unfold fX11_ahead codeWN
  rw [bs, sI_C, show fX11_isWhat 492 b (1 : Int32) (thr μ 0) = _ from isWhat_ok (m := 1) t2 b (by decide)]
  by_cases h2 : okW b 2 = true
  · rw [if_pos h2, if_pos h2, bs]
    simp only
    rw [if_neg (by decide), show fX11_isSoon 492 a (0 : Int32) (2 : Int32) (thr μ 0) = _ from isSoon_ok t2 a 0 (by decide)]
    by_cases h3 : okR a 0 60 = true
    · rw [if_pos h3, if_pos h3, bs]
      simp only
      rw [if_neg (by decide)]
      obtain ⟨m, _, hm, rfl⟩ := okR_ex (by decide) h3 (by decide)
      obtain ⟨M, e, m1, m2⟩ := tried hI dk0 t1 t3
      rw [e, bs, hR0.2.2.2.1]
      obtain ⟨⟨j, N⟩, e2, i1, i2, i3⟩ := loop_k (S := Nat × Mem) (R := Option (Int32 × Mem))
        (fun n s => fX11_ahead_42 n 492 (I m) b (lonS C G Fd r s.1) (I s.1) s.2) (fun s => fX11_ahead_73 fuel 492 b (lonS C G Fd r s.1) (-1) 0 s.2) m
        (fun j s => s.1 = j ∧ RD 79 (thr μ 0) s.2 ∧ RR C G Fd dk0 r j s.2)
        (by
          rintro n j ⟨j', N⟩ hj ⟨i1, i2, i3⟩
          simp only at i1 i2 i3
          subst i1
          obtain ⟨ξ, e3, h3, h4, _, _, h7⟩ := i3.day hr.1 (by rw [i2.f4.2.2, t4, hI.dk]; rfl)
          show ∃ s', fX11_ahead_42 (n + 1) 492 (I m) b (lonS C G Fd r j') (I j') N = _ ∧ _
          rw [fX11_ahead_42, if_pos (show I j' < I m from (I_lt (by omega) (by omega)).mpr hj), e3, bs, h7, I_addl]
          exact ⟨(j' + 1, ξ), rfl, rfl, i2.trans h3, h4⟩)
        (by
          rintro n ⟨j', N⟩ ⟨i1, i2⟩
          simp only at i1
          subst i1
          show fX11_ahead_42 (n + 1) 492 (I j') b (lonS C G Fd r j') (I j') N = _
          rw [fX11_ahead_42, if_neg (show ¬ I j' < I j' by rw [I_lt (by omega) (by omega)]; omega)])
        m fuel 0 (0, M) rfl (by unfold fuel; omega) ⟨rfl, m1, m2⟩
      simp only at e2 i1 i2 i3
      have hi : InkOK C (rwb N 79) := (dN_ink hC hr.2.1 m).congr (fun k _ hk => i3.2.2.2 k (by omega))
      rw [i1, thick_R i3.1 hi] at e2
      have hval : (if b = 0 then lonS C G Fd r m else fX11_toldAs (enc (thk (rwb N 79) 48))) = valA C G Fd r (I m) b := by
        unfold valA
        rw [ix_I (by omega)]
        by_cases b0 : b = 0
        · rw [if_pos b0, if_pos b0]
        · rw [if_neg b0, if_neg b0, (thk_congr 48 (by omega) (fun k _ hk => i3.2.2.2 k (by omega))).1, toldAs_eq (fun x hx => thk_lt _ _ _ hx)]
      rw [hval] at e2
      show RQ (fX11_ahead_42 fuel 492 (I m) b (lonS C G Fd r 0) (I 0) M) μ 0 _
      rw [e2]
      exact RQ.yes t1 t2 t3 t4 i2
    · rw [if_neg h3, if_neg h3, bs]
      simp only [if_true]
      exact RQ.no (by decide) t1 t3 t4
  · rw [if_neg h2, if_neg h2, bs]
    simp only [if_true]
    exact RQ.no (by decide) t1 t3 t4
theorem qq_ahead (hI : INV C G Fd pc k r μ) (a b : Int32) : QQ C G Fd pc k r (fun μ => fL_ahead 0 a b 518 μ) (fun ν => fX11_ahead 492 a b ν) μ := q_ahead hI a b (c_ahead hI a b) (fun ν h => r_ahead h a b)
/-- a place that is told, by 8 -/
def plc (C : Cel) (a : Int32) : Option Nat := if a < 0 then none else if ix a / 10 < C.D ∧ ix a % 10 < C.z (ix a / 10) then some (8 * (ix a / 10) + ix a % 10) else none
theorem plc_there {a : Int32} (hC : C.ok) {x : Nat} (h : plc C a = some x) : there C x = true := by
  unfold plc at h
  split at h
  · cases h
  · split at h
    · rename_i q
      cases h
      have := hC.2.2 _ q.1
      rw [there_iff, show (8 * (ix a / 10) + ix a % 10) / 8 = ix a / 10 by omega, show (8 * (ix a / 10) + ix a % 10) % 8 = ix a % 10 by omega]
      exact q
    · cases h
theorem inside_ok (hI : INV C G Fd pc k r μ) (a : Int32) : fX10_inside 0 a μ = some (match plc C a with | none => .inr 0 | some x => .inl (I x)) := by
  have hC := hI.2.1
  have hD := hC.1
  have hE := hI.2.2.2.2.2.1
  obtain ⟨c3, _⟩ := cel_g hI.1 hI.2.2.1
  obtain ⟨k1, _⟩ := cel_k hI.2.2.1
  unfold fX10_inside plc
  by_cases h : a < 0
  · rw [if_pos h, if_pos h]
  · rw [if_neg h, if_neg h, hI.cel, bs]
    obtain ⟨e1, e2⟩ := I_of h
    generalize hn : a.toNatClampNeg = n at e1 e2
    subst e1
    rw [show ix (I n) = n from ix_I e2, hE.1, I_divl e2 (by decide)]
    by_cases q : n / 10 < C.D
    · have hz := hC.2.2 _ q
      rw [if_pos (show I (n / 10) < I C.D from (I_lt (by omega) (by omega)).mpr q), bs, c3, bs, ldI_I k1 (by omega) (by omega), bs, hE.2.2.2.1 _ (by omega), if_pos q, I_md]
      by_cases q2 : n % 10 < C.z (n / 10)
      · rw [if_pos (show I (n % 10) < I (C.z (n / 10)) from (I_lt (by omega) (by omega)).mpr q2), if_pos ⟨q, q2⟩, I_mull, I_add, Nat.mul_comm]
      · rw [if_neg (show ¬ I (n % 10) < I (C.z (n / 10)) from fun t => q2 ((I_lt (by omega) (by omega)).mp t)), if_neg (fun t => q2 t.2)]
    · rw [if_neg (show ¬ I (n / 10) < I C.D from fun t => q ((I_lt (by omega) (by omega)).mp t)), if_neg (fun t => q t.1)]
theorem placeOf_ok (h : RC C μ) (h0 : μ.2.1 492 0 = 0) (a : Int32) : fX11_placeOf 492 a μ = some (match plc C a with | none => (-1, thr μ 1) | some x => (I x, μ)) := by
  have hC := h.2.1
  have hD := hC.1
  unfold fX11_placeOf plc
  by_cases hneg : a < 0
  · rw [if_pos hneg, if_pos hneg, right_ok h0 (by decide), if_pos rfl, bs]
    rfl
  · rw [if_neg hneg, if_neg hneg]
    obtain ⟨e1, e2⟩ := I_of hneg
    generalize hn : a.toNatClampNeg = n at e1 e2
    subst e1
    rw [show ix (I n) = n from ix_I e2, h.2.2.1]
    simp (disch := omega) only [I_divl, I_md, l_mulI, I_add]
    by_cases q : n / 10 < C.D
    · have hz := hC.2.2 _ q
      rw [if_pos (show I (n / 10) < I C.D from (I_lt (by omega) (by omega)).mpr q)]
      by_cases q1 : n % 10 < 8
      · rw [if_pos (show I (n % 10) < (8 : Int32) from (I_ltl (by omega) (by decide)).mpr q1), isThere_ok h (by omega), bs]
        by_cases q2 : n % 10 < C.z (n / 10)
        · have ht : there C (8 * (n / 10) + n % 10) = true := by
            rw [there_iff, show (8 * (n / 10) + n % 10) / 8 = n / 10 by omega, show (8 * (n / 10) + n % 10) % 8 = n % 10 by omega]
            exact ⟨q, q2⟩
          rw [if_pos ht, if_neg (by decide), right_ok h0 (by decide), if_neg (by decide), bs, if_pos (show n / 10 < C.D ∧ n % 10 < C.z (n / 10) from ⟨q, q2⟩)]
          rfl
        · have ht : ¬ there C (8 * (n / 10) + n % 10) = true := by
            rw [there_iff, show (8 * (n / 10) + n % 10) / 8 = n / 10 by omega, show (8 * (n / 10) + n % 10) % 8 = n % 10 by omega]
            exact fun t => q2 t.2
          rw [if_neg ht, if_pos rfl, right_ok h0 (by decide), if_pos rfl, bs, if_neg (show ¬ (n / 10 < C.D ∧ n % 10 < C.z (n / 10)) from fun t => q2 t.2)]
          rfl
      · rw [if_neg (show ¬ I (n % 10) < (8 : Int32) from fun t => q1 ((I_ltl (by omega) (by decide)).mp t)), right_ok h0 (by decide), if_pos rfl, bs, if_neg (show ¬ (n / 10 < C.D ∧ n % 10 < C.z (n / 10)) from fun t => q1 (by omega))]
        rfl
    · rw [if_neg (show ¬ I (n / 10) < I C.D from fun t => q ((I_lt (by omega) (by omega)).mp t)), right_ok h0 (by decide), if_pos rfl, bs, if_neg (show ¬ (n / 10 < C.D ∧ n % 10 < C.z (n / 10)) from fun t => q t.1)]
      rfl
end Ah
