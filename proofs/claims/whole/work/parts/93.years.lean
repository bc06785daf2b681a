/-! CALLS: years -/
theorem sumI_s (f : Nat → Int32) (n : Nat) : sumI f (n + 1) = sumI f n + f n := rfl
theorem sumI_add (f g : Nat → Int32) : ∀ n, sumI (fun p => f p + g p) n = sumI f n + sumI g n := by
  intro n
  induction n with
  | zero => rfl
  | succ n ih =>
    rw [sumI_s, sumI_s, sumI_s, ih, Int32.add_assoc, Int32.add_assoc]
    congr 1
    rw [← Int32.add_assoc, ← Int32.add_assoc, Int32.add_comm (sumI g n) (f n)]
theorem sumI_0 {f : Nat → Int32} : ∀ n, (∀ p, p < n → f p = 0) → sumI f n = 0 := by
  intro n
  induction n with
  | zero => intro _; rfl
  | succ n ih =>
    intro h
    rw [sumI_s, ih (fun p hp => h p (by omega)), h n (by omega)]
    rfl
theorem sumI_beyond {f : Nat → Int32} {n : Nat} : ∀ i, (∀ x, n ≤ x → x < n + i → f x = 0) → sumI f (n + i) = sumI f n := by
  intro i
  induction i with
  | zero => intro _; rfl
  | succ i ih =>
    intro h
    rw [← Nat.add_assoc, sumI_s, ih (fun x h1 h2 => h x h1 (by omega)), h (n + i) (by omega) (by omega), Int32.add_zero]
theorem tb_1 (p : Nat) : tb 1 p = decide (p = 0) := by
  unfold tb
  rw [show (1 : Int32).toBitVec = 1#32 from rfl, BitVec.getLsbD_one]
  simp
theorem sh_and1 (v : Int32) {p : Nat} (hp : p < 32) : (v >>> (I p &&& 31)) &&& 1 = if tb v p = true then 1 else 0 := by
  by_cases h : tb v p = true
  · rw [if_pos h]
    exact (tb_sh hp).mpr h
  · rw [if_neg h]
    have h0 : tb ((v >>> (I p &&& 31)) &&& 1) 0 = false := by
      cases q : tb ((v >>> (I p &&& 31)) &&& 1) 0
      · rfl
      · exfalso
        apply h
        rw [← tb_sh hp, and1]
        rw [tb_and] at q
        exact (Bool.and_eq_true _ _ ▸ q).1
    apply tb_ext
    intro q hq
    rw [tb_0]
    by_cases e : q = 0
    · subst e; exact h0
    · rw [tb_and, tb_1, decide_eq_false e, Bool.and_false]
theorem bits_ok (v : Int32) : fX11_bits v = some (sumI (fun p => if tb v p = true then 1 else 0) 6) := by
  unfold fX11_bits
  refine loop_eq (fun n (s : Int32 × Int32) => fX11_bits_4 n v s.1 s.2) 6 (fun j => (sumI (fun p => if tb v p = true then 1 else 0) j, I j)) _ ?_ ?_ 6 fuel 0 rfl (by unfold fuel; omega)
  · intro n j hj
    show fX11_bits_4 (n + 1) v (sumI (fun p => if tb v p = true then 1 else 0) j) (I j) = fX11_bits_4 n v (sumI (fun p => if tb v p = true then 1 else 0) (j + 1)) (I (j + 1))
    conv => lhs; rw [fX11_bits_4]
    rw [if_pos (show I j < (6 : Int32) from (I_ltl (by omega) (by decide)).mpr hj), sh_and1 v (by omega), I_addl, sumI_s]
  · intro n
    show fX11_bits_4 (n + 1) v _ (I 6) = _
    rw [fX11_bits_4, if_neg (by decide)]
theorem walkA_ge {C : Cel} {G : List Itm} {dark : Bool} {r : Row} {q : Nat} : ∀ j, j ≤ q → (walkA C G dark r j).2.2 q = false := by
  intro j
  induction j with
  | zero => intro _; rfl
  | succ j ih =>
    intro hj
    rw [walkA_s]
    show up _ j _ q = false
    rw [up_n _ _ (by omega)]
    exact ih (by omega)
section Ye
variable {C : Cel} {G Fd : List Itm} {pc : Nat → Int32} {k : Nat} {r : Row} {μ : Mem}
theorem metBy_C (hG : Gr μ) (hC : C.ok) {a : Nat} (ha : a ∈ stA) (hS : SH C r a μ) : fX9_metByAll a μ = some (sumI (fun p => r (67 + p)) C.P) := by
  have hP := hC.2.1
  have e : fX9_metByAll a μ = some (sumI (μ.2.1 (a + 4)) 6) := by
    unfold fX9_metByAll
    refine loop_eq (fun n (s : Int32 × Int32) => fX9_metByAll_4 μ n a s.1 s.2) 6 (fun j => (sumI (μ.2.1 (a + 4)) j, I j)) _ ?_ ?_ 6 fuel 0 rfl (by unfold fuel; omega)
    · intro n j hj
      show fX9_metByAll_4 μ (n + 1) a (sumI (μ.2.1 (a + 4)) j) (I j) = fX9_metByAll_4 μ n a (sumI (μ.2.1 (a + 4)) (j + 1)) (I (j + 1))
      conv => lhs; rw [fX9_metByAll_4]
      rw [if_pos (show I j < (6 : Int32) from (I_ltl (by omega) (by decide)).mpr hj), hG.met ha, bs, ldI_I (st_met a ha).2 hj (by omega), bs, I_addl, sumI_s]
    · intro n
      show fX9_metByAll_4 μ (n + 1) a _ (I 6) = _
      rw [fX9_metByAll_4, if_neg (by decide)]
  rw [e, show (6 : Nat) = C.P + (6 - C.P) by omega, sumI_beyond (6 - C.P) (fun x h1 h2 => by rw [hS.2.2.2.2.2.2 x (by omega), if_neg (by omega)]), sumI_congr C.P (fun p hp => by rw [hS.2.2.2.2.2.2 p (by omega), if_pos hp])]
theorem metAll_R (h : RC C μ) {b : Nat} (hb : b ≤ 79) : fX11_metAll 492 (I b) μ = some (sumI (fun p => rwb μ b (67 + p)) C.P) := by
  have hP := h.2.1.2.1
  unfold fX11_metAll
  refine loop_eq (fun n (s : Int32 × Int32) => fX11_metAll_4 μ n 492 (I b) s.1 s.2) C.P (fun j => (sumI (fun p => rwb μ b (67 + p)) j, I j)) _ ?_ ?_ C.P fuel 0 rfl (by unfold fuel; omega)
  · intro n j hj
    show fX11_metAll_4 μ (n + 1) 492 (I b) (sumI (fun p => rwb μ b (67 + p)) j) (I j) = fX11_metAll_4 μ n 492 (I b) (sumI (fun p => rwb μ b (67 + p)) j + rwb μ b (67 + j)) (I (j + 1))
    conv => lhs; rw [fX11_metAll_4]
    rw [h.2.2.2.1, if_pos (show I j < I C.P from (I_lt (by omega) (by omega)).mpr hj), g_492_34 h.1, bs, I_addl, I_add, ld_502 (by omega), bs, I_addl, Nat.add_assoc]
    rfl
  · intro n
    show fX11_metAll_4 μ (n + 1) 492 (I b) _ (I C.P) = _
    rw [fX11_metAll_4, h.2.2.2.1, if_neg (show ¬ I C.P < I C.P by rw [I_lt (by omega) (by omega)]; omega)]
theorem CY.mk {x : Row} {y : Int32} {ν : Mem} (h1 : FrB LC L2C μ ν) (h2 : CP C G Fd pc x k ν) (h3 : ν.2.1 487 0 = y) : CY C G Fd pc k μ (x, y) ν := ⟨h1, h2, h3⟩
noncomputable def yS (C : Cel) (G Fd : List Itm) (s : Row × Int32) : Nat → Row × Int32
  | 0 => s
  | n + 1 => (dayR C G Fd false (hap C (yS C G Fd s n)).1, (hap C (yS C G Fd s n)).2)
noncomputable def yC (C : Cel) (G Fd : List Itm) (s : Row × Int32) : Nat → Int32
  | 0 => 0
  | n + 1 => yC C G Fd s n + sumI (fun p => if cameD C G false (hap C (yS C G Fd s n)).1 p = true then 1 else 0) 6
theorem yS_s (C : Cel) (G Fd : List Itm) (s : Row × Int32) (n : Nat) : yS C G Fd s (n + 1) = (dayR C G Fd false (hap C (yS C G Fd s n)).1, (hap C (yS C G Fd s n)).2) := rfl
theorem yC_s (C : Cel) (G Fd : List Itm) (s : Row × Int32) (n : Nat) : yC C G Fd s (n + 1) = yC C G Fd s n + sumI (fun p => if cameD C G false (hap C (yS C G Fd s n)).1 p = true then 1 else 0) 6 := rfl
theorem yS_ok (hC : C.ok) {s : Row × Int32} (hr : RowOK C s.1) (hi : InkOK C s.1) : ∀ n, RowOK C (yS C G Fd s n).1 ∧ InkOK C (yS C G Fd s n).1 := by
  intro n
  induction n with
  | zero => exact ⟨hr, hi⟩
  | succ n ih =>
    rw [yS_s]
    exact ⟨dayR_ok hC (hap_ok hC ih.1), dayR_ink hC (hap_ink hC ih.2)⟩
noncomputable def valY (C : Cel) (G Fd : List Itm) (r : Row) (a b c : Int32) : Int32 :=
  if c = 0 then yC C G Fd (r, a) (ix b) else if c = 1 then sumI (fun p => (yS C G Fd (r, a) (ix b)).1 (67 + p)) C.P - sumI (fun p => r (67 + p)) C.P else inkN C (yS C G Fd (r, a) (ix b)).1
theorem c_years (hI : INV C G Fd pc k r μ) (a b c : Int32) : CQ (fX10_years 0 a b c μ) μ (codeWN c 3 b) (valY C G Fd r a b c) := by
  have hC := hI.2.1
  have hP := hC.2.1
  have hr := hI.2.2.2.2.2.2.2.2.1
  unfold fX10_years codeWN
  rw [show fX10_needWhat 0 c (3 : Int32) = _ from needW_ok c 3, bs]
  by_cases h2 : okW c 3 = true
  · rw [if_pos h2, if_pos h2]
    simp only
    rw [show fX10_needWithin 0 b (0 : Int32) (60 : Int32) = _ from needN_ok b 0 60, bs]
    by_cases h3 : okR b 0 60 = true
    · rw [if_pos h3, if_pos h3]
      simp only
      obtain ⟨m, _, hm, rfl⟩ := okR_ex (by decide) h3 (by decide)
      obtain ⟨M, e, hM⟩ := hI.beg dk0
      have hGM := hM.1.gr hI.1
      rw [g_0_14 hI.1, bs, hI.cel, bs, g_0_7 hI.1, bs, e, bs, g_0_17 hGM, bs, bs, sI_C]
      have hF0 : FrB LC L2C μ (sC M 487 (up (M.2.1 487) 0 a)) := hM.fq.trans ((FrI.c M _ (by decide : 487 ∈ LC)).b (L2 := L2C) (fun _ h => h) (fun _ h => h))
      have hY0 : CY C G Fd pc k μ (r, a) (sC M 487 (up (M.2.1 487) 0 a)) := ⟨hF0, hM.2.1.gen (L := [487]) (L2 := []) (FrI.c M _ (by decide)) (by decide) (by decide) (by decide) (hM.2.1.2.2.2.2.2.1.c _ (by omega)) (fun _ _ => rfl), by rw [sC_s, up_s]⟩
      obtain ⟨⟨j, N⟩, e2, i1, i2, i3⟩ := loop_k (S := Nat × Mem) (R := Option ((Int32 ⊕ Nat) × Mem))
        (fun n s => fX10_years_40 n 0 (I m) c (I s.1) s.2) (fun s => fX10_years_40 1 0 (I m) c (I m) s.2) m
        (fun j s => s.1 = j ∧ CY C G Fd pc k μ (yS C G Fd (r, a) j) s.2 ∧ sumI (s.2.2.1 466) 6 = yC C G Fd (r, a) j)
        (by
          rintro n j ⟨j', N⟩ hj ⟨i1, i2, i3⟩
          simp only at i1 i2 i3
          subst i1
          obtain ⟨ok1, ok2⟩ := yS_ok (G := G) (Fd := Fd) (s := (r, a)) hC hr.1 hr.2.1 j'
          obtain ⟨ξ, e3, h3, h4⟩ := hap_C hI i2 ok1
          obtain ⟨ζ, e5, p1, p2, _, p4, _⟩ := pass_ok h3.2.1 (hap_ok hC ok1) (hap_ink hC ok2) false (lt := 1) rfl
          show ∃ s', fX10_years_40 (n + 1) 0 (I m) c (I j') N = _ ∧ _
          rw [fX10_years_40, if_pos (show I j' < I m from (I_lt (by omega) (by omega)).mpr hj), e3, bs, g_0_14 (h3.1.gr hI.1), bs, e5, bs, I_addl]
          have hy : CY C G Fd pc k μ (yS C G Fd (r, a) (j' + 1)) ζ := by
            rw [yS_s]
            exact CY.mk (h3.1.trans (p1.b (by decide) (by decide))) p2 (by rw [p1.2.2.1 487 (by decide)]; exact h3.2.2)
          have hc : sumI (ζ.2.1 466) 6 = yC C G Fd (r, a) (j' + 1) := by
            rw [yC_s, ← i3, ← h4, ← sumI_add]
            exact sumI_congr 6 (fun p _ => p4 p)
          exact ⟨(j' + 1, ζ), rfl, rfl, hy, hc⟩)
        (by
          rintro n ⟨j', N⟩ ⟨i1, i2⟩
          simp only at i1
          subst i1
          show fX10_years_40 (n + 1) 0 (I j') c (I j') N = _
          rw [fX10_years_40, fX10_years_40, if_neg (show ¬ I j' < I j' by rw [I_lt (by omega) (by omega)]; omega), if_neg (show ¬ I j' < I j' by rw [I_lt (by omega) (by omega)]; omega)])
        m fuel 0 (0, sC M 487 (up (M.2.1 487) 0 a)) rfl (by unfold fuel; omega) ⟨rfl, hY0, (by
          rw [sC_n _ _ (by decide)]
          exact sumI_0 6 (fun p hp => hM.2.2.2.1 p hp))⟩
      simp only at e2 i1 i2 i3
      have hIN := hI.q i2.1.ag
      have hGN := hIN.1
      have hSN := i2.2.1.2.2.2.2.2.1
      refine ⟨N, i2.1, Or.inl ⟨rfl, ?_⟩⟩
      refine e2.trans ?_
      rw [fX10_years_40, if_neg (show ¬ I m < I m by rw [I_lt (by omega) (by omega)]; omega)]
      unfold valY
      rw [ix_I (by omega)]
      by_cases c0 : c = 0
      · have ec : fX2_comingsOfAll 455 N = some (yC C G Fd (r, a) m) := by
          rw [← i3]
          unfold fX2_comingsOfAll
          refine loop_eq (fun n (s : Int32 × Int32) => fX2_comingsOfAll_4 N n 455 s.1 s.2) 6 (fun j => (sumI (N.2.1 466) j, I j)) _ ?_ ?_ 6 fuel 0 rfl (by unfold fuel; omega)
          · intro n j hj
            show fX2_comingsOfAll_4 N (n + 1) 455 (sumI (N.2.1 466) j) (I j) = fX2_comingsOfAll_4 N n 455 (sumI (N.2.1 466) (j + 1)) (I (j + 1))
            conv => lhs; rw [fX2_comingsOfAll_4]
            rw [if_pos (show I j < (6 : Int32) from (I_ltl (by omega) (by decide)).mpr hj), g_455_4 hGN, bs, ld_466 hj, bs, I_addl, sumI_s]
          · intro n
            show fX2_comingsOfAll_4 N (n + 1) 455 _ (I 6) = _
            rw [fX2_comingsOfAll_4, if_neg (by decide)]
        rw [if_pos c0, if_pos c0, g_0_14 hGN, bs, ec, bs]
      · rw [if_neg c0, if_neg c0]
        by_cases c1 : c = 1
        · rw [if_pos c1, if_pos c1, g_0_14 hGN, bs, g_455_0 hGN, bs, metBy_C hGN hC a456 hSN, bs, g_0_7 hGN, bs, metBy_C hGN hC a33 hIN.2.2.2.2.2.2.2.2.2.1, bs]
        · rw [if_neg c1, if_neg c1, g_0_14 hGN, bs, g_455_0 hGN, bs, inked_C hC hIN.cel hIN.2.2.2.2.2.1.2.2.1 hSN, bs]
    · rw [if_neg h3, if_neg h3]
      exact ⟨μ, FrB.refl _ _ μ, Or.inr (Or.inr ⟨rfl, rfl⟩)⟩
  · rw [if_neg h2, if_neg h2]
    exact ⟨μ, FrB.refl _ _ μ, Or.inr (Or.inl ⟨rfl, rfl⟩)⟩
end Ye
