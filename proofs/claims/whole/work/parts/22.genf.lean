def fL_person (v0 : Nat) (v1 : Int32) (v2 : Int32) (v3 : Nat) (μ : Mem) : Option (Int32 × Mem) :=
  (fX10_person v0 v1 v2 μ).bind fun
  | (.inl r3, μ2) =>
    (stL μ2 v3 (0 : Int32) (r3.toInt64)).bind fun μ6 =>
    some ((0 : Int32), μ6)
  | (.inr i9, μ2) =>
    if i9 = 0 then some ((1 : Int32), μ2) else
    none
set_option maxHeartbeats 4000000 in
theorem tL_person {ω : Wd} {l : Launch} (d : Nat) {v0 : Nat} {v1 : Int32} {v2 : Int32} {v3 : Nat} {μ : Mem} {res : Int32 × Mem} (h : fL_person v0 v1 v2 v3 μ = some res) (hN : μ.1 = NN) (k0 : (kd v0).1 = 20) (k3 : (kd v3).1 = 1) : Ct ω l mL_person (d + 10) [.ref v0, .int v1, .int v2, .ref v3] μ 2 12 (PE (.inl (some (.int res.1))) res.2 True) := by
  refine Ct.of pn_RL (Nat.le_of_ble_eq_true rfl) ?_
  show J ω l mL_person (d + 10) 0 [(0, .ref v0), (1, .int v1), (2, .int v2), (3, .ref v3)] [] μ 2 12 _
  unfold fL_person at h
  refine J.aload_n (pc := 0) dL_person_0 rfl 3 rfl ?_
  refine J.iconst (pc := 1) dL_person_1 ic_0 ?_
  refine J.aload_n (pc := 2) dL_person_2 rfl 0 rfl ?_
  refine J.iload_n (pc := 3) dL_person_3 rfl 1 rfl ?_
  refine J.iload_n (pc := 4) dL_person_4 rfl 2 rfl ?_
  obtain ⟨⟨q, μ2⟩, e1, h⟩ := bnd h
  rcases q with r3 | i9
  · try dsimp only at h
    refine J.callV (Y := mL_person) (Z := mX10_person) (pc := 5) (st := [.int (0 : Int32), .ref v3]) (k2 := 0) (n2 := 0) dL_person_5 ml_RL_24 mo_X10_person mv_X10_person rfl (tX10_person d e1 hN k0) k0 (okN hN k0 (by decide)).1 (okN hN k0 (by decide)).2 cq_10 (by decide) rfl rfl (Nat.le_of_ble_eq_true rfl) (by decide) (by decide) (fun v ν hp => ?_) (fun i ν hp => nrm hp.1)
    obtain ⟨rfl, rfl, hN4, hb5⟩ := QEl hp
    show J _ _ _ _ 8 _ ([.int r3, .int (0 : Int32), .ref v3]) _ _ _ _
    refine J.i2l (pc := 8) dL_person_8 ?_
    obtain ⟨μ6, e7, h⟩ := bnd h
    have hN8 : μ6.1 = NN := stL_N e7 hN4
    refine J.wL (pc := 9) dL_person_9 k3 (okN hN4 k3 (by decide)) e7 ?_
    refine J.goto (pc := 10) (tgt := 17) dL_person_10 (by decide) ?_
    refine J.iconst (pc := 17) dL_person_17 ic_0 ?_
    cases h
    exact J.iret (pc := 18) dL_person_18 rfl ⟨rfl, rfl, hN8, trivial⟩
  · try dsimp only at h
    refine J.callV (Y := mL_person) (Z := mX10_person) (pc := 5) (st := [.int (0 : Int32), .ref v3]) (k2 := 0) (n2 := 0) dL_person_5 ml_RL_24 mo_X10_person mv_X10_person rfl (tX10_person d e1 hN k0) k0 (okN hN k0 (by decide)).1 (okN hN k0 (by decide)).2 cq_10 (by decide) rfl rfl (Nat.le_of_ble_eq_true rfl) (by decide) (by decide) (fun v ν hp => nlm hp.1) (fun i ν hp => ?_)
    obtain ⟨rfl, rfl, hN9, -⟩ := QEr hp
    rcases ifc h with ⟨hc, h⟩ | ⟨hc, h⟩
    · subst hc
      cases h
      exact JX.catch1 (i := 0) (by decide) rfl rfl (Nat.le_of_ble_eq_true rfl) (Nat.le_of_ble_eq_true rfl) (Or.inl ⟨4, Nat.le_of_ble_eq_true rfl, rfl, dL_person_13⟩) dL_person_15 ic_1 dL_person_16 rfl ⟨rfl, rfl, hN9, trivial⟩
    cases h
def fX10_quick_48  (K33 : Nat → Int32 → Int32 → Int32 → Int32 → Mem → Option ((Int32 ⊕ Nat) × Mem)) : Nat → Nat → Int32 → Int32 → Int32 → Int32 → Int32 → Mem → Option ((Int32 ⊕ Nat) × Mem)
  | 0, _, _, _, _, _, _, _ => none
  | n + 1, v0, v1, v2, v3, v4, v5, μ =>
    if (9 : Int32) < v5 then
      K33 v0 v1 v2 v3 (v4 + (1 : Int32)) μ
    else
      (gR μ v0 4 11).bind fun a1 =>
      (gR μ a1 4 0).bind fun a4 =>
      (ldI μ a4 v4).bind fun x7 =>
      if v5 = x7 then
        (fX10_quick_48 K33 n) v0 v1 v2 v3 v4 (v5 + (1 : Int32)) μ
      else
        (fX10_isSeenWith v0 v4 v5 μ).bind fun (r11, μ10) =>
        if r11 = 0 then
          (fX10_quick_48 K33 n) v0 v1 v2 v3 v4 (v5 + (1 : Int32)) μ10
        else
          if v2 = 0 then
            (fX10_quick_48 K33 n) v0 v1 (v2 + (1 : Int32)) (((10 : Int32) * v4) + v5) v4 (v5 + (1 : Int32)) μ10
          else
            (fX10_quick_48 K33 n) v0 v1 (v2 + (1 : Int32)) v3 v4 (v5 + (1 : Int32)) μ10
set_option maxHeartbeats 4000000 in
theorem tX10_quick_48 {ω : Wd} {l : Launch} (d : Nat) {res : (Int32 ⊕ Nat) × Mem} (K33 : Nat → Int32 → Int32 → Int32 → Int32 → Mem → Option ((Int32 ⊕ Nat) × Mem)) (hK33 : ∀ (v0 : Nat) (v1 : Int32) (v2 : Int32) (v3 : Int32) (v4 : Int32) (μ : Mem), K33 v0 v1 v2 v3 v4 μ = some res → μ.1 = NN → (kd v0).1 = 20 → J ω l mX10_quick (d + 9) 33 [(0, .ref v0), (1, .int v1), (2, .int v2), (3, .int v3), (4, .int v4)] [] μ 0 0 (PE (oI res.1) res.2 True)) : ∀ n : Nat, ∀ (v0 : Nat) (v1 : Int32) (v2 : Int32) (v3 : Int32) (v4 : Int32) (v5 : Int32) (μ : Mem), fX10_quick_48 K33 n v0 v1 v2 v3 v4 v5 μ = some res → μ.1 = NN → (kd v0).1 = 20 → J ω l mX10_quick (d + 9) 48 [(0, .ref v0), (1, .int v1), (2, .int v2), (3, .int v3), (4, .int v4), (5, .int v5)] [] μ 0 0 (PE (oI res.1) res.2 True) := by
  intro n
  induction n with
  | zero =>
    intro v0 v1 v2 v3 v4 v5 μ h hN k0
    have h9 : (none : Option ((Int32 ⊕ Nat) × Mem)) = some res := h
    cases h9
  | succ n ih =>
    intro v0 v1 v2 v3 v4 v5 μ h hN k0
    unfold fX10_quick_48 at h
    refine J.iload (pc := 48) dX10_quick_48 5 rfl ?_
    refine J.bipush (pc := 50) dX10_quick_50 ib_9 ?_
    rcases ifc h with ⟨hc, h⟩ | ⟨hc, h⟩
    · refine J.cgt (pc := 52) (tgt := 107) dX10_quick_52 (by decide) (fun _ => ?_) (fun q => absurd hc q)
      refine J.iinc (pc := 107) (j := 4) ([(4, .int (v4 + (1 : Int32))), (0, .ref v0), (1, .int v1), (2, .int v2), (3, .int v3), (5, .int v5)]) dX10_quick_107 rfl (iincv ic_1) (Nat.le_of_ble_eq_true rfl) rfl ?_
      refine J.goto (pc := 110) (tgt := 33) dX10_quick_110 (by decide) ?_
      refine J.pick [1, 2, 3, 4, 0] rfl ?_
      exact hK33 v0 v1 v2 v3 (v4 + (1 : Int32)) μ h hN k0
    · refine J.cgt (pc := 52) (tgt := 107) dX10_quick_52 (by decide) (fun q => absurd q hc) (fun _ => ?_)
      refine J.iload (pc := 55) dX10_quick_55 5 rfl ?_
      refine J.aload_n (pc := 57) dX10_quick_57 rfl 0 rfl ?_
      obtain ⟨a1, e2, h⟩ := bnd h
      have k3 : (kd a1).1 = 11 := gR_k e2
      refine J.fR (pc := 58) dX10_quick_58 fl_RX10_26 k0 (okN hN k0 (by decide)) rfl e2 ?_
      obtain ⟨a4, e5, h⟩ := bnd h
      have k6 : (kd a4).1 = 0 := gR_k e5
      refine J.fR (pc := 61) dX10_quick_61 fl_RX10_217 k3 (okN hN k3 (by decide)) rfl e5 ?_
      refine J.iload (pc := 64) dX10_quick_64 4 rfl ?_
      obtain ⟨x7, e8, h⟩ := bnd h
      refine J.aI (pc := 66) dX10_quick_66 k6 (okN hN k6 (by decide)) e8 ?_
      rcases ifc h with ⟨hc, h⟩ | ⟨hc, h⟩
      · refine J.ceq (pc := 67) (tgt := 101) dX10_quick_67 (by decide) (fun _ => ?_) (fun q => absurd hc q)
        refine J.iinc (pc := 101) (j := 5) ([(5, .int (v5 + (1 : Int32))), (0, .ref v0), (1, .int v1), (2, .int v2), (3, .int v3), (4, .int v4)]) dX10_quick_101 rfl (iincv ic_1) (Nat.le_of_ble_eq_true rfl) rfl ?_
        refine J.goto (pc := 104) (tgt := 48) dX10_quick_104 (by decide) ?_
        refine J.pick [1, 2, 3, 4, 5, 0] rfl ?_
        exact ih v0 v1 v2 v3 v4 (v5 + (1 : Int32)) μ h hN k0
      · refine J.ceq (pc := 67) (tgt := 101) dX10_quick_67 (by decide) (fun q => absurd q hc) (fun _ => ?_)
        refine J.aload_n (pc := 70) dX10_quick_70 rfl 0 rfl ?_
        refine J.iload (pc := 71) dX10_quick_71 4 rfl ?_
        refine J.iload (pc := 73) dX10_quick_73 5 rfl ?_
        obtain ⟨⟨r11, μ10⟩, e9, h⟩ := bnd h
        try dsimp only at h
        refine J.callV (Y := mX10_quick) (Z := mX10_isSeenWith) (pc := 75) (st := []) (k2 := 0) (n2 := 0) dX10_quick_75 ml_RX10_337 mo_X10_isSeenWith mv_X10_isSeenWith rfl (tX10_isSeenWith (d + 3) e9 hN k0) k0 (okN hN k0 (by decide)).1 (okN hN k0 (by decide)).2 cq_10 (by decide) rfl rfl (Nat.le_of_ble_eq_true rfl) (by decide) (by decide) (fun v ν hp => ?_) (fun i ν hp => nrm hp.1)
        obtain ⟨rfl, rfl, hN12, hb13⟩ := QEl hp
        show J _ _ _ _ 78 _ ([.int r11]) _ _ _ _
        rcases ifc h with ⟨hc, h⟩ | ⟨hc, h⟩
        · refine J.zeq (pc := 78) (tgt := 101) dX10_quick_78 (by decide) (fun _ => ?_) (fun q => absurd hc q)
          refine J.iinc (pc := 101) (j := 5) ([(5, .int (v5 + (1 : Int32))), (0, .ref v0), (1, .int v1), (2, .int v2), (3, .int v3), (4, .int v4)]) dX10_quick_101 rfl (iincv ic_1) (Nat.le_of_ble_eq_true rfl) rfl ?_
          refine J.goto (pc := 104) (tgt := 48) dX10_quick_104 (by decide) ?_
          refine J.pick [1, 2, 3, 4, 5, 0] rfl ?_
          exact ih v0 v1 v2 v3 v4 (v5 + (1 : Int32)) μ10 h hN12 k0
        · refine J.zeq (pc := 78) (tgt := 101) dX10_quick_78 (by decide) (fun q => absurd q hc) (fun _ => ?_)
          refine J.iload_n (pc := 81) dX10_quick_81 rfl 2 rfl ?_
          rcases ifc h with ⟨hc, h⟩ | ⟨hc, h⟩
          · refine J.zne (pc := 82) (tgt := 96) dX10_quick_82 (by decide) (fun _ => ?_) (fun q => absurd hc q)
            refine J.bipush (pc := 85) dX10_quick_85 ib_10 ?_
            refine J.iload (pc := 87) dX10_quick_87 4 rfl ?_
            refine J.imul (pc := 89) dX10_quick_89 ?_
            refine J.iload (pc := 90) dX10_quick_90 5 rfl ?_
            refine J.iadd (pc := 92) dX10_quick_92 ?_
            refine J.goto (pc := 93) (tgt := 97) dX10_quick_93 (by decide) ?_
            refine J.istore_n (pc := 97) ([(3, .int (((10 : Int32) * v4) + v5)), (0, .ref v0), (1, .int v1), (2, .int v2), (4, .int v4), (5, .int v5)]) dX10_quick_97 rfl (Nat.le_of_ble_eq_true rfl) rfl ?_
            refine J.iinc (pc := 98) (j := 3) ([(2, .int (v2 + (1 : Int32))), (3, .int (((10 : Int32) * v4) + v5)), (0, .ref v0), (1, .int v1), (4, .int v4), (5, .int v5)]) dX10_quick_98 rfl (iincv ic_1) (Nat.le_of_ble_eq_true rfl) rfl ?_
            refine J.iinc (pc := 101) (j := 5) ([(5, .int (v5 + (1 : Int32))), (2, .int (v2 + (1 : Int32))), (3, .int (((10 : Int32) * v4) + v5)), (0, .ref v0), (1, .int v1), (4, .int v4)]) dX10_quick_101 rfl (iincv ic_1) (Nat.le_of_ble_eq_true rfl) rfl ?_
            refine J.goto (pc := 104) (tgt := 48) dX10_quick_104 (by decide) ?_
            refine J.pick [3, 4, 1, 2, 5, 0] rfl ?_
            exact ih v0 v1 (v2 + (1 : Int32)) (((10 : Int32) * v4) + v5) v4 (v5 + (1 : Int32)) μ10 h hN12 k0
          · refine J.zne (pc := 82) (tgt := 96) dX10_quick_82 (by decide) (fun q => absurd q hc) (fun _ => ?_)
            refine J.iload_n (pc := 96) dX10_quick_96 rfl 3 rfl ?_
            refine J.istore_n (pc := 97) ([(3, .int v3), (0, .ref v0), (1, .int v1), (2, .int v2), (4, .int v4), (5, .int v5)]) dX10_quick_97 rfl (Nat.le_of_ble_eq_true rfl) rfl ?_
            refine J.iinc (pc := 98) (j := 3) ([(2, .int (v2 + (1 : Int32))), (3, .int v3), (0, .ref v0), (1, .int v1), (4, .int v4), (5, .int v5)]) dX10_quick_98 rfl (iincv ic_1) (Nat.le_of_ble_eq_true rfl) rfl ?_
            refine J.iinc (pc := 101) (j := 5) ([(5, .int (v5 + (1 : Int32))), (2, .int (v2 + (1 : Int32))), (3, .int v3), (0, .ref v0), (1, .int v1), (4, .int v4)]) dX10_quick_101 rfl (iincv ic_1) (Nat.le_of_ble_eq_true rfl) rfl ?_
            refine J.goto (pc := 104) (tgt := 48) dX10_quick_104 (by decide) ?_
            refine J.pick [3, 4, 1, 2, 5, 0] rfl ?_
            exact ih v0 v1 (v2 + (1 : Int32)) v3 v4 (v5 + (1 : Int32)) μ10 h hN12 k0
def fX10_quick_33  : Nat → Nat → Int32 → Int32 → Int32 → Int32 → Mem → Option ((Int32 ⊕ Nat) × Mem)
  | 0, _, _, _, _, _, _ => none
  | n + 1, v0, v1, v2, v3, v4, μ =>
    (gR μ v0 4 11).bind fun a1 =>
    if v4 < (μ.2.1 a1 1) then
      (fX10_quick_48 (fX10_quick_33 n) fuel) v0 v1 v2 v3 v4 (0 : Int32) μ
    else
      if v1 = 0 then
        some (.inl v2, μ)
      else
        some (.inl v3, μ)
set_option maxHeartbeats 4000000 in
theorem tX10_quick_33 {ω : Wd} {l : Launch} (d : Nat) {res : (Int32 ⊕ Nat) × Mem} : ∀ n : Nat, ∀ (v0 : Nat) (v1 : Int32) (v2 : Int32) (v3 : Int32) (v4 : Int32) (μ : Mem), fX10_quick_33 n v0 v1 v2 v3 v4 μ = some res → μ.1 = NN → (kd v0).1 = 20 → J ω l mX10_quick (d + 9) 33 [(0, .ref v0), (1, .int v1), (2, .int v2), (3, .int v3), (4, .int v4)] [] μ 0 0 (PE (oI res.1) res.2 True) := by
  intro n
  induction n with
  | zero =>
    intro v0 v1 v2 v3 v4 μ h hN k0
    have h9 : (none : Option ((Int32 ⊕ Nat) × Mem)) = some res := h
    cases h9
  | succ n ih =>
    intro v0 v1 v2 v3 v4 μ h hN k0
    unfold fX10_quick_33 at h
    refine J.iload (pc := 33) dX10_quick_33 4 rfl ?_
    refine J.aload_n (pc := 35) dX10_quick_35 rfl 0 rfl ?_
    obtain ⟨a1, e2, h⟩ := bnd h
    have k3 : (kd a1).1 = 11 := gR_k e2
    refine J.fR (pc := 36) dX10_quick_36 fl_RX10_26 k0 (okN hN k0 (by decide)) rfl e2 ?_
    refine J.fI (pc := 39) dX10_quick_39 fl_RX10_147 k3 (okN hN k3 (by decide)) (Or.inl rfl) ?_
    rcases ifc h with ⟨hc, h⟩ | ⟨hc, h⟩
    · refine J.cge (pc := 42) (tgt := 113) dX10_quick_42 (by decide) (fun _ => ?_) (fun q => absurd hc q)
      refine J.iconst (pc := 45) dX10_quick_45 ic_0 ?_
      refine J.istore (pc := 46) ([(5, .int (0 : Int32)), (0, .ref v0), (1, .int v1), (2, .int v2), (3, .int v3), (4, .int v4)]) dX10_quick_46 (Nat.le_of_ble_eq_true rfl) rfl ?_
      refine J.pick [1, 2, 3, 4, 5, 0] rfl ?_
      exact (tX10_quick_48 d (fX10_quick_33 n) ih fuel) v0 v1 v2 v3 v4 (0 : Int32) μ h hN k0
    · refine J.cge (pc := 42) (tgt := 113) dX10_quick_42 (by decide) (fun q => absurd q hc) (fun _ => ?_)
      refine J.iload_n (pc := 113) dX10_quick_113 rfl 1 rfl ?_
      rcases ifc h with ⟨hc, h⟩ | ⟨hc, h⟩
      · refine J.zne (pc := 114) (tgt := 121) dX10_quick_114 (by decide) (fun _ => ?_) (fun q => absurd hc q)
        refine J.iload_n (pc := 117) dX10_quick_117 rfl 2 rfl ?_
        refine J.goto (pc := 118) (tgt := 122) dX10_quick_118 (by decide) ?_
        cases h
        exact J.iret (pc := 122) dX10_quick_122 rfl ⟨rfl, rfl, hN, trivial⟩
      · refine J.zne (pc := 114) (tgt := 121) dX10_quick_114 (by decide) (fun q => absurd q hc) (fun _ => ?_)
        refine J.iload_n (pc := 121) dX10_quick_121 rfl 3 rfl ?_
        cases h
        exact J.iret (pc := 122) dX10_quick_122 rfl ⟨rfl, rfl, hN, trivial⟩
def fX10_quick (v0 : Nat) (v1 : Int32) (μ : Mem) : Option ((Int32 ⊕ Nat) × Mem) :=
  (fX10_needWhat v0 v1 (3 : Int32)).bind fun
  | .inl _ =>
    if v1 = (2 : Int32) then
      (fX10_isSeenWith v0 (-1 : Int32) (0 : Int32) μ).bind fun (r6, μ5) =>
      if r6 = 0 then
        some (.inl (0 : Int32), μ5)
      else
        some (.inl (1 : Int32), μ5)
    else
      (fX10_quick_33 fuel) v0 v1 (0 : Int32) (-1 : Int32) (0 : Int32) μ
  | .inr i9 =>
    some (.inr i9, μ)
set_option maxHeartbeats 4000000 in
theorem tX10_quick {ω : Wd} {l : Launch} (d : Nat) {v0 : Nat} {v1 : Int32} {μ : Mem} {res : (Int32 ⊕ Nat) × Mem} (h : fX10_quick v0 v1 μ = some res) (hN : μ.1 = NN) (k0 : (kd v0).1 = 20) : Ct ω l mX10_quick (d + 9) [.ref v0, .int v1] μ 1 6 (PE (oI res.1) res.2 True) := by
  refine Ct.of pn_RX10 (Nat.le_of_ble_eq_true rfl) ?_
  show J ω l mX10_quick (d + 9) 0 [(0, .ref v0), (1, .int v1)] [] μ 1 6 _
  unfold fX10_quick at h
  refine J.aload_n (pc := 0) dX10_quick_0 rfl 0 rfl ?_
  refine J.iload_n (pc := 1) dX10_quick_1 rfl 1 rfl ?_
  refine J.iconst (pc := 2) dX10_quick_2 ic_3 ?_
  obtain ⟨q, e1, h⟩ := bnd h
  rcases q with u | i9
  · try dsimp only at h
    refine J.callV (Y := mX10_quick) (Z := mX10_needWhat) (pc := 3) (st := []) (k2 := 0) (n2 := 0) dX10_quick_3 ml_RX10_140 mo_X10_needWhat mv_X10_needWhat rfl (tX10_needWhat d e1 hN k0) k0 (okN hN k0 (by decide)).1 (okN hN k0 (by decide)).2 cq_10 (by decide) rfl rfl (Nat.le_of_ble_eq_true rfl) (by decide) (by decide) (fun v ν hp => ?_) (fun i ν hp => nrm hp.1)
    obtain ⟨rfl, rfl, hN2, hb3⟩ := QEl hp
    show J _ _ _ _ 6 _ ([]) _ _ _ _
    refine J.iload_n (pc := 6) dX10_quick_6 rfl 1 rfl ?_
    refine J.iconst (pc := 7) dX10_quick_7 ic_2 ?_
    rcases ifc h with ⟨hc, h⟩ | ⟨hc, h⟩
    · refine J.cne (pc := 8) (tgt := 26) dX10_quick_8 (by decide) (fun _ => ?_) (fun q => absurd hc q)
      refine J.aload_n (pc := 11) dX10_quick_11 rfl 0 rfl ?_
      refine J.iconst (pc := 12) dX10_quick_12 ic_m1 ?_
      refine J.iconst (pc := 13) dX10_quick_13 ic_0 ?_
      obtain ⟨⟨r6, μ5⟩, e4, h⟩ := bnd h
      try dsimp only at h
      refine J.callV (Y := mX10_quick) (Z := mX10_isSeenWith) (pc := 14) (st := []) (k2 := 0) (n2 := 0) dX10_quick_14 ml_RX10_337 mo_X10_isSeenWith mv_X10_isSeenWith rfl (tX10_isSeenWith (d + 3) e4 hN2 k0) k0 (okN hN2 k0 (by decide)).1 (okN hN2 k0 (by decide)).2 cq_10 (by decide) rfl rfl (Nat.le_of_ble_eq_true rfl) (by decide) (by decide) (fun v ν hp => ?_) (fun i ν hp => nrm hp.1)
      obtain ⟨rfl, rfl, hN7, hb8⟩ := QEl hp
      show J _ _ _ _ 17 _ ([.int r6]) _ _ _ _
      rcases ifc h with ⟨hc, h⟩ | ⟨hc, h⟩
      · refine J.zeq (pc := 17) (tgt := 24) dX10_quick_17 (by decide) (fun _ => ?_) (fun q => absurd hc q)
        refine J.iconst (pc := 24) dX10_quick_24 ic_0 ?_
        cases h
        exact J.iret (pc := 25) dX10_quick_25 rfl ⟨rfl, rfl, hN7, trivial⟩
      · refine J.zeq (pc := 17) (tgt := 24) dX10_quick_17 (by decide) (fun q => absurd q hc) (fun _ => ?_)
        refine J.iconst (pc := 20) dX10_quick_20 ic_1 ?_
        refine J.goto (pc := 21) (tgt := 25) dX10_quick_21 (by decide) ?_
        cases h
        exact J.iret (pc := 25) dX10_quick_25 rfl ⟨rfl, rfl, hN7, trivial⟩
    · refine J.cne (pc := 8) (tgt := 26) dX10_quick_8 (by decide) (fun q => absurd q hc) (fun _ => ?_)
      refine J.iconst (pc := 26) dX10_quick_26 ic_0 ?_
      refine J.istore_n (pc := 27) ([(2, .int (0 : Int32)), (0, .ref v0), (1, .int v1)]) dX10_quick_27 rfl (Nat.le_of_ble_eq_true rfl) rfl ?_
      refine J.iconst (pc := 28) dX10_quick_28 ic_m1 ?_
      refine J.istore_n (pc := 29) ([(3, .int (-1 : Int32)), (2, .int (0 : Int32)), (0, .ref v0), (1, .int v1)]) dX10_quick_29 rfl (Nat.le_of_ble_eq_true rfl) rfl ?_
      refine J.iconst (pc := 30) dX10_quick_30 ic_0 ?_
      refine J.istore (pc := 31) ([(4, .int (0 : Int32)), (3, .int (-1 : Int32)), (2, .int (0 : Int32)), (0, .ref v0), (1, .int v1)]) dX10_quick_31 (Nat.le_of_ble_eq_true rfl) rfl ?_
      refine J.pick [3, 4, 2, 1, 0] rfl ?_
      exact (tX10_quick_33 d fuel) v0 v1 (0 : Int32) (-1 : Int32) (0 : Int32) μ h hN2 k0
  · try dsimp only at h
    refine J.callV (Y := mX10_quick) (Z := mX10_needWhat) (pc := 3) (st := []) (k2 := 0) (n2 := 0) dX10_quick_3 ml_RX10_140 mo_X10_needWhat mv_X10_needWhat rfl (tX10_needWhat d e1 hN k0) k0 (okN hN k0 (by decide)).1 (okN hN k0 (by decide)).2 cq_10 (by decide) rfl rfl (Nat.le_of_ble_eq_true rfl) (by decide) (by decide) (fun v ν hp => nlm hp.1) (fun i ν hp => ?_)
    obtain ⟨rfl, rfl, hN9, -⟩ := QEr hp
    cases h
    exact JX.out rfl ⟨rfl, rfl, hN9, trivial⟩
def fL_quick (v0 : Nat) (v1 : Int32) (v2 : Nat) (μ : Mem) : Option (Int32 × Mem) :=
  (fX10_quick v0 v1 μ).bind fun
  | (.inl r3, μ2) =>
    (stL μ2 v2 (0 : Int32) (r3.toInt64)).bind fun μ6 =>
    some ((0 : Int32), μ6)
  | (.inr i9, μ2) =>
    if i9 = 0 then some ((1 : Int32), μ2) else
    none
set_option maxHeartbeats 4000000 in
theorem tL_quick {ω : Wd} {l : Launch} (d : Nat) {v0 : Nat} {v1 : Int32} {v2 : Nat} {μ : Mem} {res : Int32 × Mem} (h : fL_quick v0 v1 v2 μ = some res) (hN : μ.1 = NN) (k0 : (kd v0).1 = 20) (k2 : (kd v2).1 = 1) : Ct ω l mL_quick (d + 10) [.ref v0, .int v1, .ref v2] μ 1 6 (PE (.inl (some (.int res.1))) res.2 True) := by
  refine Ct.of pn_RL (Nat.le_of_ble_eq_true rfl) ?_
  show J ω l mL_quick (d + 10) 0 [(0, .ref v0), (1, .int v1), (2, .ref v2)] [] μ 1 6 _
  unfold fL_quick at h
  refine J.aload_n (pc := 0) dL_quick_0 rfl 2 rfl ?_
  refine J.iconst (pc := 1) dL_quick_1 ic_0 ?_
  refine J.aload_n (pc := 2) dL_quick_2 rfl 0 rfl ?_
  refine J.iload_n (pc := 3) dL_quick_3 rfl 1 rfl ?_
  obtain ⟨⟨q, μ2⟩, e1, h⟩ := bnd h
  rcases q with r3 | i9
  · try dsimp only at h
    refine J.callV (Y := mL_quick) (Z := mX10_quick) (pc := 4) (st := [.int (0 : Int32), .ref v2]) (k2 := 0) (n2 := 0) dL_quick_4 ml_RL_80 mo_X10_quick mv_X10_quick rfl (tX10_quick d e1 hN k0) k0 (okN hN k0 (by decide)).1 (okN hN k0 (by decide)).2 cq_10 (by decide) rfl rfl (Nat.le_of_ble_eq_true rfl) (by decide) (by decide) (fun v ν hp => ?_) (fun i ν hp => nrm hp.1)
    obtain ⟨rfl, rfl, hN4, hb5⟩ := QEl hp
    show J _ _ _ _ 7 _ ([.int r3, .int (0 : Int32), .ref v2]) _ _ _ _
    refine J.i2l (pc := 7) dL_quick_7 ?_
    obtain ⟨μ6, e7, h⟩ := bnd h
    have hN8 : μ6.1 = NN := stL_N e7 hN4
    refine J.wL (pc := 8) dL_quick_8 k2 (okN hN4 k2 (by decide)) e7 ?_
    refine J.goto (pc := 9) (tgt := 15) dL_quick_9 (by decide) ?_
    refine J.iconst (pc := 15) dL_quick_15 ic_0 ?_
    cases h
    exact J.iret (pc := 16) dL_quick_16 rfl ⟨rfl, rfl, hN8, trivial⟩
  · try dsimp only at h
    refine J.callV (Y := mL_quick) (Z := mX10_quick) (pc := 4) (st := [.int (0 : Int32), .ref v2]) (k2 := 0) (n2 := 0) dL_quick_4 ml_RL_80 mo_X10_quick mv_X10_quick rfl (tX10_quick d e1 hN k0) k0 (okN hN k0 (by decide)).1 (okN hN k0 (by decide)).2 cq_10 (by decide) rfl rfl (Nat.le_of_ble_eq_true rfl) (by decide) (by decide) (fun v ν hp => nlm hp.1) (fun i ν hp => ?_)
    obtain ⟨rfl, rfl, hN9, -⟩ := QEr hp
    rcases ifc h with ⟨hc, h⟩ | ⟨hc, h⟩
    · subst hc
      cases h
      exact JX.catch1 (i := 0) (by decide) rfl rfl (Nat.le_of_ble_eq_true rfl) (Nat.le_of_ble_eq_true rfl) (Or.inr ⟨3, Nat.le_of_ble_eq_true rfl, rfl, dL_quick_12⟩) dL_quick_13 ic_1 dL_quick_14 rfl ⟨rfl, rfl, hN9, trivial⟩
    cases h
def fX10_reached (v0 : Nat) (v1 : Int32) (v2 : Int32) (μ : Mem) : Option ((Int32 ⊕ Nat) × Mem) :=
  (fX10_inside v0 v1 μ).bind fun
  | .inl r2 =>
    (fX10_needDeed v0 v2 μ).bind fun
    | .inl _ =>
      (fX10_here v0 μ).bind fun (a10, μ9) =>
      (gR μ9 v0 15 15).bind fun a13 =>
      (gR μ9 v0 15 15).bind fun a19 =>
      (fX5_flood a13 (fX10_bit r2) (μ9.2.2.1 a19 1) μ9).bind fun r23 =>
      some (.inl (fX10_bitsOfDeed r23 v2), μ9)
    | .inr i29 =>
      some (.inr i29, μ)
  | .inr i30 =>
    some (.inr i30, μ)
set_option maxHeartbeats 4000000 in
theorem tX10_reached {ω : Wd} {l : Launch} (d : Nat) {v0 : Nat} {v1 : Int32} {v2 : Int32} {μ : Mem} {res : (Int32 ⊕ Nat) × Mem} (h : fX10_reached v0 v1 v2 μ = some res) (hN : μ.1 = NN) (k0 : (kd v0).1 = 20) : Ct ω l mX10_reached (d + 9) [.ref v0, .int v1, .int v2] μ 2 12 (PE (oI res.1) res.2 True) := by
  refine Ct.of pn_RX10 (Nat.le_of_ble_eq_true rfl) ?_
  show J ω l mX10_reached (d + 9) 0 [(0, .ref v0), (1, .int v1), (2, .int v2)] [] μ 2 12 _
  unfold fX10_reached at h
  refine J.aload_n (pc := 0) dX10_reached_0 rfl 0 rfl ?_
  refine J.iload_n (pc := 1) dX10_reached_1 rfl 1 rfl ?_
  obtain ⟨q, e1, h⟩ := bnd h
  rcases q with r2 | i30
  · try dsimp only at h
    refine J.callV (Y := mX10_reached) (Z := mX10_inside) (pc := 2) (st := []) (k2 := 1) (n2 := 6) dX10_reached_2 ml_RX10_233 mo_X10_inside mv_X10_inside rfl (tX10_inside d e1 hN k0) k0 (okN hN k0 (by decide)).1 (okN hN k0 (by decide)).2 cq_10 (by decide) rfl rfl (Nat.le_of_ble_eq_true rfl) (by decide) (by decide) (fun v ν hp => ?_) (fun i ν hp => nrm hp.1)
    obtain ⟨rfl, rfl, hN3, hb4⟩ := QEl hp
    show J _ _ _ _ 5 _ ([.int r2]) _ _ _ _
    refine J.istore_n (pc := 5) ([(3, .int r2), (0, .ref v0), (1, .int v1), (2, .int v2)]) dX10_reached_5 rfl (Nat.le_of_ble_eq_true rfl) rfl ?_
    refine J.aload_n (pc := 6) dX10_reached_6 rfl 1 rfl ?_
    refine J.iload_n (pc := 7) dX10_reached_7 rfl 3 rfl ?_
    obtain ⟨q, e5, h⟩ := bnd h
    rcases q with u | i29
    · try dsimp only at h
      refine J.callV (Y := mX10_reached) (Z := mX10_needDeed) (pc := 8) (st := []) (k2 := 0) (n2 := 0) dX10_reached_8 ml_RX10_185 mo_X10_needDeed mv_X10_needDeed rfl (tX10_needDeed d e5 hN3 k0) k0 (okN hN3 k0 (by decide)).1 (okN hN3 k0 (by decide)).2 cq_10 (by decide) rfl rfl (Nat.le_of_ble_eq_true rfl) (by decide) (by decide) (fun v ν hp => ?_) (fun i ν hp => nrm hp.1)
      obtain ⟨rfl, rfl, hN6, hb7⟩ := QEl hp
      show J _ _ _ _ 11 _ ([]) _ _ _ _
      refine J.aload_n (pc := 11) dX10_reached_11 rfl 1 rfl ?_
      obtain ⟨⟨a10, μ9⟩, e8, h⟩ := bnd h
      try dsimp only at h
      refine J.callV (Y := mX10_reached) (Z := mX10_here) (pc := 12) (st := []) (k2 := 0) (n2 := 0) dX10_reached_12 ml_RX10_153 mo_X10_here mv_X10_here rfl (tX10_here (d + 7) e8 hN6 k0) k0 (okN hN6 k0 (by decide)).1 (okN hN6 k0 (by decide)).2 cq_10 (by decide) rfl rfl (Nat.le_of_ble_eq_true rfl) (by decide) (by decide) (fun v ν hp => ?_) (fun i ν hp => nrm hp.1)
      obtain ⟨rfl, rfl, hN11, hb12⟩ := QEl hp
      show J _ _ _ _ 15 _ ([.ref a10]) _ _ _ _
      refine J.pop (pc := 15) dX10_reached_15 rfl ?_
      refine J.aload_n (pc := 16) dX10_reached_16 rfl 1 rfl ?_
      obtain ⟨a13, e14, h⟩ := bnd h
      have k15 : (kd a13).1 = 15 := gR_k e14
      refine J.fR (pc := 17) dX10_reached_17 fl_RX10_86 k0 (okN hN11 k0 (by decide)) rfl e14 ?_
      refine J.iload_n (pc := 20) dX10_reached_20 rfl 0 rfl ?_
      refine J.callS (Y := mX10_reached) (Z := mX10_bit) (pc := 21) (st := [.ref a13]) (k2 := 0) (n2 := 0) dX10_reached_21 ml_RX10_248 mo_X10_bit ms_X10_bit rfl (tX10_bit (d + 8) r2 μ9 hN11 ) rfl rfl (Nat.le_of_ble_eq_true rfl) (by decide) (by decide) (fun v ν hp => ?_) (fun i ν hp => nrm hp.1)
      obtain ⟨rfl, rfl, hN17, hb18⟩ := QEl hp
      show J _ _ _ _ 24 _ ([.long (fX10_bit r2), .ref a13]) _ _ _ _
      refine J.aload_n (pc := 24) dX10_reached_24 rfl 1 rfl ?_
      obtain ⟨a19, e20, h⟩ := bnd h
      have k21 : (kd a19).1 = 15 := gR_k e20
      refine J.fR (pc := 25) dX10_reached_25 fl_RX10_86 k0 (okN hN17 k0 (by decide)) rfl e20 ?_
      refine J.fL (pc := 28) dX10_reached_28 fl_RX10_299 k21 (okN hN17 k21 (by decide)) rfl ?_
      obtain ⟨r23, e22, h⟩ := bnd h
      refine J.callV (Y := mX10_reached) (Z := mX5_flood) (pc := 31) (st := []) (k2 := 0) (n2 := 0) dX10_reached_31 ml_RX10_300 mo_X5_flood mv_X5_flood rfl (tX5_flood (d + 7) e22 hN17 k15) k15 (okN hN17 k15 (by decide)).1 (okN hN17 k15 (by decide)).2 cq_5 (by decide) rfl rfl (Nat.le_of_ble_eq_true rfl) (by decide) (by decide) (fun v ν hp => ?_) (fun i ν hp => nrm hp.1)
      obtain ⟨rfl, rfl, hN24, hb25⟩ := QEl hp
      show J _ _ _ _ 34 _ ([.long r23]) _ _ _ _
      refine J.iload_n (pc := 34) dX10_reached_34 rfl 3 rfl ?_
      refine J.callS (Y := mX10_reached) (Z := mX10_bitsOfDeed) (pc := 35) (st := []) (k2 := 0) (n2 := 0) dX10_reached_35 ml_RX10_194 mo_X10_bitsOfDeed ms_X10_bitsOfDeed rfl (tX10_bitsOfDeed (d + 8) r23 v2 μ9 hN24 ) rfl rfl (Nat.le_of_ble_eq_true rfl) (by decide) (by decide) (fun v ν hp => ?_) (fun i ν hp => nrm hp.1)
      obtain ⟨rfl, rfl, hN27, hb28⟩ := QEl hp
      show J _ _ _ _ 38 _ ([.int (fX10_bitsOfDeed r23 v2)]) _ _ _ _
      cases h
      exact J.iret (pc := 38) dX10_reached_38 rfl ⟨rfl, rfl, hN27, trivial⟩
    · try dsimp only at h
      refine J.callV (Y := mX10_reached) (Z := mX10_needDeed) (pc := 8) (st := []) (k2 := 0) (n2 := 0) dX10_reached_8 ml_RX10_185 mo_X10_needDeed mv_X10_needDeed rfl (tX10_needDeed d e5 hN3 k0) k0 (okN hN3 k0 (by decide)).1 (okN hN3 k0 (by decide)).2 cq_10 (by decide) rfl rfl (Nat.le_of_ble_eq_true rfl) (by decide) (by decide) (fun v ν hp => nlm hp.1) (fun i ν hp => ?_)
      obtain ⟨rfl, rfl, hN9, -⟩ := QEr hp
      cases h
      exact JX.out rfl ⟨rfl, rfl, hN9, trivial⟩
  · try dsimp only at h
    refine J.callV (Y := mX10_reached) (Z := mX10_inside) (pc := 2) (st := []) (k2 := 1) (n2 := 6) dX10_reached_2 ml_RX10_233 mo_X10_inside mv_X10_inside rfl (tX10_inside d e1 hN k0) k0 (okN hN k0 (by decide)).1 (okN hN k0 (by decide)).2 cq_10 (by decide) rfl rfl (Nat.le_of_ble_eq_true rfl) (by decide) (by decide) (fun v ν hp => nlm hp.1) (fun i ν hp => ?_)
    obtain ⟨rfl, rfl, hN9, -⟩ := QEr hp
    cases h
    exact JX.out rfl ⟨rfl, rfl, hN9, trivial⟩
def fL_reached (v0 : Nat) (v1 : Int32) (v2 : Int32) (v3 : Nat) (μ : Mem) : Option (Int32 × Mem) :=
  (fX10_reached v0 v1 v2 μ).bind fun
  | (.inl r3, μ2) =>
    (stL μ2 v3 (0 : Int32) (r3.toInt64)).bind fun μ6 =>
    some ((0 : Int32), μ6)
  | (.inr i9, μ2) =>
    if i9 = 0 then some ((1 : Int32), μ2) else
    none
set_option maxHeartbeats 4000000 in
theorem tL_reached {ω : Wd} {l : Launch} (d : Nat) {v0 : Nat} {v1 : Int32} {v2 : Int32} {v3 : Nat} {μ : Mem} {res : Int32 × Mem} (h : fL_reached v0 v1 v2 v3 μ = some res) (hN : μ.1 = NN) (k0 : (kd v0).1 = 20) (k3 : (kd v3).1 = 1) : Ct ω l mL_reached (d + 10) [.ref v0, .int v1, .int v2, .ref v3] μ 2 12 (PE (.inl (some (.int res.1))) res.2 True) := by
  refine Ct.of pn_RL (Nat.le_of_ble_eq_true rfl) ?_
  show J ω l mL_reached (d + 10) 0 [(0, .ref v0), (1, .int v1), (2, .int v2), (3, .ref v3)] [] μ 2 12 _
  unfold fL_reached at h
  refine J.aload_n (pc := 0) dL_reached_0 rfl 3 rfl ?_
  refine J.iconst (pc := 1) dL_reached_1 ic_0 ?_
  refine J.aload_n (pc := 2) dL_reached_2 rfl 0 rfl ?_
  refine J.iload_n (pc := 3) dL_reached_3 rfl 1 rfl ?_
  refine J.iload_n (pc := 4) dL_reached_4 rfl 2 rfl ?_
  obtain ⟨⟨q, μ2⟩, e1, h⟩ := bnd h
  rcases q with r3 | i9
  · try dsimp only at h
    refine J.callV (Y := mL_reached) (Z := mX10_reached) (pc := 5) (st := [.int (0 : Int32), .ref v3]) (k2 := 0) (n2 := 0) dL_reached_5 ml_RL_62 mo_X10_reached mv_X10_reached rfl (tX10_reached d e1 hN k0) k0 (okN hN k0 (by decide)).1 (okN hN k0 (by decide)).2 cq_10 (by decide) rfl rfl (Nat.le_of_ble_eq_true rfl) (by decide) (by decide) (fun v ν hp => ?_) (fun i ν hp => nrm hp.1)
    obtain ⟨rfl, rfl, hN4, hb5⟩ := QEl hp
    show J _ _ _ _ 8 _ ([.int r3, .int (0 : Int32), .ref v3]) _ _ _ _
    refine J.i2l (pc := 8) dL_reached_8 ?_
    obtain ⟨μ6, e7, h⟩ := bnd h
    have hN8 : μ6.1 = NN := stL_N e7 hN4
    refine J.wL (pc := 9) dL_reached_9 k3 (okN hN4 k3 (by decide)) e7 ?_
    refine J.goto (pc := 10) (tgt := 17) dL_reached_10 (by decide) ?_
    refine J.iconst (pc := 17) dL_reached_17 ic_0 ?_
    cases h
    exact J.iret (pc := 18) dL_reached_18 rfl ⟨rfl, rfl, hN8, trivial⟩
  · try dsimp only at h
    refine J.callV (Y := mL_reached) (Z := mX10_reached) (pc := 5) (st := [.int (0 : Int32), .ref v3]) (k2 := 0) (n2 := 0) dL_reached_5 ml_RL_62 mo_X10_reached mv_X10_reached rfl (tX10_reached d e1 hN k0) k0 (okN hN k0 (by decide)).1 (okN hN k0 (by decide)).2 cq_10 (by decide) rfl rfl (Nat.le_of_ble_eq_true rfl) (by decide) (by decide) (fun v ν hp => nlm hp.1) (fun i ν hp => ?_)
    obtain ⟨rfl, rfl, hN9, -⟩ := QEr hp
    rcases ifc h with ⟨hc, h⟩ | ⟨hc, h⟩
    · subst hc
      cases h
      exact JX.catch1 (i := 0) (by decide) rfl rfl (Nat.le_of_ble_eq_true rfl) (Nat.le_of_ble_eq_true rfl) (Or.inl ⟨4, Nat.le_of_ble_eq_true rfl, rfl, dL_reached_13⟩) dL_reached_15 ic_1 dL_reached_16 rfl ⟨rfl, rfl, hN9, trivial⟩
    cases h
def fX8_keep (v0 : Nat) (v1 : Int32) (v2 : Int32) (v3 : Int32) (μ : Mem) : Option (Mem) :=
  if (μ.2.1 v0 0) < (8 : Int32) then
    (gR μ v0 1 0).bind fun a1 =>
    (stI μ a1 (μ.2.1 v0 0) v1).bind fun μ4 =>
    (gR μ4 v0 2 0).bind fun a7 =>
    (stI μ4 a7 (μ4.2.1 v0 0) v2).bind fun μ10 =>
    (gR μ10 v0 3 0).bind fun a13 =>
    (stI μ10 a13 (μ10.2.1 v0 0) v3).bind fun μ16 =>
    (some (sI μ16 v0 0 ((μ16.2.1 v0 0) + (1 : Int32)))).bind fun μ19 =>
    some μ19
  else
    some μ
set_option maxHeartbeats 4000000 in
theorem tX8_keep {ω : Wd} {l : Launch} (d : Nat) {v0 : Nat} {v1 : Int32} {v2 : Int32} {v3 : Int32} {μ : Mem} {res : Mem} (h : fX8_keep v0 v1 v2 v3 μ = some res) (hN : μ.1 = NN) (k0 : (kd v0).1 = 18) : Ct ω l mX8_keep d [.ref v0, .int v1, .int v2, .int v3] μ 0 0 (PE (.inl none) res True) := by
  refine Ct.of pn_RX8 (Nat.le_of_ble_eq_true rfl) ?_
  show J ω l mX8_keep d 0 [(0, .ref v0), (1, .int v1), (2, .int v2), (3, .int v3)] [] μ 0 0 _
  unfold fX8_keep at h
  refine J.aload_n (pc := 0) dX8_keep_0 rfl 0 rfl ?_
  refine J.fI (pc := 1) dX8_keep_1 fl_RX8_9 k0 (okN hN k0 (by decide)) (Or.inl rfl) ?_
  refine J.bipush (pc := 4) dX8_keep_4 ib_8 ?_
  rcases ifc h with ⟨hc, h⟩ | ⟨hc, h⟩
  · refine J.cge (pc := 6) (tgt := 49) dX8_keep_6 (by decide) (fun _ => ?_) (fun q => absurd hc q)
    refine J.aload_n (pc := 9) dX8_keep_9 rfl 0 rfl ?_
    obtain ⟨a1, e2, h⟩ := bnd h
    have k3 : (kd a1).1 = 0 := gR_k e2
    refine J.fR (pc := 10) dX8_keep_10 fl_RX8_15 k0 (okN hN k0 (by decide)) rfl e2 ?_
    refine J.aload_n (pc := 13) dX8_keep_13 rfl 0 rfl ?_
    refine J.fI (pc := 14) dX8_keep_14 fl_RX8_9 k0 (okN hN k0 (by decide)) (Or.inl rfl) ?_
    refine J.iload_n (pc := 17) dX8_keep_17 rfl 1 rfl ?_
    obtain ⟨μ4, e5, h⟩ := bnd h
    have hN6 : μ4.1 = NN := stI_N e5 hN
    refine J.wI (pc := 18) dX8_keep_18 k3 (okN hN k3 (by decide)) e5 ?_
    refine J.aload_n (pc := 19) dX8_keep_19 rfl 0 rfl ?_
    obtain ⟨a7, e8, h⟩ := bnd h
    have k9 : (kd a7).1 = 0 := gR_k e8
    refine J.fR (pc := 20) dX8_keep_20 fl_RX8_19 k0 (okN hN6 k0 (by decide)) rfl e8 ?_
    refine J.aload_n (pc := 23) dX8_keep_23 rfl 0 rfl ?_
    refine J.fI (pc := 24) dX8_keep_24 fl_RX8_9 k0 (okN hN6 k0 (by decide)) (Or.inl rfl) ?_
    refine J.iload_n (pc := 27) dX8_keep_27 rfl 2 rfl ?_
    obtain ⟨μ10, e11, h⟩ := bnd h
    have hN12 : μ10.1 = NN := stI_N e11 hN6
    refine J.wI (pc := 28) dX8_keep_28 k9 (okN hN6 k9 (by decide)) e11 ?_
    refine J.aload_n (pc := 29) dX8_keep_29 rfl 0 rfl ?_
    obtain ⟨a13, e14, h⟩ := bnd h
    have k15 : (kd a13).1 = 0 := gR_k e14
    refine J.fR (pc := 30) dX8_keep_30 fl_RX8_22 k0 (okN hN12 k0 (by decide)) rfl e14 ?_
    refine J.aload_n (pc := 33) dX8_keep_33 rfl 0 rfl ?_
    refine J.fI (pc := 34) dX8_keep_34 fl_RX8_9 k0 (okN hN12 k0 (by decide)) (Or.inl rfl) ?_
    refine J.iload_n (pc := 37) dX8_keep_37 rfl 3 rfl ?_
    obtain ⟨μ16, e17, h⟩ := bnd h
    have hN18 : μ16.1 = NN := stI_N e17 hN12
    refine J.wI (pc := 38) dX8_keep_38 k15 (okN hN12 k15 (by decide)) e17 ?_
    refine J.aload_n (pc := 39) dX8_keep_39 rfl 0 rfl ?_
    refine J.dup (pc := 40) dX8_keep_40 rfl ?_
    refine J.fI (pc := 41) dX8_keep_41 fl_RX8_9 k0 (okN hN18 k0 (by decide)) (Or.inl rfl) ?_
    refine J.iconst (pc := 44) dX8_keep_44 ic_1 ?_
    refine J.iadd (pc := 45) dX8_keep_45 ?_
    obtain ⟨μ19, e20, h⟩ := bnd h
    have hN21 : μ19.1 = NN := smN e20 hN18
    refine J.qI (pc := 46) dX8_keep_46 fl_RX8_9 k0 (okN hN18 k0 (by decide)) rfl rfl e20 ?_
    cases h
    exact J.vret (pc := 49) dX8_keep_49 rfl ⟨rfl, rfl, hN21, trivial⟩
  · refine J.cge (pc := 6) (tgt := 49) dX8_keep_6 (by decide) (fun q => absurd q hc) (fun _ => ?_)
    cases h
    exact J.vret (pc := 49) dX8_keep_49 rfl ⟨rfl, rfl, hN, trivial⟩
def fX10_see (v0 : Nat) (v1 : Int32) (v2 : Int32) (v3 : Int32) (μ : Mem) : Option ((Int32 ⊕ Nat) × Mem) :=
  (fX10_needPerson v0 v1 μ).bind fun
  | .inl _ =>
    (fX10_needDeed v0 v2 μ).bind fun
    | .inl _ =>
      (gR μ v0 9 18).bind fun a7 =>
      if (μ.2.1 a7 0) < (8 : Int32) then
        if v3 < 0 then
          (gR μ v0 3 0).bind fun a10 =>
          (ldI μ a10 (2 : Int32)).bind fun x13 =>
          (stI μ a10 (2 : Int32) (x13 + (1 : Int32))).bind fun μ15 =>
          some (.inl (-1 : Int32), μ15)
        else
          if (20 : Int32) < v3 then
            (gR μ v0 3 0).bind fun a18 =>
            (ldI μ a18 (2 : Int32)).bind fun x21 =>
            (stI μ a18 (2 : Int32) (x21 + (1 : Int32))).bind fun μ23 =>
            some (.inl (-1 : Int32), μ23)
          else
            (gR μ v0 9 18).bind fun a26 =>
            (fX8_keep a26 v1 v2 v3 μ).bind fun μ30 =>
            (gR μ30 v0 9 18).bind fun a33 =>
            some (.inl (μ30.2.1 a33 0), μ30)
      else
        (gR μ v0 3 0).bind fun a36 =>
        (ldI μ a36 (2 : Int32)).bind fun x39 =>
        (stI μ a36 (2 : Int32) (x39 + (1 : Int32))).bind fun μ41 =>
        some (.inl (-1 : Int32), μ41)
    | .inr i44 =>
      some (.inr i44, μ)
  | .inr i45 =>
    some (.inr i45, μ)
set_option maxHeartbeats 4000000 in
theorem tX10_see {ω : Wd} {l : Launch} (d : Nat) {v0 : Nat} {v1 : Int32} {v2 : Int32} {v3 : Int32} {μ : Mem} {res : (Int32 ⊕ Nat) × Mem} (h : fX10_see v0 v1 v2 v3 μ = some res) (hN : μ.1 = NN) (k0 : (kd v0).1 = 20) : Ct ω l mX10_see (d + 9) [.ref v0, .int v1, .int v2, .int v3] μ 2 12 (PE (oI res.1) res.2 True) := by
  refine Ct.of pn_RX10 (Nat.le_of_ble_eq_true rfl) ?_
  show J ω l mX10_see (d + 9) 0 [(0, .ref v0), (1, .int v1), (2, .int v2), (3, .int v3)] [] μ 2 12 _
  unfold fX10_see at h
  refine J.aload_n (pc := 0) dX10_see_0 rfl 0 rfl ?_
  refine J.iload_n (pc := 1) dX10_see_1 rfl 1 rfl ?_
  obtain ⟨q, e1, h⟩ := bnd h
  rcases q with u | i45
  · try dsimp only at h
    refine J.callV (Y := mX10_see) (Z := mX10_needPerson) (pc := 2) (st := []) (k2 := 1) (n2 := 6) dX10_see_2 ml_RX10_211 mo_X10_needPerson mv_X10_needPerson rfl (tX10_needPerson d e1 hN k0) k0 (okN hN k0 (by decide)).1 (okN hN k0 (by decide)).2 cq_10 (by decide) rfl rfl (Nat.le_of_ble_eq_true rfl) (by decide) (by decide) (fun v ν hp => ?_) (fun i ν hp => nrm hp.1)
    obtain ⟨rfl, rfl, hN2, hb3⟩ := QEl hp
    show J _ _ _ _ 5 _ ([]) _ _ _ _
    refine J.aload_n (pc := 5) dX10_see_5 rfl 0 rfl ?_
    refine J.iload_n (pc := 6) dX10_see_6 rfl 2 rfl ?_
    obtain ⟨q, e4, h⟩ := bnd h
    rcases q with u | i44
    · try dsimp only at h
      refine J.callV (Y := mX10_see) (Z := mX10_needDeed) (pc := 7) (st := []) (k2 := 0) (n2 := 0) dX10_see_7 ml_RX10_185 mo_X10_needDeed mv_X10_needDeed rfl (tX10_needDeed d e4 hN2 k0) k0 (okN hN2 k0 (by decide)).1 (okN hN2 k0 (by decide)).2 cq_10 (by decide) rfl rfl (Nat.le_of_ble_eq_true rfl) (by decide) (by decide) (fun v ν hp => ?_) (fun i ν hp => nrm hp.1)
      obtain ⟨rfl, rfl, hN5, hb6⟩ := QEl hp
      show J _ _ _ _ 10 _ ([]) _ _ _ _
      refine J.aload_n (pc := 10) dX10_see_10 rfl 0 rfl ?_
      obtain ⟨a7, e8, h⟩ := bnd h
      have k9 : (kd a7).1 = 18 := gR_k e8
      refine J.fR (pc := 11) dX10_see_11 fl_RX10_59 k0 (okN hN5 k0 (by decide)) rfl e8 ?_
      refine J.fI (pc := 14) dX10_see_14 fl_RX10_184 k9 (okN hN5 k9 (by decide)) (Or.inl rfl) ?_
      refine J.bipush (pc := 17) dX10_see_17 ib_8 ?_
      rcases ifc h with ⟨hc, h⟩ | ⟨hc, h⟩
      · refine J.cge (pc := 19) (tgt := 32) dX10_see_19 (by decide) (fun _ => ?_) (fun q => absurd hc q)
        refine J.iload_n (pc := 22) dX10_see_22 rfl 3 rfl ?_
        rcases ifc h with ⟨hc, h⟩ | ⟨hc, h⟩
        · refine J.zlt (pc := 23) (tgt := 32) dX10_see_23 (by decide) (fun _ => ?_) (fun q => absurd hc q)
          refine J.aload_n (pc := 32) dX10_see_32 rfl 0 rfl ?_
          obtain ⟨a10, e11, h⟩ := bnd h
          have k12 : (kd a10).1 = 0 := gR_k e11
          refine J.fR (pc := 33) dX10_see_33 fl_RX10_20 k0 (okN hN5 k0 (by decide)) rfl e11 ?_
          refine J.iconst (pc := 36) dX10_see_36 ic_2 ?_
          refine J.dup2 (pc := 37) dX10_see_37 rfl rfl ?_
          obtain ⟨x13, e14, h⟩ := bnd h
          refine J.aI (pc := 38) dX10_see_38 k12 (okN hN5 k12 (by decide)) e14 ?_
          refine J.iconst (pc := 39) dX10_see_39 ic_1 ?_
          refine J.iadd (pc := 40) dX10_see_40 ?_
          obtain ⟨μ15, e16, h⟩ := bnd h
          have hN17 : μ15.1 = NN := stI_N e16 hN5
          refine J.wI (pc := 41) dX10_see_41 k12 (okN hN5 k12 (by decide)) e16 ?_
          refine J.iconst (pc := 42) dX10_see_42 ic_m1 ?_
          cases h
          exact J.iret (pc := 43) dX10_see_43 rfl ⟨rfl, rfl, hN17, trivial⟩
        · refine J.zlt (pc := 23) (tgt := 32) dX10_see_23 (by decide) (fun q => absurd q hc) (fun _ => ?_)
          refine J.iload_n (pc := 26) dX10_see_26 rfl 3 rfl ?_
          refine J.bipush (pc := 27) dX10_see_27 ib_20 ?_
          rcases ifc h with ⟨hc, h⟩ | ⟨hc, h⟩
          · refine J.cle (pc := 29) (tgt := 44) dX10_see_29 (by decide) (fun _ => ?_) (fun q => absurd hc q)
            refine J.aload_n (pc := 32) dX10_see_32 rfl 0 rfl ?_
            obtain ⟨a18, e19, h⟩ := bnd h
            have k20 : (kd a18).1 = 0 := gR_k e19
            refine J.fR (pc := 33) dX10_see_33 fl_RX10_20 k0 (okN hN5 k0 (by decide)) rfl e19 ?_
            refine J.iconst (pc := 36) dX10_see_36 ic_2 ?_
            refine J.dup2 (pc := 37) dX10_see_37 rfl rfl ?_
            obtain ⟨x21, e22, h⟩ := bnd h
            refine J.aI (pc := 38) dX10_see_38 k20 (okN hN5 k20 (by decide)) e22 ?_
            refine J.iconst (pc := 39) dX10_see_39 ic_1 ?_
            refine J.iadd (pc := 40) dX10_see_40 ?_
            obtain ⟨μ23, e24, h⟩ := bnd h
            have hN25 : μ23.1 = NN := stI_N e24 hN5
            refine J.wI (pc := 41) dX10_see_41 k20 (okN hN5 k20 (by decide)) e24 ?_
            refine J.iconst (pc := 42) dX10_see_42 ic_m1 ?_
            cases h
            exact J.iret (pc := 43) dX10_see_43 rfl ⟨rfl, rfl, hN25, trivial⟩
          · refine J.cle (pc := 29) (tgt := 44) dX10_see_29 (by decide) (fun q => absurd q hc) (fun _ => ?_)
            refine J.aload_n (pc := 44) dX10_see_44 rfl 0 rfl ?_
            obtain ⟨a26, e27, h⟩ := bnd h
            have k28 : (kd a26).1 = 18 := gR_k e27
            refine J.fR (pc := 45) dX10_see_45 fl_RX10_59 k0 (okN hN5 k0 (by decide)) rfl e27 ?_
            refine J.iload_n (pc := 48) dX10_see_48 rfl 1 rfl ?_
            refine J.iload_n (pc := 49) dX10_see_49 rfl 2 rfl ?_
            refine J.iload_n (pc := 50) dX10_see_50 rfl 3 rfl ?_
            obtain ⟨μ30, e29, h⟩ := bnd h
            refine J.callV (Y := mX10_see) (Z := mX8_keep) (pc := 51) (st := []) (k2 := 0) (n2 := 0) dX10_see_51 ml_RX10_335 mo_X8_keep mv_X8_keep rfl (tX8_keep (d + 8) e29 hN5 k28) k28 (okN hN5 k28 (by decide)).1 (okN hN5 k28 (by decide)).2 cq_8 (by decide) rfl rfl (Nat.le_of_ble_eq_true rfl) (by decide) (by decide) (fun v ν hp => ?_) (fun i ν hp => nrm hp.1)
            obtain ⟨rfl, rfl, hN31, hb32⟩ := QEl hp
            show J _ _ _ _ 54 _ ([]) _ _ _ _
            refine J.aload_n (pc := 54) dX10_see_54 rfl 0 rfl ?_
            obtain ⟨a33, e34, h⟩ := bnd h
            have k35 : (kd a33).1 = 18 := gR_k e34
            refine J.fR (pc := 55) dX10_see_55 fl_RX10_59 k0 (okN hN31 k0 (by decide)) rfl e34 ?_
            refine J.fI (pc := 58) dX10_see_58 fl_RX10_184 k35 (okN hN31 k35 (by decide)) (Or.inl rfl) ?_
            cases h
            exact J.iret (pc := 61) dX10_see_61 rfl ⟨rfl, rfl, hN31, trivial⟩
      · refine J.cge (pc := 19) (tgt := 32) dX10_see_19 (by decide) (fun q => absurd q hc) (fun _ => ?_)
        refine J.aload_n (pc := 32) dX10_see_32 rfl 0 rfl ?_
        obtain ⟨a36, e37, h⟩ := bnd h
        have k38 : (kd a36).1 = 0 := gR_k e37
        refine J.fR (pc := 33) dX10_see_33 fl_RX10_20 k0 (okN hN5 k0 (by decide)) rfl e37 ?_
        refine J.iconst (pc := 36) dX10_see_36 ic_2 ?_
        refine J.dup2 (pc := 37) dX10_see_37 rfl rfl ?_
        obtain ⟨x39, e40, h⟩ := bnd h
        refine J.aI (pc := 38) dX10_see_38 k38 (okN hN5 k38 (by decide)) e40 ?_
        refine J.iconst (pc := 39) dX10_see_39 ic_1 ?_
        refine J.iadd (pc := 40) dX10_see_40 ?_
        obtain ⟨μ41, e42, h⟩ := bnd h
        have hN43 : μ41.1 = NN := stI_N e42 hN5
        refine J.wI (pc := 41) dX10_see_41 k38 (okN hN5 k38 (by decide)) e42 ?_
        refine J.iconst (pc := 42) dX10_see_42 ic_m1 ?_
        cases h
        exact J.iret (pc := 43) dX10_see_43 rfl ⟨rfl, rfl, hN43, trivial⟩
    · try dsimp only at h
      refine J.callV (Y := mX10_see) (Z := mX10_needDeed) (pc := 7) (st := []) (k2 := 0) (n2 := 0) dX10_see_7 ml_RX10_185 mo_X10_needDeed mv_X10_needDeed rfl (tX10_needDeed d e4 hN2 k0) k0 (okN hN2 k0 (by decide)).1 (okN hN2 k0 (by decide)).2 cq_10 (by decide) rfl rfl (Nat.le_of_ble_eq_true rfl) (by decide) (by decide) (fun v ν hp => nlm hp.1) (fun i ν hp => ?_)
      obtain ⟨rfl, rfl, hN9, -⟩ := QEr hp
      cases h
      exact JX.out rfl ⟨rfl, rfl, hN9, trivial⟩
  · try dsimp only at h
    refine J.callV (Y := mX10_see) (Z := mX10_needPerson) (pc := 2) (st := []) (k2 := 1) (n2 := 6) dX10_see_2 ml_RX10_211 mo_X10_needPerson mv_X10_needPerson rfl (tX10_needPerson d e1 hN k0) k0 (okN hN k0 (by decide)).1 (okN hN k0 (by decide)).2 cq_10 (by decide) rfl rfl (Nat.le_of_ble_eq_true rfl) (by decide) (by decide) (fun v ν hp => nlm hp.1) (fun i ν hp => ?_)
    obtain ⟨rfl, rfl, hN9, -⟩ := QEr hp
    cases h
    exact JX.out rfl ⟨rfl, rfl, hN9, trivial⟩
def fL_see (v0 : Nat) (v1 : Int32) (v2 : Int32) (v3 : Int32) (v4 : Nat) (μ : Mem) : Option (Int32 × Mem) :=
  (fX10_see v0 v1 v2 v3 μ).bind fun
  | (.inl r3, μ2) =>
    (stL μ2 v4 (0 : Int32) (r3.toInt64)).bind fun μ6 =>
    some ((0 : Int32), μ6)
  | (.inr i9, μ2) =>
    if i9 = 0 then some ((1 : Int32), μ2) else
    none
set_option maxHeartbeats 4000000 in
theorem tL_see {ω : Wd} {l : Launch} (d : Nat) {v0 : Nat} {v1 : Int32} {v2 : Int32} {v3 : Int32} {v4 : Nat} {μ : Mem} {res : Int32 × Mem} (h : fL_see v0 v1 v2 v3 v4 μ = some res) (hN : μ.1 = NN) (k0 : (kd v0).1 = 20) (k4 : (kd v4).1 = 1) : Ct ω l mL_see (d + 10) [.ref v0, .int v1, .int v2, .int v3, .ref v4] μ 2 12 (PE (.inl (some (.int res.1))) res.2 True) := by
  refine Ct.of pn_RL (Nat.le_of_ble_eq_true rfl) ?_
  show J ω l mL_see (d + 10) 0 [(0, .ref v0), (1, .int v1), (2, .int v2), (3, .int v3), (4, .ref v4)] [] μ 2 12 _
  unfold fL_see at h
  refine J.aload (pc := 0) dL_see_0 4 rfl ?_
  refine J.iconst (pc := 2) dL_see_2 ic_0 ?_
  refine J.aload_n (pc := 3) dL_see_3 rfl 0 rfl ?_
  refine J.iload_n (pc := 4) dL_see_4 rfl 1 rfl ?_
  refine J.iload_n (pc := 5) dL_see_5 rfl 2 rfl ?_
  refine J.iload_n (pc := 6) dL_see_6 rfl 3 rfl ?_
  obtain ⟨⟨q, μ2⟩, e1, h⟩ := bnd h
  rcases q with r3 | i9
  · try dsimp only at h
    refine J.callV (Y := mL_see) (Z := mX10_see) (pc := 7) (st := [.int (0 : Int32), .ref v4]) (k2 := 0) (n2 := 0) dL_see_7 ml_RL_77 mo_X10_see mv_X10_see rfl (tX10_see d e1 hN k0) k0 (okN hN k0 (by decide)).1 (okN hN k0 (by decide)).2 cq_10 (by decide) rfl rfl (Nat.le_of_ble_eq_true rfl) (by decide) (by decide) (fun v ν hp => ?_) (fun i ν hp => nrm hp.1)
    obtain ⟨rfl, rfl, hN4, hb5⟩ := QEl hp
    show J _ _ _ _ 10 _ ([.int r3, .int (0 : Int32), .ref v4]) _ _ _ _
    refine J.i2l (pc := 10) dL_see_10 ?_
    obtain ⟨μ6, e7, h⟩ := bnd h
    have hN8 : μ6.1 = NN := stL_N e7 hN4
    refine J.wL (pc := 11) dL_see_11 k4 (okN hN4 k4 (by decide)) e7 ?_
    refine J.goto (pc := 12) (tgt := 19) dL_see_12 (by decide) ?_
    refine J.iconst (pc := 19) dL_see_19 ic_0 ?_
    cases h
    exact J.iret (pc := 20) dL_see_20 rfl ⟨rfl, rfl, hN8, trivial⟩
  · try dsimp only at h
    refine J.callV (Y := mL_see) (Z := mX10_see) (pc := 7) (st := [.int (0 : Int32), .ref v4]) (k2 := 0) (n2 := 0) dL_see_7 ml_RL_77 mo_X10_see mv_X10_see rfl (tX10_see d e1 hN k0) k0 (okN hN k0 (by decide)).1 (okN hN k0 (by decide)).2 cq_10 (by decide) rfl rfl (Nat.le_of_ble_eq_true rfl) (by decide) (by decide) (fun v ν hp => nlm hp.1) (fun i ν hp => ?_)
    obtain ⟨rfl, rfl, hN9, -⟩ := QEr hp
    rcases ifc h with ⟨hc, h⟩ | ⟨hc, h⟩
    · subst hc
      cases h
      exact JX.catch1 (i := 0) (by decide) rfl rfl (Nat.le_of_ble_eq_true rfl) (Nat.le_of_ble_eq_true rfl) (Or.inl ⟨5, Nat.le_of_ble_eq_true rfl, rfl, dL_see_15⟩) dL_see_17 ic_1 dL_see_18 rfl ⟨rfl, rfl, hN9, trivial⟩
    cases h
def fX10_send (v0 : Nat) (v1 : Int32) (v2 : Int32) (μ : Mem) : Option ((Int32 ⊕ Nat) × Mem) :=
  (fX10_needPerson v0 v1 μ).bind fun
  | .inl _ =>
    if v2 = (-1 : Int32) then
      (gR μ v0 7 19).bind fun a4 =>
      (gR μ a4 5 0).bind fun a7 =>
      (ldI μ a7 v1).bind fun x10 =>
      if x10 = (-1 : Int32) then
        (gR μ v0 3 0).bind fun a12 =>
        (ldI μ a12 (1 : Int32)).bind fun x15 =>
        (stI μ a12 (1 : Int32) (x15 + (1 : Int32))).bind fun μ17 =>
        some (.inl (-2 : Int32), μ17)
      else
        (gR μ v0 8 10).bind fun a20 =>
        (gR μ v0 7 19).bind fun a23 =>
        (fX0_keep a20 a23 μ).bind fun μ27 =>
        (gR μ27 v0 7 19).bind fun a30 =>
        (gR μ27 a30 5 0).bind fun a33 =>
        (stI μ27 a33 v1 (-1 : Int32)).bind fun μ36 =>
        some (.inl (fX10_outside x10), μ36)
    else
      (fX10_inside v0 v2 μ).bind fun
      | .inl r43 =>
        (gR μ v0 7 19).bind fun a46 =>
        (gR μ a46 5 0).bind fun a49 =>
        (ldI μ a49 v1).bind fun x52 =>
        if x52 = r43 then
          (gR μ v0 3 0).bind fun a54 =>
          (ldI μ a54 (1 : Int32)).bind fun x57 =>
          (stI μ a54 (1 : Int32) (x57 + (1 : Int32))).bind fun μ59 =>
          some (.inl (-2 : Int32), μ59)
        else
          (gR μ v0 8 10).bind fun a62 =>
          (gR μ v0 7 19).bind fun a65 =>
          (fX0_keep a62 a65 μ).bind fun μ69 =>
          (gR μ69 v0 7 19).bind fun a72 =>
          (gR μ69 a72 5 0).bind fun a75 =>
          (stI μ69 a75 v1 r43).bind fun μ78 =>
          some (.inl (fX10_outside x52), μ78)
      | .inr i84 =>
        some (.inr i84, μ)
  | .inr i85 =>
    some (.inr i85, μ)
set_option maxHeartbeats 4000000 in
theorem tX10_send {ω : Wd} {l : Launch} (d : Nat) {v0 : Nat} {v1 : Int32} {v2 : Int32} {μ : Mem} {res : (Int32 ⊕ Nat) × Mem} (h : fX10_send v0 v1 v2 μ = some res) (hN : μ.1 = NN) (k0 : (kd v0).1 = 20) : Ct ω l mX10_send (d + 9) [.ref v0, .int v1, .int v2] μ 2 12 (PE (oI res.1) res.2 True) := by
  refine Ct.of pn_RX10 (Nat.le_of_ble_eq_true rfl) ?_
  show J ω l mX10_send (d + 9) 0 [(0, .ref v0), (1, .int v1), (2, .int v2)] [] μ 2 12 _
  unfold fX10_send at h
  refine J.aload_n (pc := 0) dX10_send_0 rfl 0 rfl ?_
  refine J.iload_n (pc := 1) dX10_send_1 rfl 1 rfl ?_
  obtain ⟨q, e1, h⟩ := bnd h
  rcases q with u | i85
  · try dsimp only at h
    refine J.callV (Y := mX10_send) (Z := mX10_needPerson) (pc := 2) (st := []) (k2 := 1) (n2 := 6) dX10_send_2 ml_RX10_211 mo_X10_needPerson mv_X10_needPerson rfl (tX10_needPerson d e1 hN k0) k0 (okN hN k0 (by decide)).1 (okN hN k0 (by decide)).2 cq_10 (by decide) rfl rfl (Nat.le_of_ble_eq_true rfl) (by decide) (by decide) (fun v ν hp => ?_) (fun i ν hp => nrm hp.1)
    obtain ⟨rfl, rfl, hN2, hb3⟩ := QEl hp
    show J _ _ _ _ 5 _ ([]) _ _ _ _
    refine J.iload_n (pc := 5) dX10_send_5 rfl 2 rfl ?_
    refine J.iconst (pc := 6) dX10_send_6 ic_m1 ?_
    rcases ifc h with ⟨hc, h⟩ | ⟨hc, h⟩
    · refine J.cne (pc := 7) (tgt := 14) dX10_send_7 (by decide) (fun _ => ?_) (fun q => absurd hc q)
      refine J.iconst (pc := 10) dX10_send_10 ic_m1 ?_
      refine J.goto (pc := 11) (tgt := 19) dX10_send_11 (by decide) ?_
      refine J.istore_n (pc := 19) ([(3, .int (-1 : Int32)), (0, .ref v0), (1, .int v1), (2, .int v2)]) dX10_send_19 rfl (Nat.le_of_ble_eq_true rfl) rfl ?_
      refine J.aload_n (pc := 20) dX10_send_20 rfl 1 rfl ?_
      obtain ⟨a4, e5, h⟩ := bnd h
      have k6 : (kd a4).1 = 19 := gR_k e5
      refine J.fR (pc := 21) dX10_send_21 fl_RX10_45 k0 (okN hN2 k0 (by decide)) rfl e5 ?_
      obtain ⟨a7, e8, h⟩ := bnd h
      have k9 : (kd a7).1 = 0 := gR_k e8
      refine J.fR (pc := 24) dX10_send_24 fl_RX10_220 k6 (okN hN2 k6 (by decide)) rfl e8 ?_
      refine J.iload_n (pc := 27) dX10_send_27 rfl 2 rfl ?_
      obtain ⟨x10, e11, h⟩ := bnd h
      refine J.aI (pc := 28) dX10_send_28 k9 (okN hN2 k9 (by decide)) e11 ?_
      refine J.istore (pc := 29) ([(4, .int x10), (3, .int (-1 : Int32)), (0, .ref v0), (1, .int v1), (2, .int v2)]) dX10_send_29 (Nat.le_of_ble_eq_true rfl) rfl ?_
      refine J.iload (pc := 31) dX10_send_31 0 rfl ?_
      refine J.iload_n (pc := 33) dX10_send_33 rfl 1 rfl ?_
      rcases ifc h with ⟨hc, h⟩ | ⟨hc, h⟩
      · refine J.cne (pc := 34) (tgt := 50) dX10_send_34 (by decide) (fun _ => ?_) (fun q => absurd hc q)
        refine J.aload_n (pc := 37) dX10_send_37 rfl 2 rfl ?_
        obtain ⟨a12, e13, h⟩ := bnd h
        have k14 : (kd a12).1 = 0 := gR_k e13
        refine J.fR (pc := 38) dX10_send_38 fl_RX10_20 k0 (okN hN2 k0 (by decide)) rfl e13 ?_
        refine J.iconst (pc := 41) dX10_send_41 ic_1 ?_
        refine J.dup2 (pc := 42) dX10_send_42 rfl rfl ?_
        obtain ⟨x15, e16, h⟩ := bnd h
        refine J.aI (pc := 43) dX10_send_43 k14 (okN hN2 k14 (by decide)) e16 ?_
        refine J.iconst (pc := 44) dX10_send_44 ic_1 ?_
        refine J.iadd (pc := 45) dX10_send_45 ?_
        obtain ⟨μ17, e18, h⟩ := bnd h
        have hN19 : μ17.1 = NN := stI_N e18 hN2
        refine J.wI (pc := 46) dX10_send_46 k14 (okN hN2 k14 (by decide)) e18 ?_
        refine J.bipush (pc := 47) dX10_send_47 ib_m2 ?_
        cases h
        exact J.iret (pc := 49) dX10_send_49 rfl ⟨rfl, rfl, hN19, trivial⟩
      · refine J.cne (pc := 34) (tgt := 50) dX10_send_34 (by decide) (fun q => absurd q hc) (fun _ => ?_)
        refine J.aload_n (pc := 50) dX10_send_50 rfl 2 rfl ?_
        obtain ⟨a20, e21, h⟩ := bnd h
        have k22 : (kd a20).1 = 10 := gR_k e21
        refine J.fR (pc := 51) dX10_send_51 fl_RX10_52 k0 (okN hN2 k0 (by decide)) rfl e21 ?_
        refine J.aload_n (pc := 54) dX10_send_54 rfl 2 rfl ?_
        obtain ⟨a23, e24, h⟩ := bnd h
        have k25 : (kd a23).1 = 19 := gR_k e24
        refine J.fR (pc := 55) dX10_send_55 fl_RX10_45 k0 (okN hN2 k0 (by decide)) rfl e24 ?_
        obtain ⟨μ27, e26, h⟩ := bnd h
        refine J.callV (Y := mX10_send) (Z := mX0_keep) (pc := 58) (st := []) (k2 := 1) (n2 := 6) dX10_send_58 ml_RX10_236 mo_X0_keep mv_X0_keep rfl (tX0_keep (d + 6) e26 hN2 k22 k25) k22 (okN hN2 k22 (by decide)).1 (okN hN2 k22 (by decide)).2 cq_0 (by decide) rfl rfl (Nat.le_of_ble_eq_true rfl) (by decide) (by decide) (fun v ν hp => ?_) (fun i ν hp => nrm hp.1)
        obtain ⟨rfl, rfl, hN28, hb29⟩ := QEl hp
        show J _ _ _ _ 61 _ ([]) _ _ _ _
        refine J.aload_n (pc := 61) dX10_send_61 rfl 2 rfl ?_
        obtain ⟨a30, e31, h⟩ := bnd h
        have k32 : (kd a30).1 = 19 := gR_k e31
        refine J.fR (pc := 62) dX10_send_62 fl_RX10_45 k0 (okN hN28 k0 (by decide)) rfl e31 ?_
        obtain ⟨a33, e34, h⟩ := bnd h
        have k35 : (kd a33).1 = 0 := gR_k e34
        refine J.fR (pc := 65) dX10_send_65 fl_RX10_220 k32 (okN hN28 k32 (by decide)) rfl e34 ?_
        refine J.iload_n (pc := 68) dX10_send_68 rfl 3 rfl ?_
        refine J.iload_n (pc := 69) dX10_send_69 rfl 1 rfl ?_
        obtain ⟨μ36, e37, h⟩ := bnd h
        have hN38 : μ36.1 = NN := stI_N e37 hN28
        refine J.wI (pc := 70) dX10_send_70 k35 (okN hN28 k35 (by decide)) e37 ?_
        refine J.iload (pc := 71) dX10_send_71 0 rfl ?_
        refine J.callS (Y := mX10_send) (Z := mX10_outside) (pc := 73) (st := []) (k2 := 1) (n2 := 6) dX10_send_73 ml_RX10_214 mo_X10_outside ms_X10_outside rfl (tX10_outside (d + 8) x10 μ36 hN38 ) rfl rfl (Nat.le_of_ble_eq_true rfl) (by decide) (by decide) (fun v ν hp => ?_) (fun i ν hp => nrm hp.1)
        obtain ⟨rfl, rfl, hN40, hb41⟩ := QEl hp
        show J _ _ _ _ 76 _ ([.int (fX10_outside x10)]) _ _ _ _
        cases h
        exact J.iret (pc := 76) dX10_send_76 rfl ⟨rfl, rfl, hN40, trivial⟩
    · refine J.cne (pc := 7) (tgt := 14) dX10_send_7 (by decide) (fun q => absurd q hc) (fun _ => ?_)
      refine J.aload_n (pc := 14) dX10_send_14 rfl 0 rfl ?_
      refine J.iload_n (pc := 15) dX10_send_15 rfl 2 rfl ?_
      obtain ⟨q, e42, h⟩ := bnd h
      rcases q with r43 | i84
      · try dsimp only at h
        refine J.callV (Y := mX10_send) (Z := mX10_inside) (pc := 16) (st := []) (k2 := 0) (n2 := 0) dX10_send_16 ml_RX10_233 mo_X10_inside mv_X10_inside rfl (tX10_inside d e42 hN2 k0) k0 (okN hN2 k0 (by decide)).1 (okN hN2 k0 (by decide)).2 cq_10 (by decide) rfl rfl (Nat.le_of_ble_eq_true rfl) (by decide) (by decide) (fun v ν hp => ?_) (fun i ν hp => nrm hp.1)
        obtain ⟨rfl, rfl, hN44, hb45⟩ := QEl hp
        show J _ _ _ _ 19 _ ([.int r43]) _ _ _ _
        refine J.istore_n (pc := 19) ([(3, .int r43), (0, .ref v0), (1, .int v1), (2, .int v2)]) dX10_send_19 rfl (Nat.le_of_ble_eq_true rfl) rfl ?_
        refine J.aload_n (pc := 20) dX10_send_20 rfl 1 rfl ?_
        obtain ⟨a46, e47, h⟩ := bnd h
        have k48 : (kd a46).1 = 19 := gR_k e47
        refine J.fR (pc := 21) dX10_send_21 fl_RX10_45 k0 (okN hN44 k0 (by decide)) rfl e47 ?_
        obtain ⟨a49, e50, h⟩ := bnd h
        have k51 : (kd a49).1 = 0 := gR_k e50
        refine J.fR (pc := 24) dX10_send_24 fl_RX10_220 k48 (okN hN44 k48 (by decide)) rfl e50 ?_
        refine J.iload_n (pc := 27) dX10_send_27 rfl 2 rfl ?_
        obtain ⟨x52, e53, h⟩ := bnd h
        refine J.aI (pc := 28) dX10_send_28 k51 (okN hN44 k51 (by decide)) e53 ?_
        refine J.istore (pc := 29) ([(4, .int x52), (3, .int r43), (0, .ref v0), (1, .int v1), (2, .int v2)]) dX10_send_29 (Nat.le_of_ble_eq_true rfl) rfl ?_
        refine J.iload (pc := 31) dX10_send_31 0 rfl ?_
        refine J.iload_n (pc := 33) dX10_send_33 rfl 1 rfl ?_
        rcases ifc h with ⟨hc, h⟩ | ⟨hc, h⟩
        · refine J.cne (pc := 34) (tgt := 50) dX10_send_34 (by decide) (fun _ => ?_) (fun q => absurd hc q)
          refine J.aload_n (pc := 37) dX10_send_37 rfl 2 rfl ?_
          obtain ⟨a54, e55, h⟩ := bnd h
          have k56 : (kd a54).1 = 0 := gR_k e55
          refine J.fR (pc := 38) dX10_send_38 fl_RX10_20 k0 (okN hN44 k0 (by decide)) rfl e55 ?_
          refine J.iconst (pc := 41) dX10_send_41 ic_1 ?_
          refine J.dup2 (pc := 42) dX10_send_42 rfl rfl ?_
          obtain ⟨x57, e58, h⟩ := bnd h
          refine J.aI (pc := 43) dX10_send_43 k56 (okN hN44 k56 (by decide)) e58 ?_
          refine J.iconst (pc := 44) dX10_send_44 ic_1 ?_
          refine J.iadd (pc := 45) dX10_send_45 ?_
          obtain ⟨μ59, e60, h⟩ := bnd h
          have hN61 : μ59.1 = NN := stI_N e60 hN44
          refine J.wI (pc := 46) dX10_send_46 k56 (okN hN44 k56 (by decide)) e60 ?_
          refine J.bipush (pc := 47) dX10_send_47 ib_m2 ?_
          cases h
          exact J.iret (pc := 49) dX10_send_49 rfl ⟨rfl, rfl, hN61, trivial⟩
        · refine J.cne (pc := 34) (tgt := 50) dX10_send_34 (by decide) (fun q => absurd q hc) (fun _ => ?_)
          refine J.aload_n (pc := 50) dX10_send_50 rfl 2 rfl ?_
          obtain ⟨a62, e63, h⟩ := bnd h
          have k64 : (kd a62).1 = 10 := gR_k e63
          refine J.fR (pc := 51) dX10_send_51 fl_RX10_52 k0 (okN hN44 k0 (by decide)) rfl e63 ?_
          refine J.aload_n (pc := 54) dX10_send_54 rfl 2 rfl ?_
          obtain ⟨a65, e66, h⟩ := bnd h
          have k67 : (kd a65).1 = 19 := gR_k e66
          refine J.fR (pc := 55) dX10_send_55 fl_RX10_45 k0 (okN hN44 k0 (by decide)) rfl e66 ?_
          obtain ⟨μ69, e68, h⟩ := bnd h
          refine J.callV (Y := mX10_send) (Z := mX0_keep) (pc := 58) (st := []) (k2 := 0) (n2 := 0) dX10_send_58 ml_RX10_236 mo_X0_keep mv_X0_keep rfl (tX0_keep (d + 6) e68 hN44 k64 k67) k64 (okN hN44 k64 (by decide)).1 (okN hN44 k64 (by decide)).2 cq_0 (by decide) rfl rfl (Nat.le_of_ble_eq_true rfl) (by decide) (by decide) (fun v ν hp => ?_) (fun i ν hp => nrm hp.1)
          obtain ⟨rfl, rfl, hN70, hb71⟩ := QEl hp
          show J _ _ _ _ 61 _ ([]) _ _ _ _
          refine J.aload_n (pc := 61) dX10_send_61 rfl 2 rfl ?_
          obtain ⟨a72, e73, h⟩ := bnd h
          have k74 : (kd a72).1 = 19 := gR_k e73
          refine J.fR (pc := 62) dX10_send_62 fl_RX10_45 k0 (okN hN70 k0 (by decide)) rfl e73 ?_
          obtain ⟨a75, e76, h⟩ := bnd h
          have k77 : (kd a75).1 = 0 := gR_k e76
          refine J.fR (pc := 65) dX10_send_65 fl_RX10_220 k74 (okN hN70 k74 (by decide)) rfl e76 ?_
          refine J.iload_n (pc := 68) dX10_send_68 rfl 3 rfl ?_
          refine J.iload_n (pc := 69) dX10_send_69 rfl 1 rfl ?_
          obtain ⟨μ78, e79, h⟩ := bnd h
          have hN80 : μ78.1 = NN := stI_N e79 hN70
          refine J.wI (pc := 70) dX10_send_70 k77 (okN hN70 k77 (by decide)) e79 ?_
          refine J.iload (pc := 71) dX10_send_71 0 rfl ?_
          refine J.callS (Y := mX10_send) (Z := mX10_outside) (pc := 73) (st := []) (k2 := 0) (n2 := 0) dX10_send_73 ml_RX10_214 mo_X10_outside ms_X10_outside rfl (tX10_outside (d + 8) x52 μ78 hN80 ) rfl rfl (Nat.le_of_ble_eq_true rfl) (by decide) (by decide) (fun v ν hp => ?_) (fun i ν hp => nrm hp.1)
          obtain ⟨rfl, rfl, hN82, hb83⟩ := QEl hp
          show J _ _ _ _ 76 _ ([.int (fX10_outside x52)]) _ _ _ _
          cases h
          exact J.iret (pc := 76) dX10_send_76 rfl ⟨rfl, rfl, hN82, trivial⟩
      · try dsimp only at h
        refine J.callV (Y := mX10_send) (Z := mX10_inside) (pc := 16) (st := []) (k2 := 0) (n2 := 0) dX10_send_16 ml_RX10_233 mo_X10_inside mv_X10_inside rfl (tX10_inside d e42 hN2 k0) k0 (okN hN2 k0 (by decide)).1 (okN hN2 k0 (by decide)).2 cq_10 (by decide) rfl rfl (Nat.le_of_ble_eq_true rfl) (by decide) (by decide) (fun v ν hp => nlm hp.1) (fun i ν hp => ?_)
        obtain ⟨rfl, rfl, hN9, -⟩ := QEr hp
        cases h
        exact JX.out rfl ⟨rfl, rfl, hN9, trivial⟩
  · try dsimp only at h
    refine J.callV (Y := mX10_send) (Z := mX10_needPerson) (pc := 2) (st := []) (k2 := 1) (n2 := 6) dX10_send_2 ml_RX10_211 mo_X10_needPerson mv_X10_needPerson rfl (tX10_needPerson d e1 hN k0) k0 (okN hN k0 (by decide)).1 (okN hN k0 (by decide)).2 cq_10 (by decide) rfl rfl (Nat.le_of_ble_eq_true rfl) (by decide) (by decide) (fun v ν hp => nlm hp.1) (fun i ν hp => ?_)
    obtain ⟨rfl, rfl, hN9, -⟩ := QEr hp
    cases h
    exact JX.out rfl ⟨rfl, rfl, hN9, trivial⟩
def fL_send (v0 : Nat) (v1 : Int32) (v2 : Int32) (v3 : Nat) (μ : Mem) : Option (Int32 × Mem) :=
  (fX10_send v0 v1 v2 μ).bind fun
  | (.inl r3, μ2) =>
    (stL μ2 v3 (0 : Int32) (r3.toInt64)).bind fun μ6 =>
    some ((0 : Int32), μ6)
  | (.inr i9, μ2) =>
    if i9 = 0 then some ((1 : Int32), μ2) else
    none
set_option maxHeartbeats 4000000 in
theorem tL_send {ω : Wd} {l : Launch} (d : Nat) {v0 : Nat} {v1 : Int32} {v2 : Int32} {v3 : Nat} {μ : Mem} {res : Int32 × Mem} (h : fL_send v0 v1 v2 v3 μ = some res) (hN : μ.1 = NN) (k0 : (kd v0).1 = 20) (k3 : (kd v3).1 = 1) : Ct ω l mL_send (d + 10) [.ref v0, .int v1, .int v2, .ref v3] μ 2 12 (PE (.inl (some (.int res.1))) res.2 True) := by
  refine Ct.of pn_RL (Nat.le_of_ble_eq_true rfl) ?_
  show J ω l mL_send (d + 10) 0 [(0, .ref v0), (1, .int v1), (2, .int v2), (3, .ref v3)] [] μ 2 12 _
  unfold fL_send at h
  refine J.aload_n (pc := 0) dL_send_0 rfl 3 rfl ?_
  refine J.iconst (pc := 1) dL_send_1 ic_0 ?_
  refine J.aload_n (pc := 2) dL_send_2 rfl 0 rfl ?_
  refine J.iload_n (pc := 3) dL_send_3 rfl 1 rfl ?_
  refine J.iload_n (pc := 4) dL_send_4 rfl 2 rfl ?_
  obtain ⟨⟨q, μ2⟩, e1, h⟩ := bnd h
  rcases q with r3 | i9
  · try dsimp only at h
    refine J.callV (Y := mL_send) (Z := mX10_send) (pc := 5) (st := [.int (0 : Int32), .ref v3]) (k2 := 0) (n2 := 0) dL_send_5 ml_RL_37 mo_X10_send mv_X10_send rfl (tX10_send d e1 hN k0) k0 (okN hN k0 (by decide)).1 (okN hN k0 (by decide)).2 cq_10 (by decide) rfl rfl (Nat.le_of_ble_eq_true rfl) (by decide) (by decide) (fun v ν hp => ?_) (fun i ν hp => nrm hp.1)
    obtain ⟨rfl, rfl, hN4, hb5⟩ := QEl hp
    show J _ _ _ _ 8 _ ([.int r3, .int (0 : Int32), .ref v3]) _ _ _ _
    refine J.i2l (pc := 8) dL_send_8 ?_
    obtain ⟨μ6, e7, h⟩ := bnd h
    have hN8 : μ6.1 = NN := stL_N e7 hN4
    refine J.wL (pc := 9) dL_send_9 k3 (okN hN4 k3 (by decide)) e7 ?_
    refine J.goto (pc := 10) (tgt := 17) dL_send_10 (by decide) ?_
    refine J.iconst (pc := 17) dL_send_17 ic_0 ?_
    cases h
    exact J.iret (pc := 18) dL_send_18 rfl ⟨rfl, rfl, hN8, trivial⟩
  · try dsimp only at h
    refine J.callV (Y := mL_send) (Z := mX10_send) (pc := 5) (st := [.int (0 : Int32), .ref v3]) (k2 := 0) (n2 := 0) dL_send_5 ml_RL_37 mo_X10_send mv_X10_send rfl (tX10_send d e1 hN k0) k0 (okN hN k0 (by decide)).1 (okN hN k0 (by decide)).2 cq_10 (by decide) rfl rfl (Nat.le_of_ble_eq_true rfl) (by decide) (by decide) (fun v ν hp => nlm hp.1) (fun i ν hp => ?_)
    obtain ⟨rfl, rfl, hN9, -⟩ := QEr hp
    rcases ifc h with ⟨hc, h⟩ | ⟨hc, h⟩
    · subst hc
      cases h
      exact JX.catch1 (i := 0) (by decide) rfl rfl (Nat.le_of_ble_eq_true rfl) (Nat.le_of_ble_eq_true rfl) (Or.inl ⟨4, Nat.le_of_ble_eq_true rfl, rfl, dL_send_13⟩) dL_send_15 ic_1 dL_send_16 rfl ⟨rfl, rfl, hN9, trivial⟩
    cases h
def fX10_stile (v0 : Nat) (v1 : Int32) (v2 : Int32) (μ : Mem) : Option ((Int32 ⊕ Nat) × Mem) :=
  (fX10_inside v0 v1 μ).bind fun
  | .inl r2 =>
    (gR μ v0 7 19).bind fun a5 =>
    if ((μ.2.2.1 a5 2) &&& (fX10_bit r2)) = (0 : Int64) then
      if (0 : Int32) = v2 then
        (gR μ v0 3 0).bind fun a11 =>
        (ldI μ a11 (1 : Int32)).bind fun x14 =>
        (stI μ a11 (1 : Int32) (x14 + (1 : Int32))).bind fun μ16 =>
        some (.inl (0 : Int32), μ16)
      else
        (gR μ v0 4 11).bind fun a19 =>
        if (fX1_has a19 (r2 + (8 : Int32)) μ) = 0 then
          (gR μ v0 3 0).bind fun a25 =>
          (ldI μ a25 (1 : Int32)).bind fun x28 =>
          (stI μ a25 (1 : Int32) (x28 + (1 : Int32))).bind fun μ30 =>
          some (.inl (0 : Int32), μ30)
        else
          (gR μ v0 8 10).bind fun a33 =>
          (gR μ v0 7 19).bind fun a36 =>
          (fX0_keep a33 a36 μ).bind fun μ40 =>
          (gR μ40 v0 7 19).bind fun a43 =>
          (some (sL μ40 a43 2 ((μ40.2.2.1 a43 2) ^^^ (fX10_bit r2)))).bind fun μ49 =>
          some (.inl (1 : Int32), μ49)
    else
      if (1 : Int32) = v2 then
        (gR μ v0 3 0).bind fun a52 =>
        (ldI μ a52 (1 : Int32)).bind fun x55 =>
        (stI μ a52 (1 : Int32) (x55 + (1 : Int32))).bind fun μ57 =>
        some (.inl (0 : Int32), μ57)
      else
        (gR μ v0 4 11).bind fun a60 =>
        if (fX1_has a60 (r2 + (8 : Int32)) μ) = 0 then
          (gR μ v0 3 0).bind fun a66 =>
          (ldI μ a66 (1 : Int32)).bind fun x69 =>
          (stI μ a66 (1 : Int32) (x69 + (1 : Int32))).bind fun μ71 =>
          some (.inl (0 : Int32), μ71)
        else
          (gR μ v0 8 10).bind fun a74 =>
          (gR μ v0 7 19).bind fun a77 =>
          (fX0_keep a74 a77 μ).bind fun μ81 =>
          (gR μ81 v0 7 19).bind fun a84 =>
          (some (sL μ81 a84 2 ((μ81.2.2.1 a84 2) ^^^ (fX10_bit r2)))).bind fun μ90 =>
          some (.inl (1 : Int32), μ90)
  | .inr i93 =>
    some (.inr i93, μ)
set_option maxHeartbeats 4000000 in
theorem tX10_stile {ω : Wd} {l : Launch} (d : Nat) {v0 : Nat} {v1 : Int32} {v2 : Int32} {μ : Mem} {res : (Int32 ⊕ Nat) × Mem} (h : fX10_stile v0 v1 v2 μ = some res) (hN : μ.1 = NN) (k0 : (kd v0).1 = 20) : Ct ω l mX10_stile (d + 9) [.ref v0, .int v1, .int v2] μ 1 6 (PE (oI res.1) res.2 True) := by
  refine Ct.of pn_RX10 (Nat.le_of_ble_eq_true rfl) ?_
  show J ω l mX10_stile (d + 9) 0 [(0, .ref v0), (1, .int v1), (2, .int v2)] [] μ 1 6 _
  unfold fX10_stile at h
  refine J.aload_n (pc := 0) dX10_stile_0 rfl 0 rfl ?_
  refine J.iload_n (pc := 1) dX10_stile_1 rfl 1 rfl ?_
  obtain ⟨q, e1, h⟩ := bnd h
  rcases q with r2 | i93
  · try dsimp only at h
    refine J.callV (Y := mX10_stile) (Z := mX10_inside) (pc := 2) (st := []) (k2 := 0) (n2 := 0) dX10_stile_2 ml_RX10_233 mo_X10_inside mv_X10_inside rfl (tX10_inside d e1 hN k0) k0 (okN hN k0 (by decide)).1 (okN hN k0 (by decide)).2 cq_10 (by decide) rfl rfl (Nat.le_of_ble_eq_true rfl) (by decide) (by decide) (fun v ν hp => ?_) (fun i ν hp => nrm hp.1)
    obtain ⟨rfl, rfl, hN3, hb4⟩ := QEl hp
    show J _ _ _ _ 5 _ ([.int r2]) _ _ _ _
    refine J.istore_n (pc := 5) ([(3, .int r2), (0, .ref v0), (1, .int v1), (2, .int v2)]) dX10_stile_5 rfl (Nat.le_of_ble_eq_true rfl) rfl ?_
    refine J.aload_n (pc := 6) dX10_stile_6 rfl 1 rfl ?_
    obtain ⟨a5, e6, h⟩ := bnd h
    have k7 : (kd a5).1 = 19 := gR_k e6
    refine J.fR (pc := 7) dX10_stile_7 fl_RX10_45 k0 (okN hN3 k0 (by decide)) rfl e6 ?_
    refine J.fL (pc := 10) dX10_stile_10 fl_RX10_161 k7 (okN hN3 k7 (by decide)) rfl ?_
    refine J.iload_n (pc := 13) dX10_stile_13 rfl 0 rfl ?_
    refine J.callS (Y := mX10_stile) (Z := mX10_bit) (pc := 14) (st := [.long (μ.2.2.1 a5 2)]) (k2 := 0) (n2 := 0) dX10_stile_14 ml_RX10_248 mo_X10_bit ms_X10_bit rfl (tX10_bit (d + 8) r2 μ hN3 ) rfl rfl (Nat.le_of_ble_eq_true rfl) (by decide) (by decide) (fun v ν hp => ?_) (fun i ν hp => nrm hp.1)
    obtain ⟨rfl, rfl, hN9, hb10⟩ := QEl hp
    show J _ _ _ _ 17 _ ([.long (fX10_bit r2), .long (μ.2.2.1 a5 2)]) _ _ _ _
    refine J.land (pc := 17) dX10_stile_17 ?_
    refine J.lconst (pc := 18) dX10_stile_18 lc_0 ?_
    rcases ifc h with ⟨hc, h⟩ | ⟨hc, h⟩
    · refine J.meq (pc := 19) (tgt := 27) dX10_stile_19 dX10_stile_20 (by decide) (fun _ => ?_) (fun q => absurd hc q)
      refine J.iconst (pc := 27) dX10_stile_27 ic_0 ?_
      refine J.istore (pc := 28) ([(4, .int (0 : Int32)), (3, .int r2), (0, .ref v0), (1, .int v1), (2, .int v2)]) dX10_stile_28 (Nat.le_of_ble_eq_true rfl) rfl ?_
      refine J.iload (pc := 30) dX10_stile_30 0 rfl ?_
      refine J.iload_n (pc := 32) dX10_stile_32 rfl 4 rfl ?_
      rcases ifc h with ⟨hc, h⟩ | ⟨hc, h⟩
      · refine J.ceq (pc := 33) (tgt := 50) dX10_stile_33 (by decide) (fun _ => ?_) (fun q => absurd hc q)
        refine J.aload_n (pc := 50) dX10_stile_50 rfl 2 rfl ?_
        obtain ⟨a11, e12, h⟩ := bnd h
        have k13 : (kd a11).1 = 0 := gR_k e12
        refine J.fR (pc := 51) dX10_stile_51 fl_RX10_20 k0 (okN hN9 k0 (by decide)) rfl e12 ?_
        refine J.iconst (pc := 54) dX10_stile_54 ic_1 ?_
        refine J.dup2 (pc := 55) dX10_stile_55 rfl rfl ?_
        obtain ⟨x14, e15, h⟩ := bnd h
        refine J.aI (pc := 56) dX10_stile_56 k13 (okN hN9 k13 (by decide)) e15 ?_
        refine J.iconst (pc := 57) dX10_stile_57 ic_1 ?_
        refine J.iadd (pc := 58) dX10_stile_58 ?_
        obtain ⟨μ16, e17, h⟩ := bnd h
        have hN18 : μ16.1 = NN := stI_N e17 hN9
        refine J.wI (pc := 59) dX10_stile_59 k13 (okN hN9 k13 (by decide)) e17 ?_
        refine J.iconst (pc := 60) dX10_stile_60 ic_0 ?_
        cases h
        exact J.zret (pc := 61) dX10_stile_61 rfl (narB (Or.inl rfl)) ⟨rfl, rfl, hN18, trivial⟩
      · refine J.ceq (pc := 33) (tgt := 50) dX10_stile_33 (by decide) (fun q => absurd q hc) (fun _ => ?_)
        refine J.aload_n (pc := 36) dX10_stile_36 rfl 2 rfl ?_
        obtain ⟨a19, e20, h⟩ := bnd h
        have k21 : (kd a19).1 = 11 := gR_k e20
        refine J.fR (pc := 37) dX10_stile_37 fl_RX10_26 k0 (okN hN9 k0 (by decide)) rfl e20 ?_
        refine J.iload_n (pc := 40) dX10_stile_40 rfl 1 rfl ?_
        refine J.bipush (pc := 41) dX10_stile_41 ib_8 ?_
        refine J.iadd (pc := 43) dX10_stile_43 ?_
        refine J.callV (Y := mX10_stile) (Z := mX1_has) (pc := 44) (st := []) (k2 := 0) (n2 := 0) dX10_stile_44 ml_RX10_252 mo_X1_has mv_X1_has rfl (tX1_has (d + 7) a19 (r2 + (8 : Int32)) μ hN9 k21) k21 (okN hN9 k21 (by decide)).1 (okN hN9 k21 (by decide)).2 cq_1 (by decide) rfl rfl (Nat.le_of_ble_eq_true rfl) (by decide) (by decide) (fun v ν hp => ?_) (fun i ν hp => nrm hp.1)
        obtain ⟨rfl, rfl, hN23, hb24⟩ := QEl hp
        show J _ _ _ _ 47 _ ([.int (fX1_has a19 (r2 + (8 : Int32)) μ)]) _ _ _ _
        rcases ifc h with ⟨hc, h⟩ | ⟨hc, h⟩
        · refine J.zne (pc := 47) (tgt := 62) dX10_stile_47 (by decide) (fun _ => ?_) (fun q => absurd hc q)
          refine J.aload_n (pc := 50) dX10_stile_50 rfl 2 rfl ?_
          obtain ⟨a25, e26, h⟩ := bnd h
          have k27 : (kd a25).1 = 0 := gR_k e26
          refine J.fR (pc := 51) dX10_stile_51 fl_RX10_20 k0 (okN hN23 k0 (by decide)) rfl e26 ?_
          refine J.iconst (pc := 54) dX10_stile_54 ic_1 ?_
          refine J.dup2 (pc := 55) dX10_stile_55 rfl rfl ?_
          obtain ⟨x28, e29, h⟩ := bnd h
          refine J.aI (pc := 56) dX10_stile_56 k27 (okN hN23 k27 (by decide)) e29 ?_
          refine J.iconst (pc := 57) dX10_stile_57 ic_1 ?_
          refine J.iadd (pc := 58) dX10_stile_58 ?_
          obtain ⟨μ30, e31, h⟩ := bnd h
          have hN32 : μ30.1 = NN := stI_N e31 hN23
          refine J.wI (pc := 59) dX10_stile_59 k27 (okN hN23 k27 (by decide)) e31 ?_
          refine J.iconst (pc := 60) dX10_stile_60 ic_0 ?_
          cases h
          exact J.zret (pc := 61) dX10_stile_61 rfl (narB (Or.inl rfl)) ⟨rfl, rfl, hN32, trivial⟩
        · refine J.zne (pc := 47) (tgt := 62) dX10_stile_47 (by decide) (fun q => absurd q hc) (fun _ => ?_)
          refine J.aload_n (pc := 62) dX10_stile_62 rfl 2 rfl ?_
          obtain ⟨a33, e34, h⟩ := bnd h
          have k35 : (kd a33).1 = 10 := gR_k e34
          refine J.fR (pc := 63) dX10_stile_63 fl_RX10_52 k0 (okN hN23 k0 (by decide)) rfl e34 ?_
          refine J.aload_n (pc := 66) dX10_stile_66 rfl 2 rfl ?_
          obtain ⟨a36, e37, h⟩ := bnd h
          have k38 : (kd a36).1 = 19 := gR_k e37
          refine J.fR (pc := 67) dX10_stile_67 fl_RX10_45 k0 (okN hN23 k0 (by decide)) rfl e37 ?_
          obtain ⟨μ40, e39, h⟩ := bnd h
          refine J.callV (Y := mX10_stile) (Z := mX0_keep) (pc := 70) (st := []) (k2 := 0) (n2 := 0) dX10_stile_70 ml_RX10_236 mo_X0_keep mv_X0_keep rfl (tX0_keep (d + 6) e39 hN23 k35 k38) k35 (okN hN23 k35 (by decide)).1 (okN hN23 k35 (by decide)).2 cq_0 (by decide) rfl rfl (Nat.le_of_ble_eq_true rfl) (by decide) (by decide) (fun v ν hp => ?_) (fun i ν hp => nrm hp.1)
          obtain ⟨rfl, rfl, hN41, hb42⟩ := QEl hp
          show J _ _ _ _ 73 _ ([]) _ _ _ _
          refine J.aload_n (pc := 73) dX10_stile_73 rfl 2 rfl ?_
          obtain ⟨a43, e44, h⟩ := bnd h
          have k45 : (kd a43).1 = 19 := gR_k e44
          refine J.fR (pc := 74) dX10_stile_74 fl_RX10_45 k0 (okN hN41 k0 (by decide)) rfl e44 ?_
          refine J.dup (pc := 77) dX10_stile_77 rfl ?_
          refine J.fL (pc := 78) dX10_stile_78 fl_RX10_161 k45 (okN hN41 k45 (by decide)) rfl ?_
          refine J.iload_n (pc := 81) dX10_stile_81 rfl 1 rfl ?_
          refine J.callS (Y := mX10_stile) (Z := mX10_bit) (pc := 82) (st := [.long (μ40.2.2.1 a43 2), .ref a43]) (k2 := 0) (n2 := 0) dX10_stile_82 ml_RX10_248 mo_X10_bit ms_X10_bit rfl (tX10_bit (d + 8) r2 μ40 hN41 ) rfl rfl (Nat.le_of_ble_eq_true rfl) (by decide) (by decide) (fun v ν hp => ?_) (fun i ν hp => nrm hp.1)
          obtain ⟨rfl, rfl, hN47, hb48⟩ := QEl hp
          show J _ _ _ _ 85 _ ([.long (fX10_bit r2), .long (μ40.2.2.1 a43 2), .ref a43]) _ _ _ _
          refine J.lxor (pc := 85) dX10_stile_85 ?_
          obtain ⟨μ49, e50, h⟩ := bnd h
          have hN51 : μ49.1 = NN := smN e50 hN47
          refine J.qL (pc := 86) dX10_stile_86 fl_RX10_161 k45 (okN hN47 k45 (by decide)) rfl rfl e50 ?_
          refine J.iconst (pc := 89) dX10_stile_89 ic_1 ?_
          cases h
          exact J.zret (pc := 90) dX10_stile_90 rfl (narB (Or.inr rfl)) ⟨rfl, rfl, hN51, trivial⟩
    · refine J.meq (pc := 19) (tgt := 27) dX10_stile_19 dX10_stile_20 (by decide) (fun q => absurd q hc) (fun _ => ?_)
      refine J.iconst (pc := 23) dX10_stile_23 ic_1 ?_
      refine J.goto (pc := 24) (tgt := 28) dX10_stile_24 (by decide) ?_
      refine J.istore (pc := 28) ([(4, .int (1 : Int32)), (3, .int r2), (0, .ref v0), (1, .int v1), (2, .int v2)]) dX10_stile_28 (Nat.le_of_ble_eq_true rfl) rfl ?_
      refine J.iload (pc := 30) dX10_stile_30 0 rfl ?_
      refine J.iload_n (pc := 32) dX10_stile_32 rfl 4 rfl ?_
      rcases ifc h with ⟨hc, h⟩ | ⟨hc, h⟩
      · refine J.ceq (pc := 33) (tgt := 50) dX10_stile_33 (by decide) (fun _ => ?_) (fun q => absurd hc q)
        refine J.aload_n (pc := 50) dX10_stile_50 rfl 2 rfl ?_
        obtain ⟨a52, e53, h⟩ := bnd h
        have k54 : (kd a52).1 = 0 := gR_k e53
        refine J.fR (pc := 51) dX10_stile_51 fl_RX10_20 k0 (okN hN9 k0 (by decide)) rfl e53 ?_
        refine J.iconst (pc := 54) dX10_stile_54 ic_1 ?_
        refine J.dup2 (pc := 55) dX10_stile_55 rfl rfl ?_
        obtain ⟨x55, e56, h⟩ := bnd h
        refine J.aI (pc := 56) dX10_stile_56 k54 (okN hN9 k54 (by decide)) e56 ?_
        refine J.iconst (pc := 57) dX10_stile_57 ic_1 ?_
        refine J.iadd (pc := 58) dX10_stile_58 ?_
        obtain ⟨μ57, e58, h⟩ := bnd h
        have hN59 : μ57.1 = NN := stI_N e58 hN9
        refine J.wI (pc := 59) dX10_stile_59 k54 (okN hN9 k54 (by decide)) e58 ?_
        refine J.iconst (pc := 60) dX10_stile_60 ic_0 ?_
        cases h
        exact J.zret (pc := 61) dX10_stile_61 rfl (narB (Or.inl rfl)) ⟨rfl, rfl, hN59, trivial⟩
      · refine J.ceq (pc := 33) (tgt := 50) dX10_stile_33 (by decide) (fun q => absurd q hc) (fun _ => ?_)
        refine J.aload_n (pc := 36) dX10_stile_36 rfl 2 rfl ?_
        obtain ⟨a60, e61, h⟩ := bnd h
        have k62 : (kd a60).1 = 11 := gR_k e61
        refine J.fR (pc := 37) dX10_stile_37 fl_RX10_26 k0 (okN hN9 k0 (by decide)) rfl e61 ?_
        refine J.iload_n (pc := 40) dX10_stile_40 rfl 1 rfl ?_
        refine J.bipush (pc := 41) dX10_stile_41 ib_8 ?_
        refine J.iadd (pc := 43) dX10_stile_43 ?_
        refine J.callV (Y := mX10_stile) (Z := mX1_has) (pc := 44) (st := []) (k2 := 0) (n2 := 0) dX10_stile_44 ml_RX10_252 mo_X1_has mv_X1_has rfl (tX1_has (d + 7) a60 (r2 + (8 : Int32)) μ hN9 k62) k62 (okN hN9 k62 (by decide)).1 (okN hN9 k62 (by decide)).2 cq_1 (by decide) rfl rfl (Nat.le_of_ble_eq_true rfl) (by decide) (by decide) (fun v ν hp => ?_) (fun i ν hp => nrm hp.1)
        obtain ⟨rfl, rfl, hN64, hb65⟩ := QEl hp
        show J _ _ _ _ 47 _ ([.int (fX1_has a60 (r2 + (8 : Int32)) μ)]) _ _ _ _
        rcases ifc h with ⟨hc, h⟩ | ⟨hc, h⟩
        · refine J.zne (pc := 47) (tgt := 62) dX10_stile_47 (by decide) (fun _ => ?_) (fun q => absurd hc q)
          refine J.aload_n (pc := 50) dX10_stile_50 rfl 2 rfl ?_
          obtain ⟨a66, e67, h⟩ := bnd h
          have k68 : (kd a66).1 = 0 := gR_k e67
          refine J.fR (pc := 51) dX10_stile_51 fl_RX10_20 k0 (okN hN64 k0 (by decide)) rfl e67 ?_
          refine J.iconst (pc := 54) dX10_stile_54 ic_1 ?_
          refine J.dup2 (pc := 55) dX10_stile_55 rfl rfl ?_
          obtain ⟨x69, e70, h⟩ := bnd h
          refine J.aI (pc := 56) dX10_stile_56 k68 (okN hN64 k68 (by decide)) e70 ?_
          refine J.iconst (pc := 57) dX10_stile_57 ic_1 ?_
          refine J.iadd (pc := 58) dX10_stile_58 ?_
          obtain ⟨μ71, e72, h⟩ := bnd h
          have hN73 : μ71.1 = NN := stI_N e72 hN64
          refine J.wI (pc := 59) dX10_stile_59 k68 (okN hN64 k68 (by decide)) e72 ?_
          refine J.iconst (pc := 60) dX10_stile_60 ic_0 ?_
          cases h
          exact J.zret (pc := 61) dX10_stile_61 rfl (narB (Or.inl rfl)) ⟨rfl, rfl, hN73, trivial⟩
        · refine J.zne (pc := 47) (tgt := 62) dX10_stile_47 (by decide) (fun q => absurd q hc) (fun _ => ?_)
          refine J.aload_n (pc := 62) dX10_stile_62 rfl 2 rfl ?_
          obtain ⟨a74, e75, h⟩ := bnd h
          have k76 : (kd a74).1 = 10 := gR_k e75
          refine J.fR (pc := 63) dX10_stile_63 fl_RX10_52 k0 (okN hN64 k0 (by decide)) rfl e75 ?_
          refine J.aload_n (pc := 66) dX10_stile_66 rfl 2 rfl ?_
          obtain ⟨a77, e78, h⟩ := bnd h
          have k79 : (kd a77).1 = 19 := gR_k e78
          refine J.fR (pc := 67) dX10_stile_67 fl_RX10_45 k0 (okN hN64 k0 (by decide)) rfl e78 ?_
          obtain ⟨μ81, e80, h⟩ := bnd h
          refine J.callV (Y := mX10_stile) (Z := mX0_keep) (pc := 70) (st := []) (k2 := 0) (n2 := 0) dX10_stile_70 ml_RX10_236 mo_X0_keep mv_X0_keep rfl (tX0_keep (d + 6) e80 hN64 k76 k79) k76 (okN hN64 k76 (by decide)).1 (okN hN64 k76 (by decide)).2 cq_0 (by decide) rfl rfl (Nat.le_of_ble_eq_true rfl) (by decide) (by decide) (fun v ν hp => ?_) (fun i ν hp => nrm hp.1)
          obtain ⟨rfl, rfl, hN82, hb83⟩ := QEl hp
          show J _ _ _ _ 73 _ ([]) _ _ _ _
          refine J.aload_n (pc := 73) dX10_stile_73 rfl 2 rfl ?_
          obtain ⟨a84, e85, h⟩ := bnd h
          have k86 : (kd a84).1 = 19 := gR_k e85
          refine J.fR (pc := 74) dX10_stile_74 fl_RX10_45 k0 (okN hN82 k0 (by decide)) rfl e85 ?_
          refine J.dup (pc := 77) dX10_stile_77 rfl ?_
          refine J.fL (pc := 78) dX10_stile_78 fl_RX10_161 k86 (okN hN82 k86 (by decide)) rfl ?_
          refine J.iload_n (pc := 81) dX10_stile_81 rfl 1 rfl ?_
          refine J.callS (Y := mX10_stile) (Z := mX10_bit) (pc := 82) (st := [.long (μ81.2.2.1 a84 2), .ref a84]) (k2 := 0) (n2 := 0) dX10_stile_82 ml_RX10_248 mo_X10_bit ms_X10_bit rfl (tX10_bit (d + 8) r2 μ81 hN82 ) rfl rfl (Nat.le_of_ble_eq_true rfl) (by decide) (by decide) (fun v ν hp => ?_) (fun i ν hp => nrm hp.1)
          obtain ⟨rfl, rfl, hN88, hb89⟩ := QEl hp
          show J _ _ _ _ 85 _ ([.long (fX10_bit r2), .long (μ81.2.2.1 a84 2), .ref a84]) _ _ _ _
          refine J.lxor (pc := 85) dX10_stile_85 ?_
          obtain ⟨μ90, e91, h⟩ := bnd h
          have hN92 : μ90.1 = NN := smN e91 hN88
          refine J.qL (pc := 86) dX10_stile_86 fl_RX10_161 k86 (okN hN88 k86 (by decide)) rfl rfl e91 ?_
          refine J.iconst (pc := 89) dX10_stile_89 ic_1 ?_
          cases h
          exact J.zret (pc := 90) dX10_stile_90 rfl (narB (Or.inr rfl)) ⟨rfl, rfl, hN92, trivial⟩
  · try dsimp only at h
    refine J.callV (Y := mX10_stile) (Z := mX10_inside) (pc := 2) (st := []) (k2 := 0) (n2 := 0) dX10_stile_2 ml_RX10_233 mo_X10_inside mv_X10_inside rfl (tX10_inside d e1 hN k0) k0 (okN hN k0 (by decide)).1 (okN hN k0 (by decide)).2 cq_10 (by decide) rfl rfl (Nat.le_of_ble_eq_true rfl) (by decide) (by decide) (fun v ν hp => nlm hp.1) (fun i ν hp => ?_)
    obtain ⟨rfl, rfl, hN9, -⟩ := QEr hp
    cases h
    exact JX.out rfl ⟨rfl, rfl, hN9, trivial⟩
