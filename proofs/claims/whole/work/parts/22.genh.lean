def fX5_pathsOver_8 (μ : Mem) : Nat → Nat → Int32 → Int64 → Int32 → Option (Int32)
  | 0, _, _, _, _ => none
  | n + 1, v0, v3, v4, v6 =>
    if v6 < (4 : Int32) then
      if v4 = (0 : Int64) then
        some v3
      else
        (gR μ v0 4 0).bind fun a1 =>
        (ldI μ a1 (fX10_lowest v4)).bind fun x7 =>
        (fX5_pathsOver_8 μ n) v0 (v3 + x7) (v4 &&& (v4 - (1 : Int64))) (v6 + (1 : Int32))
    else
      some v3
set_option maxHeartbeats 4000000 in
theorem tX5_pathsOver_8 {ω : Wd} {l : Launch} (d : Nat) {μ : Mem} (hN : μ.1 = NN) {res : Int32} : ∀ n : Nat, ∀ (v0 : Nat) (v3 : Int32) (v4 : Int64) (v6 : Int32), fX5_pathsOver_8 μ n v0 v3 v4 v6 = some res → (kd v0).1 = 15 → J ω l mX5_pathsOver (d + 2) 8 [(0, .ref v0), (3, .int v3), (4, .long v4), (6, .int v6)] [] μ 0 0 (PE (.inl (some (.int res))) μ True) := by
  intro n
  induction n with
  | zero =>
    intro v0 v3 v4 v6 h k0
    have h9 : (none : Option (Int32)) = some res := h
    cases h9
  | succ n ih =>
    intro v0 v3 v4 v6 h k0
    unfold fX5_pathsOver_8 at h
    refine J.iload (pc := 8) dX5_pathsOver_8 3 rfl ?_
    refine J.iconst (pc := 10) dX5_pathsOver_10 ic_4 ?_
    rcases ifc h with ⟨hc, h⟩ | ⟨hc, h⟩
    · refine J.cge (pc := 11) (tgt := 49) dX5_pathsOver_11 (by decide) (fun _ => ?_) (fun q => absurd hc q)
      refine J.lload (pc := 14) dX5_pathsOver_14 2 rfl ?_
      refine J.lconst (pc := 16) dX5_pathsOver_16 lc_0 ?_
      rcases ifc h with ⟨hc, h⟩ | ⟨hc, h⟩
      · refine J.meq (pc := 17) (tgt := 49) dX5_pathsOver_17 dX5_pathsOver_18 (by decide) (fun _ => ?_) (fun q => absurd hc q)
        refine J.iload_n (pc := 49) dX5_pathsOver_49 rfl 1 rfl ?_
        cases h
        exact J.iret (pc := 50) dX5_pathsOver_50 rfl ⟨rfl, rfl, hN, trivial⟩
      · refine J.meq (pc := 17) (tgt := 49) dX5_pathsOver_17 dX5_pathsOver_18 (by decide) (fun q => absurd q hc) (fun _ => ?_)
        refine J.iload_n (pc := 21) dX5_pathsOver_21 rfl 1 rfl ?_
        refine J.aload_n (pc := 22) dX5_pathsOver_22 rfl 0 rfl ?_
        obtain ⟨a1, e2, h⟩ := bnd h
        have k3 : (kd a1).1 = 0 := gR_k e2
        refine J.fR (pc := 23) dX5_pathsOver_23 fl_RX5_25 k0 (okN hN k0 (by decide)) rfl e2 ?_
        refine J.lload (pc := 26) dX5_pathsOver_26 2 rfl ?_
        refine J.callSN (Y := mX5_pathsOver) (Z := mX10_lowest) (pc := 28) (st := [.ref a1, .int v3]) (k2 := 0) (n2 := 0) dX5_pathsOver_28 ml_RX5_50 mo_X10_lowest ms_X10_lowest rfl (tX10_lowest d v4 μ hN ) (fun i ν hp => nrm hp.1) rfl rfl (Nat.le_of_ble_eq_true rfl) (by decide) (by decide) (fun v ν hp => ?_)
        obtain ⟨rfl, rfl, hN5, hb6⟩ := QEl hp
        show J _ _ _ _ 31 _ ([.int (fX10_lowest v4), .ref a1, .int v3]) _ _ _ _
        obtain ⟨x7, e8, h⟩ := bnd h
        refine J.aI (pc := 31) dX5_pathsOver_31 k3 (okN hN5 k3 (by decide)) e8 ?_
        refine J.iadd (pc := 32) dX5_pathsOver_32 ?_
        refine J.istore_n (pc := 33) ([(3, .int (v3 + x7)), (0, .ref v0), (4, .long v4), (6, .int v6)]) dX5_pathsOver_33 rfl (Nat.le_of_ble_eq_true rfl) rfl ?_
        refine J.lload (pc := 34) dX5_pathsOver_34 2 rfl ?_
        refine J.lload (pc := 36) dX5_pathsOver_36 2 rfl ?_
        refine J.lconst (pc := 38) dX5_pathsOver_38 lc_1 ?_
        refine J.lsub (pc := 39) dX5_pathsOver_39 ?_
        refine J.land (pc := 40) dX5_pathsOver_40 ?_
        refine J.lstore (pc := 41) ([(4, .long (v4 &&& (v4 - (1 : Int64)))), (3, .int (v3 + x7)), (0, .ref v0), (6, .int v6)]) dX5_pathsOver_41 (Nat.le_of_ble_eq_true rfl) rfl ?_
        refine J.iinc (pc := 43) (j := 3) ([(6, .int (v6 + (1 : Int32))), (4, .long (v4 &&& (v4 - (1 : Int64)))), (3, .int (v3 + x7)), (0, .ref v0)]) dX5_pathsOver_43 rfl (iincv ic_1) (Nat.le_of_ble_eq_true rfl) rfl ?_
        refine J.goto (pc := 46) (tgt := 8) dX5_pathsOver_46 (by decide) ?_
        refine J.pick [3, 2, 1, 0] rfl ?_
        exact ih v0 (v3 + x7) (v4 &&& (v4 - (1 : Int64))) (v6 + (1 : Int32)) h k0
    · refine J.cge (pc := 11) (tgt := 49) dX5_pathsOver_11 (by decide) (fun q => absurd q hc) (fun _ => ?_)
      refine J.iload_n (pc := 49) dX5_pathsOver_49 rfl 1 rfl ?_
      cases h
      exact J.iret (pc := 50) dX5_pathsOver_50 rfl ⟨rfl, rfl, hN, trivial⟩
def fX5_pathsOver (v0 : Nat) (v1 : Int64) (μ : Mem) : Option (Int32) :=
  (fX5_pathsOver_8 μ fuel) v0 (0 : Int32) v1 (0 : Int32)
set_option maxHeartbeats 4000000 in
theorem tX5_pathsOver {ω : Wd} {l : Launch} (d : Nat) {v0 : Nat} {v1 : Int64} {μ : Mem} {res : Int32} (h : fX5_pathsOver v0 v1 μ = some res) (hN : μ.1 = NN) (k0 : (kd v0).1 = 15) : Ct ω l mX5_pathsOver (d + 2) [.ref v0, .long v1] μ 0 0 (PE (.inl (some (.int res))) μ True) := by
  refine Ct.of pn_RX5 (Nat.le_of_ble_eq_true rfl) ?_
  show J ω l mX5_pathsOver (d + 2) 0 [(0, .ref v0), (1, .long v1)] [] μ 0 0 _
  unfold fX5_pathsOver at h
  refine J.iconst (pc := 0) dX5_pathsOver_0 ic_0 ?_
  refine J.istore_n (pc := 1) ([(3, .int (0 : Int32)), (0, .ref v0), (1, .long v1)]) dX5_pathsOver_1 rfl (Nat.le_of_ble_eq_true rfl) rfl ?_
  refine J.lload_n (pc := 2) dX5_pathsOver_2 rfl 2 rfl ?_
  refine J.lstore (pc := 3) ([(4, .long v1), (3, .int (0 : Int32)), (0, .ref v0), (1, .long v1)]) dX5_pathsOver_3 (Nat.le_of_ble_eq_true rfl) rfl ?_
  refine J.iconst (pc := 5) dX5_pathsOver_5 ic_0 ?_
  refine J.istore (pc := 6) ([(6, .int (0 : Int32)), (4, .long v1), (3, .int (0 : Int32)), (0, .ref v0), (1, .long v1)]) dX5_pathsOver_6 (Nat.le_of_ble_eq_true rfl) rfl ?_
  refine J.pick [3, 2, 1, 0] rfl ?_
  exact (tX5_pathsOver_8 d hN fuel) v0 (0 : Int32) v1 (0 : Int32) h k0
def fX5_shortestWays_58  (K50 : Nat → Int32 → Int32 → Mem → Option (Int32 × Mem)) : Nat → Nat → Int32 → Int32 → Int32 → Mem → Option (Int32 × Mem)
  | 0, _, _, _, _, _ => none
  | n + 1, v0, v2, v4, v5, μ =>
    if v5 < (48 : Int32) then
      (gR μ v0 3 1).bind fun a1 =>
      (ldL μ a1 v4).bind fun x4 =>
      if ((x4 &&& (μ.2.2.1 v0 1)) &&& (fX10_bit v5)) = (0 : Int64) then
        (fX5_shortestWays_58 K50 n) v0 v2 v4 (v5 + (1 : Int32)) μ
      else
        (gR μ v0 4 0).bind fun a9 =>
        (gR μ v0 3 1).bind fun a18 =>
        (ldL μ a18 (v4 + (1 : Int32))).bind fun x21 =>
        (fX5_pathsOver v0 ((fX5_beside v0 (fX10_bit v5) μ) &&& x21) μ).bind fun r24 =>
        (stI μ a9 v5 r24).bind fun μ27 =>
        (fX5_shortestWays_58 K50 n) v0 v2 v4 (v5 + (1 : Int32)) μ27
    else
      K50 v0 v2 (v4 + (-1 : Int32)) μ
set_option maxHeartbeats 4000000 in
theorem tX5_shortestWays_58 {ω : Wd} {l : Launch} (d : Nat) {res : Int32 × Mem} (K50 : Nat → Int32 → Int32 → Mem → Option (Int32 × Mem)) (hK50 : ∀ (v0 : Nat) (v2 : Int32) (v4 : Int32) (μ : Mem), K50 v0 v2 v4 μ = some res → μ.1 = NN → (kd v0).1 = 15 → J ω l mX5_shortestWays (d + 3) 50 [(0, .ref v0), (2, .int v2), (4, .int v4)] [] μ 0 0 (PE (.inl (some (.int res.1))) res.2 True)) : ∀ n : Nat, ∀ (v0 : Nat) (v2 : Int32) (v4 : Int32) (v5 : Int32) (μ : Mem), fX5_shortestWays_58 K50 n v0 v2 v4 v5 μ = some res → μ.1 = NN → (kd v0).1 = 15 → J ω l mX5_shortestWays (d + 3) 58 [(0, .ref v0), (2, .int v2), (4, .int v4), (5, .int v5)] [] μ 0 0 (PE (.inl (some (.int res.1))) res.2 True) := by
  intro n
  induction n with
  | zero =>
    intro v0 v2 v4 v5 μ h hN k0
    have h9 : (none : Option (Int32 × Mem)) = some res := h
    cases h9
  | succ n ih =>
    intro v0 v2 v4 v5 μ h hN k0
    unfold fX5_shortestWays_58 at h
    refine J.iload (pc := 58) dX5_shortestWays_58 3 rfl ?_
    refine J.bipush (pc := 60) dX5_shortestWays_60 ib_48 ?_
    rcases ifc h with ⟨hc, h⟩ | ⟨hc, h⟩
    · refine J.cge (pc := 62) (tgt := 124) dX5_shortestWays_62 (by decide) (fun _ => ?_) (fun q => absurd hc q)
      refine J.aload_n (pc := 65) dX5_shortestWays_65 rfl 0 rfl ?_
      obtain ⟨a1, e2, h⟩ := bnd h
      have k3 : (kd a1).1 = 1 := gR_k e2
      refine J.fR (pc := 66) dX5_shortestWays_66 fl_RX5_21 k0 (okN hN k0 (by decide)) rfl e2 ?_
      refine J.iload (pc := 69) dX5_shortestWays_69 2 rfl ?_
      obtain ⟨x4, e5, h⟩ := bnd h
      refine J.aL (pc := 71) dX5_shortestWays_71 k3 (okN hN k3 (by decide)) e5 ?_
      refine J.aload_n (pc := 72) dX5_shortestWays_72 rfl 0 rfl ?_
      refine J.fL (pc := 73) dX5_shortestWays_73 fl_RX5_15 k0 (okN hN k0 (by decide)) rfl ?_
      refine J.land (pc := 76) dX5_shortestWays_76 ?_
      refine J.iload (pc := 77) dX5_shortestWays_77 3 rfl ?_
      refine J.callSN (Y := mX5_shortestWays) (Z := mX10_bit) (pc := 79) (st := [.long (x4 &&& (μ.2.2.1 v0 1))]) (k2 := 0) (n2 := 0) dX5_shortestWays_79 ml_RX5_40 mo_X10_bit ms_X10_bit rfl (tX10_bit (d + 2) v5 μ hN ) (fun i ν hp => nrm hp.1) rfl rfl (Nat.le_of_ble_eq_true rfl) (by decide) (by decide) (fun v ν hp => ?_)
      obtain ⟨rfl, rfl, hN7, hb8⟩ := QEl hp
      show J _ _ _ _ 82 _ ([.long (fX10_bit v5), .long (x4 &&& (μ.2.2.1 v0 1))]) _ _ _ _
      refine J.land (pc := 82) dX5_shortestWays_82 ?_
      refine J.lconst (pc := 83) dX5_shortestWays_83 lc_0 ?_
      rcases ifc h with ⟨hc, h⟩ | ⟨hc, h⟩
      · refine J.meq (pc := 84) (tgt := 118) dX5_shortestWays_84 dX5_shortestWays_85 (by decide) (fun _ => ?_) (fun q => absurd hc q)
        refine J.iinc (pc := 118) (j := 3) ([(5, .int (v5 + (1 : Int32))), (0, .ref v0), (2, .int v2), (4, .int v4)]) dX5_shortestWays_118 rfl (iincv ic_1) (Nat.le_of_ble_eq_true rfl) rfl ?_
        refine J.goto (pc := 121) (tgt := 58) dX5_shortestWays_121 (by decide) ?_
        refine J.pick [1, 2, 3, 0] rfl ?_
        exact ih v0 v2 v4 (v5 + (1 : Int32)) μ h hN7 k0
      · refine J.meq (pc := 84) (tgt := 118) dX5_shortestWays_84 dX5_shortestWays_85 (by decide) (fun q => absurd q hc) (fun _ => ?_)
        refine J.aload_n (pc := 88) dX5_shortestWays_88 rfl 0 rfl ?_
        obtain ⟨a9, e10, h⟩ := bnd h
        have k11 : (kd a9).1 = 0 := gR_k e10
        refine J.fR (pc := 89) dX5_shortestWays_89 fl_RX5_25 k0 (okN hN7 k0 (by decide)) rfl e10 ?_
        refine J.iload (pc := 92) dX5_shortestWays_92 3 rfl ?_
        refine J.aload_n (pc := 94) dX5_shortestWays_94 rfl 0 rfl ?_
        refine J.aload_n (pc := 95) dX5_shortestWays_95 rfl 0 rfl ?_
        refine J.iload (pc := 96) dX5_shortestWays_96 3 rfl ?_
        refine J.callSN (Y := mX5_shortestWays) (Z := mX10_bit) (pc := 98) (st := [.ref v0, .ref v0, .int v5, .ref a9]) (k2 := 0) (n2 := 0) dX5_shortestWays_98 ml_RX5_40 mo_X10_bit ms_X10_bit rfl (tX10_bit (d + 2) v5 μ hN7 ) (fun i ν hp => nrm hp.1) rfl rfl (Nat.le_of_ble_eq_true rfl) (by decide) (by decide) (fun v ν hp => ?_)
        obtain ⟨rfl, rfl, hN13, hb14⟩ := QEl hp
        show J _ _ _ _ 101 _ ([.long (fX10_bit v5), .ref v0, .ref v0, .int v5, .ref a9]) _ _ _ _
        refine J.callV (Y := mX5_shortestWays) (Z := mX5_beside) (pc := 101) (st := [.ref v0, .int v5, .ref a9]) (k2 := 0) (n2 := 0) dX5_shortestWays_101 ml_RX5_44 mo_X5_beside mv_X5_beside rfl (tX5_beside (d + 2) v0 (fX10_bit v5) μ hN13 k0) k0 (okN hN13 k0 (by decide)).1 (okN hN13 k0 (by decide)).2 cq_5 (by decide) rfl rfl (Nat.le_of_ble_eq_true rfl) (by decide) (by decide) (fun v ν hp => ?_) (fun i ν hp => nrm hp.1)
        obtain ⟨rfl, rfl, hN16, hb17⟩ := QEl hp
        show J _ _ _ _ 104 _ ([.long (fX5_beside v0 (fX10_bit v5) μ), .ref v0, .int v5, .ref a9]) _ _ _ _
        refine J.aload_n (pc := 104) dX5_shortestWays_104 rfl 0 rfl ?_
        obtain ⟨a18, e19, h⟩ := bnd h
        have k20 : (kd a18).1 = 1 := gR_k e19
        refine J.fR (pc := 105) dX5_shortestWays_105 fl_RX5_21 k0 (okN hN16 k0 (by decide)) rfl e19 ?_
        refine J.iload (pc := 108) dX5_shortestWays_108 2 rfl ?_
        refine J.iconst (pc := 110) dX5_shortestWays_110 ic_1 ?_
        refine J.iadd (pc := 111) dX5_shortestWays_111 ?_
        obtain ⟨x21, e22, h⟩ := bnd h
        refine J.aL (pc := 112) dX5_shortestWays_112 k20 (okN hN16 k20 (by decide)) e22 ?_
        refine J.land (pc := 113) dX5_shortestWays_113 ?_
        obtain ⟨r24, e23, h⟩ := bnd h
        refine J.callV (Y := mX5_shortestWays) (Z := mX5_pathsOver) (pc := 114) (st := [.int v5, .ref a9]) (k2 := 0) (n2 := 0) dX5_shortestWays_114 ml_RX5_62 mo_X5_pathsOver mv_X5_pathsOver rfl (tX5_pathsOver d e23 hN16 k0) k0 (okN hN16 k0 (by decide)).1 (okN hN16 k0 (by decide)).2 cq_5 (by decide) rfl rfl (Nat.le_of_ble_eq_true rfl) (by decide) (by decide) (fun v ν hp => ?_) (fun i ν hp => nrm hp.1)
        obtain ⟨rfl, rfl, hN25, hb26⟩ := QEl hp
        show J _ _ _ _ 117 _ ([.int r24, .int v5, .ref a9]) _ _ _ _
        obtain ⟨μ27, e28, h⟩ := bnd h
        have hN29 : μ27.1 = NN := stI_N e28 hN25
        refine J.wI (pc := 117) dX5_shortestWays_117 k11 (okN hN25 k11 (by decide)) e28 ?_
        refine J.iinc (pc := 118) (j := 3) ([(5, .int (v5 + (1 : Int32))), (0, .ref v0), (2, .int v2), (4, .int v4)]) dX5_shortestWays_118 rfl (iincv ic_1) (Nat.le_of_ble_eq_true rfl) rfl ?_
        refine J.goto (pc := 121) (tgt := 58) dX5_shortestWays_121 (by decide) ?_
        refine J.pick [1, 2, 3, 0] rfl ?_
        exact ih v0 v2 v4 (v5 + (1 : Int32)) μ27 h hN29 k0
    · refine J.cge (pc := 62) (tgt := 124) dX5_shortestWays_62 (by decide) (fun q => absurd q hc) (fun _ => ?_)
      refine J.iinc (pc := 124) (j := 2) ([(4, .int (v4 + (-1 : Int32))), (0, .ref v0), (2, .int v2), (5, .int v5)]) dX5_shortestWays_124 rfl (iincv ic_m1) (Nat.le_of_ble_eq_true rfl) rfl ?_
      refine J.goto (pc := 127) (tgt := 50) dX5_shortestWays_127 (by decide) ?_
      refine J.pick [1, 2, 0] rfl ?_
      exact hK50 v0 v2 (v4 + (-1 : Int32)) μ h hN k0
def fX5_shortestWays_50  : Nat → Nat → Int32 → Int32 → Mem → Option (Int32 × Mem)
  | 0, _, _, _, _ => none
  | n + 1, v0, v2, v4, μ =>
    if v4 < 0 then
      (gR μ v0 4 0).bind fun a1 =>
      (ldI μ a1 v2).bind fun x4 =>
      some (x4, μ)
    else
      (fX5_shortestWays_58 (fX5_shortestWays_50 n) fuel) v0 v2 v4 (0 : Int32) μ
set_option maxHeartbeats 4000000 in
theorem tX5_shortestWays_50 {ω : Wd} {l : Launch} (d : Nat) {res : Int32 × Mem} : ∀ n : Nat, ∀ (v0 : Nat) (v2 : Int32) (v4 : Int32) (μ : Mem), fX5_shortestWays_50 n v0 v2 v4 μ = some res → μ.1 = NN → (kd v0).1 = 15 → J ω l mX5_shortestWays (d + 3) 50 [(0, .ref v0), (2, .int v2), (4, .int v4)] [] μ 0 0 (PE (.inl (some (.int res.1))) res.2 True) := by
  intro n
  induction n with
  | zero =>
    intro v0 v2 v4 μ h hN k0
    have h9 : (none : Option (Int32 × Mem)) = some res := h
    cases h9
  | succ n ih =>
    intro v0 v2 v4 μ h hN k0
    unfold fX5_shortestWays_50 at h
    refine J.iload (pc := 50) dX5_shortestWays_50 2 rfl ?_
    rcases ifc h with ⟨hc, h⟩ | ⟨hc, h⟩
    · refine J.zlt (pc := 52) (tgt := 130) dX5_shortestWays_52 (by decide) (fun _ => ?_) (fun q => absurd hc q)
      refine J.aload_n (pc := 130) dX5_shortestWays_130 rfl 0 rfl ?_
      obtain ⟨a1, e2, h⟩ := bnd h
      have k3 : (kd a1).1 = 0 := gR_k e2
      refine J.fR (pc := 131) dX5_shortestWays_131 fl_RX5_25 k0 (okN hN k0 (by decide)) rfl e2 ?_
      refine J.iload_n (pc := 134) dX5_shortestWays_134 rfl 1 rfl ?_
      obtain ⟨x4, e5, h⟩ := bnd h
      refine J.aI (pc := 135) dX5_shortestWays_135 k3 (okN hN k3 (by decide)) e5 ?_
      cases h
      exact J.iret (pc := 136) dX5_shortestWays_136 rfl ⟨rfl, rfl, hN, trivial⟩
    · refine J.zlt (pc := 52) (tgt := 130) dX5_shortestWays_52 (by decide) (fun q => absurd q hc) (fun _ => ?_)
      refine J.iconst (pc := 55) dX5_shortestWays_55 ic_0 ?_
      refine J.istore (pc := 56) ([(5, .int (0 : Int32)), (0, .ref v0), (2, .int v2), (4, .int v4)]) dX5_shortestWays_56 (Nat.le_of_ble_eq_true rfl) rfl ?_
      refine J.pick [1, 2, 3, 0] rfl ?_
      exact (tX5_shortestWays_58 d (fX5_shortestWays_50 n) ih fuel) v0 v2 v4 (0 : Int32) μ h hN k0
def fX5_shortestWays_17  : Nat → Nat → Int32 → Int32 → Int32 → Int32 → Mem → Option (Int32 × Mem)
  | 0, _, _, _, _, _, _ => none
  | n + 1, v0, v1, v2, v3, v4, μ =>
    if v4 < (48 : Int32) then
      (gR μ v0 4 0).bind fun a1 =>
      (stI μ a1 v4 (0 : Int32)).bind fun μ4 =>
      (fX5_shortestWays_17 n) v0 v1 v2 v3 (v4 + (1 : Int32)) μ4
    else
      (gR μ v0 4 0).bind fun a7 =>
      (stI μ a7 v1 (1 : Int32)).bind fun μ10 =>
      (fX5_shortestWays_50 fuel) v0 v2 (v3 - (1 : Int32)) μ10
set_option maxHeartbeats 4000000 in
theorem tX5_shortestWays_17 {ω : Wd} {l : Launch} (d : Nat) {res : Int32 × Mem} : ∀ n : Nat, ∀ (v0 : Nat) (v1 : Int32) (v2 : Int32) (v3 : Int32) (v4 : Int32) (μ : Mem), fX5_shortestWays_17 n v0 v1 v2 v3 v4 μ = some res → μ.1 = NN → (kd v0).1 = 15 → J ω l mX5_shortestWays (d + 3) 17 [(0, .ref v0), (1, .int v1), (2, .int v2), (3, .int v3), (4, .int v4)] [] μ 0 0 (PE (.inl (some (.int res.1))) res.2 True) := by
  intro n
  induction n with
  | zero =>
    intro v0 v1 v2 v3 v4 μ h hN k0
    have h9 : (none : Option (Int32 × Mem)) = some res := h
    cases h9
  | succ n ih =>
    intro v0 v1 v2 v3 v4 μ h hN k0
    unfold fX5_shortestWays_17 at h
    refine J.iload (pc := 17) dX5_shortestWays_17 4 rfl ?_
    refine J.bipush (pc := 19) dX5_shortestWays_19 ib_48 ?_
    rcases ifc h with ⟨hc, h⟩ | ⟨hc, h⟩
    · refine J.cge (pc := 21) (tgt := 38) dX5_shortestWays_21 (by decide) (fun _ => ?_) (fun q => absurd hc q)
      refine J.aload_n (pc := 24) dX5_shortestWays_24 rfl 0 rfl ?_
      obtain ⟨a1, e2, h⟩ := bnd h
      have k3 : (kd a1).1 = 0 := gR_k e2
      refine J.fR (pc := 25) dX5_shortestWays_25 fl_RX5_25 k0 (okN hN k0 (by decide)) rfl e2 ?_
      refine J.iload (pc := 28) dX5_shortestWays_28 4 rfl ?_
      refine J.iconst (pc := 30) dX5_shortestWays_30 ic_0 ?_
      obtain ⟨μ4, e5, h⟩ := bnd h
      have hN6 : μ4.1 = NN := stI_N e5 hN
      refine J.wI (pc := 31) dX5_shortestWays_31 k3 (okN hN k3 (by decide)) e5 ?_
      refine J.iinc (pc := 32) (j := 4) ([(4, .int (v4 + (1 : Int32))), (0, .ref v0), (1, .int v1), (2, .int v2), (3, .int v3)]) dX5_shortestWays_32 rfl (iincv ic_1) (Nat.le_of_ble_eq_true rfl) rfl ?_
      refine J.goto (pc := 35) (tgt := 17) dX5_shortestWays_35 (by decide) ?_
      refine J.pick [1, 2, 3, 4, 0] rfl ?_
      exact ih v0 v1 v2 v3 (v4 + (1 : Int32)) μ4 h hN6 k0
    · refine J.cge (pc := 21) (tgt := 38) dX5_shortestWays_21 (by decide) (fun q => absurd q hc) (fun _ => ?_)
      refine J.aload_n (pc := 38) dX5_shortestWays_38 rfl 0 rfl ?_
      obtain ⟨a7, e8, h⟩ := bnd h
      have k9 : (kd a7).1 = 0 := gR_k e8
      refine J.fR (pc := 39) dX5_shortestWays_39 fl_RX5_25 k0 (okN hN k0 (by decide)) rfl e8 ?_
      refine J.iload_n (pc := 42) dX5_shortestWays_42 rfl 1 rfl ?_
      refine J.iconst (pc := 43) dX5_shortestWays_43 ic_1 ?_
      obtain ⟨μ10, e11, h⟩ := bnd h
      have hN12 : μ10.1 = NN := stI_N e11 hN
      refine J.wI (pc := 44) dX5_shortestWays_44 k9 (okN hN k9 (by decide)) e11 ?_
      refine J.iload_n (pc := 45) dX5_shortestWays_45 rfl 3 rfl ?_
      refine J.iconst (pc := 46) dX5_shortestWays_46 ic_1 ?_
      refine J.isub (pc := 47) dX5_shortestWays_47 ?_
      refine J.istore (pc := 48) ([(4, .int (v3 - (1 : Int32))), (0, .ref v0), (1, .int v1), (2, .int v2), (3, .int v3)]) dX5_shortestWays_48 (Nat.le_of_ble_eq_true rfl) rfl ?_
      refine J.pick [1, 3, 0] rfl ?_
      exact (tX5_shortestWays_50 d fuel) v0 v2 (v3 - (1 : Int32)) μ10 h hN12 k0
def fX5_shortestWays (v0 : Nat) (v1 : Int32) (v2 : Int32) (μ : Mem) : Option (Int32 × Mem) :=
  (fX5_far v0 v1 v2 μ).bind fun (r3, μ2) =>
  if r3 = (-1 : Int32) then
    some ((0 : Int32), μ2)
  else
    (fX5_shortestWays_17 fuel) v0 v1 v2 r3 (0 : Int32) μ2
set_option maxHeartbeats 4000000 in
theorem tX5_shortestWays {ω : Wd} {l : Launch} (d : Nat) {v0 : Nat} {v1 : Int32} {v2 : Int32} {μ : Mem} {res : Int32 × Mem} (h : fX5_shortestWays v0 v1 v2 μ = some res) (hN : μ.1 = NN) (k0 : (kd v0).1 = 15) : Ct ω l mX5_shortestWays (d + 3) [.ref v0, .int v1, .int v2] μ 0 0 (PE (.inl (some (.int res.1))) res.2 True) := by
  refine Ct.of pn_RX5 (Nat.le_of_ble_eq_true rfl) ?_
  show J ω l mX5_shortestWays (d + 3) 0 [(0, .ref v0), (1, .int v1), (2, .int v2)] [] μ 0 0 _
  unfold fX5_shortestWays at h
  refine J.aload_n (pc := 0) dX5_shortestWays_0 rfl 0 rfl ?_
  refine J.iload_n (pc := 1) dX5_shortestWays_1 rfl 1 rfl ?_
  refine J.iload_n (pc := 2) dX5_shortestWays_2 rfl 2 rfl ?_
  obtain ⟨⟨r3, μ2⟩, e1, h⟩ := bnd h
  try dsimp only at h
  refine J.callV (Y := mX5_shortestWays) (Z := mX5_far) (pc := 3) (st := []) (k2 := 0) (n2 := 0) dX5_shortestWays_3 ml_RX5_58 mo_X5_far mv_X5_far rfl (tX5_far (d + 1) e1 hN k0) k0 (okN hN k0 (by decide)).1 (okN hN k0 (by decide)).2 cq_5 (by decide) rfl rfl (Nat.le_of_ble_eq_true rfl) (by decide) (by decide) (fun v ν hp => ?_) (fun i ν hp => nrm hp.1)
  obtain ⟨rfl, rfl, hN4, hb5⟩ := QEl hp
  show J _ _ _ _ 6 _ ([.int r3]) _ _ _ _
  refine J.istore_n (pc := 6) ([(3, .int r3), (0, .ref v0), (1, .int v1), (2, .int v2)]) dX5_shortestWays_6 rfl (Nat.le_of_ble_eq_true rfl) rfl ?_
  refine J.iload_n (pc := 7) dX5_shortestWays_7 rfl 0 rfl ?_
  refine J.iconst (pc := 8) dX5_shortestWays_8 ic_m1 ?_
  rcases ifc h with ⟨hc, h⟩ | ⟨hc, h⟩
  · refine J.cne (pc := 9) (tgt := 14) dX5_shortestWays_9 (by decide) (fun _ => ?_) (fun q => absurd hc q)
    refine J.iconst (pc := 12) dX5_shortestWays_12 ic_0 ?_
    cases h
    exact J.iret (pc := 13) dX5_shortestWays_13 rfl ⟨rfl, rfl, hN4, trivial⟩
  · refine J.cne (pc := 9) (tgt := 14) dX5_shortestWays_9 (by decide) (fun q => absurd q hc) (fun _ => ?_)
    refine J.iconst (pc := 14) dX5_shortestWays_14 ic_0 ?_
    refine J.istore (pc := 15) ([(4, .int (0 : Int32)), (3, .int r3), (0, .ref v0), (1, .int v1), (2, .int v2)]) dX5_shortestWays_15 (Nat.le_of_ble_eq_true rfl) rfl ?_
    refine J.pick [2, 3, 4, 1, 0] rfl ?_
    exact (tX5_shortestWays_17 d fuel) v0 v1 v2 r3 (0 : Int32) μ2 h hN4 k0
def fX10_ways (v0 : Nat) (v1 : Int32) (v2 : Int32) (μ : Mem) : Option ((Int32 ⊕ Nat) × Mem) :=
  (fX10_inside v0 v1 μ).bind fun
  | .inl r2 =>
    (fX10_inside v0 v2 μ).bind fun
    | .inl r6 =>
      (fX10_here v0 μ).bind fun (a11, μ10) =>
      (fX5_shortestWays a11 r2 r6 μ10).bind fun (r16, μ15) =>
      some (.inl r16, μ15)
    | .inr i19 =>
      some (.inr i19, μ)
  | .inr i20 =>
    some (.inr i20, μ)
set_option maxHeartbeats 4000000 in
theorem tX10_ways {ω : Wd} {l : Launch} (d : Nat) {v0 : Nat} {v1 : Int32} {v2 : Int32} {μ : Mem} {res : (Int32 ⊕ Nat) × Mem} (h : fX10_ways v0 v1 v2 μ = some res) (hN : μ.1 = NN) (k0 : (kd v0).1 = 20) : Ct ω l mX10_ways (d + 9) [.ref v0, .int v1, .int v2] μ 2 12 (PE (oI res.1) res.2 True) := by
  refine Ct.of pn_RX10 (Nat.le_of_ble_eq_true rfl) ?_
  show J ω l mX10_ways (d + 9) 0 [(0, .ref v0), (1, .int v1), (2, .int v2)] [] μ 2 12 _
  unfold fX10_ways at h
  refine J.aload_n (pc := 0) dX10_ways_0 rfl 0 rfl ?_
  refine J.iload_n (pc := 1) dX10_ways_1 rfl 1 rfl ?_
  obtain ⟨q, e1, h⟩ := bnd h
  rcases q with r2 | i20
  · try dsimp only at h
    refine J.callV (Y := mX10_ways) (Z := mX10_inside) (pc := 2) (st := []) (k2 := 1) (n2 := 6) dX10_ways_2 ml_RX10_233 mo_X10_inside mv_X10_inside rfl (tX10_inside d e1 hN k0) k0 (okN hN k0 (by decide)).1 (okN hN k0 (by decide)).2 cq_10 (by decide) rfl rfl (Nat.le_of_ble_eq_true rfl) (by decide) (by decide) (fun v ν hp => ?_) (fun i ν hp => nrm hp.1)
    obtain ⟨rfl, rfl, hN3, hb4⟩ := QEl hp
    show J _ _ _ _ 5 _ ([.int r2]) _ _ _ _
    refine J.istore_n (pc := 5) ([(3, .int r2), (0, .ref v0), (1, .int v1), (2, .int v2)]) dX10_ways_5 rfl (Nat.le_of_ble_eq_true rfl) rfl ?_
    refine J.aload_n (pc := 6) dX10_ways_6 rfl 1 rfl ?_
    refine J.iload_n (pc := 7) dX10_ways_7 rfl 3 rfl ?_
    obtain ⟨q, e5, h⟩ := bnd h
    rcases q with r6 | i19
    · try dsimp only at h
      refine J.callV (Y := mX10_ways) (Z := mX10_inside) (pc := 8) (st := []) (k2 := 0) (n2 := 0) dX10_ways_8 ml_RX10_233 mo_X10_inside mv_X10_inside rfl (tX10_inside d e5 hN3 k0) k0 (okN hN3 k0 (by decide)).1 (okN hN3 k0 (by decide)).2 cq_10 (by decide) rfl rfl (Nat.le_of_ble_eq_true rfl) (by decide) (by decide) (fun v ν hp => ?_) (fun i ν hp => nrm hp.1)
      obtain ⟨rfl, rfl, hN7, hb8⟩ := QEl hp
      show J _ _ _ _ 11 _ ([.int r6]) _ _ _ _
      refine J.istore (pc := 11) ([(4, .int r6), (3, .int r2), (0, .ref v0), (1, .int v1), (2, .int v2)]) dX10_ways_11 (Nat.le_of_ble_eq_true rfl) rfl ?_
      refine J.aload_n (pc := 13) dX10_ways_13 rfl 2 rfl ?_
      obtain ⟨⟨a11, μ10⟩, e9, h⟩ := bnd h
      try dsimp only at h
      refine J.callV (Y := mX10_ways) (Z := mX10_here) (pc := 14) (st := []) (k2 := 0) (n2 := 0) dX10_ways_14 ml_RX10_153 mo_X10_here mv_X10_here rfl (tX10_here (d + 7) e9 hN7 k0) k0 (okN hN7 k0 (by decide)).1 (okN hN7 k0 (by decide)).2 cq_10 (by decide) rfl rfl (Nat.le_of_ble_eq_true rfl) (by decide) (by decide) (fun v ν hp => ?_) (fun i ν hp => nrm hp.1)
      obtain ⟨rfl, rfl, hN12, hb13⟩ := QEl hp
      show J _ _ _ _ 17 _ ([.ref a11]) _ _ _ _
      refine J.iload_n (pc := 17) dX10_ways_17 rfl 1 rfl ?_
      refine J.iload (pc := 18) dX10_ways_18 0 rfl ?_
      obtain ⟨⟨r16, μ15⟩, e14, h⟩ := bnd h
      try dsimp only at h
      refine J.callV (Y := mX10_ways) (Z := mX5_shortestWays) (pc := 20) (st := []) (k2 := 0) (n2 := 0) dX10_ways_20 ml_RX10_313 mo_X5_shortestWays mv_X5_shortestWays rfl (tX5_shortestWays (d + 5) e14 hN12 hb13) hb13 (okN hN12 hb13 (by decide)).1 (okN hN12 hb13 (by decide)).2 cq_5 (by decide) rfl rfl (Nat.le_of_ble_eq_true rfl) (by decide) (by decide) (fun v ν hp => ?_) (fun i ν hp => nrm hp.1)
      obtain ⟨rfl, rfl, hN17, hb18⟩ := QEl hp
      show J _ _ _ _ 23 _ ([.int r16]) _ _ _ _
      cases h
      exact J.iret (pc := 23) dX10_ways_23 rfl ⟨rfl, rfl, hN17, trivial⟩
    · try dsimp only at h
      refine J.callV (Y := mX10_ways) (Z := mX10_inside) (pc := 8) (st := []) (k2 := 0) (n2 := 0) dX10_ways_8 ml_RX10_233 mo_X10_inside mv_X10_inside rfl (tX10_inside d e5 hN3 k0) k0 (okN hN3 k0 (by decide)).1 (okN hN3 k0 (by decide)).2 cq_10 (by decide) rfl rfl (Nat.le_of_ble_eq_true rfl) (by decide) (by decide) (fun v ν hp => nlm hp.1) (fun i ν hp => ?_)
      obtain ⟨rfl, rfl, hN9, -⟩ := QEr hp
      cases h
      exact JX.out rfl ⟨rfl, rfl, hN9, trivial⟩
  · try dsimp only at h
    refine J.callV (Y := mX10_ways) (Z := mX10_inside) (pc := 2) (st := []) (k2 := 1) (n2 := 6) dX10_ways_2 ml_RX10_233 mo_X10_inside mv_X10_inside rfl (tX10_inside d e1 hN k0) k0 (okN hN k0 (by decide)).1 (okN hN k0 (by decide)).2 cq_10 (by decide) rfl rfl (Nat.le_of_ble_eq_true rfl) (by decide) (by decide) (fun v ν hp => nlm hp.1) (fun i ν hp => ?_)
    obtain ⟨rfl, rfl, hN9, -⟩ := QEr hp
    cases h
    exact JX.out rfl ⟨rfl, rfl, hN9, trivial⟩
def fL_ways (v0 : Nat) (v1 : Int32) (v2 : Int32) (v3 : Nat) (μ : Mem) : Option (Int32 × Mem) :=
  (fX10_ways v0 v1 v2 μ).bind fun
  | (.inl r3, μ2) =>
    (stL μ2 v3 (0 : Int32) (r3.toInt64)).bind fun μ6 =>
    some ((0 : Int32), μ6)
  | (.inr i9, μ2) =>
    if i9 = 0 then some ((1 : Int32), μ2) else
    none
set_option maxHeartbeats 4000000 in
theorem tL_ways {ω : Wd} {l : Launch} (d : Nat) {v0 : Nat} {v1 : Int32} {v2 : Int32} {v3 : Nat} {μ : Mem} {res : Int32 × Mem} (h : fL_ways v0 v1 v2 v3 μ = some res) (hN : μ.1 = NN) (k0 : (kd v0).1 = 20) (k3 : (kd v3).1 = 1) : Ct ω l mL_ways (d + 10) [.ref v0, .int v1, .int v2, .ref v3] μ 2 12 (PE (.inl (some (.int res.1))) res.2 True) := by
  refine Ct.of pn_RL (Nat.le_of_ble_eq_true rfl) ?_
  show J ω l mL_ways (d + 10) 0 [(0, .ref v0), (1, .int v1), (2, .int v2), (3, .ref v3)] [] μ 2 12 _
  unfold fL_ways at h
  refine J.aload_n (pc := 0) dL_ways_0 rfl 3 rfl ?_
  refine J.iconst (pc := 1) dL_ways_1 ic_0 ?_
  refine J.aload_n (pc := 2) dL_ways_2 rfl 0 rfl ?_
  refine J.iload_n (pc := 3) dL_ways_3 rfl 1 rfl ?_
  refine J.iload_n (pc := 4) dL_ways_4 rfl 2 rfl ?_
  obtain ⟨⟨q, μ2⟩, e1, h⟩ := bnd h
  rcases q with r3 | i9
  · try dsimp only at h
    refine J.callV (Y := mL_ways) (Z := mX10_ways) (pc := 5) (st := [.int (0 : Int32), .ref v3]) (k2 := 0) (n2 := 0) dL_ways_5 ml_RL_98 mo_X10_ways mv_X10_ways rfl (tX10_ways d e1 hN k0) k0 (okN hN k0 (by decide)).1 (okN hN k0 (by decide)).2 cq_10 (by decide) rfl rfl (Nat.le_of_ble_eq_true rfl) (by decide) (by decide) (fun v ν hp => ?_) (fun i ν hp => nrm hp.1)
    obtain ⟨rfl, rfl, hN4, hb5⟩ := QEl hp
    show J _ _ _ _ 8 _ ([.int r3, .int (0 : Int32), .ref v3]) _ _ _ _
    refine J.i2l (pc := 8) dL_ways_8 ?_
    obtain ⟨μ6, e7, h⟩ := bnd h
    have hN8 : μ6.1 = NN := stL_N e7 hN4
    refine J.wL (pc := 9) dL_ways_9 k3 (okN hN4 k3 (by decide)) e7 ?_
    refine J.goto (pc := 10) (tgt := 17) dL_ways_10 (by decide) ?_
    refine J.iconst (pc := 17) dL_ways_17 ic_0 ?_
    cases h
    exact J.iret (pc := 18) dL_ways_18 rfl ⟨rfl, rfl, hN8, trivial⟩
  · try dsimp only at h
    refine J.callV (Y := mL_ways) (Z := mX10_ways) (pc := 5) (st := [.int (0 : Int32), .ref v3]) (k2 := 0) (n2 := 0) dL_ways_5 ml_RL_98 mo_X10_ways mv_X10_ways rfl (tX10_ways d e1 hN k0) k0 (okN hN k0 (by decide)).1 (okN hN k0 (by decide)).2 cq_10 (by decide) rfl rfl (Nat.le_of_ble_eq_true rfl) (by decide) (by decide) (fun v ν hp => nlm hp.1) (fun i ν hp => ?_)
    obtain ⟨rfl, rfl, hN9, -⟩ := QEr hp
    rcases ifc h with ⟨hc, h⟩ | ⟨hc, h⟩
    · subst hc
      cases h
      exact JX.catch1 (i := 0) (by decide) rfl rfl (Nat.le_of_ble_eq_true rfl) (Nat.le_of_ble_eq_true rfl) (Or.inl ⟨4, Nat.le_of_ble_eq_true rfl, rfl, dL_ways_13⟩) dL_ways_15 ic_1 dL_ways_16 rfl ⟨rfl, rfl, hN9, trivial⟩
    cases h
def fX3_draw (v0 : Nat) (v1 : Int32) (μ : Mem) : Option (Int32 × Mem) :=
  (some (sI μ v0 0 (((μ.2.1 v0 0) * (1103515245 : Int32)) + (12345 : Int32)))).bind fun μ1 =>
  if 0 < v1 then
    (rmI ((((μ1.2.1 v0 0).toUInt32 >>> ((16 : Int32).toUInt32 &&& Int32.toUInt32 31)).toInt32) &&& (32767 : Int32)) v1).bind fun x4 =>
    some (x4, μ1)
  else
    some ((0 : Int32), μ1)
set_option maxHeartbeats 4000000 in
theorem tX3_draw {ω : Wd} {l : Launch} (d : Nat) {v0 : Nat} {v1 : Int32} {μ : Mem} {res : Int32 × Mem} (h : fX3_draw v0 v1 μ = some res) (hN : μ.1 = NN) (k0 : (kd v0).1 = 13) : Ct ω l mX3_draw d [.ref v0, .int v1] μ 0 0 (PE (.inl (some (.int res.1))) res.2 True) := by
  refine Ct.of pn_RX3 (Nat.le_of_ble_eq_true rfl) ?_
  show J ω l mX3_draw d 0 [(0, .ref v0), (1, .int v1)] [] μ 0 0 _
  unfold fX3_draw at h
  refine J.aload_n (pc := 0) dX3_draw_0 rfl 0 rfl ?_
  refine J.aload_n (pc := 1) dX3_draw_1 rfl 0 rfl ?_
  refine J.fI (pc := 2) dX3_draw_2 fl_RX3_7 k0 (okN hN k0 (by decide)) (Or.inl rfl) ?_
  refine J.ldc (pc := 5) dX3_draw_5 ki_RX3_13 ?_
  refine J.imul (pc := 7) dX3_draw_7 ?_
  refine J.sipush (pc := 8) dX3_draw_8 is_12345 ?_
  refine J.iadd (pc := 11) dX3_draw_11 ?_
  obtain ⟨μ1, e2, h⟩ := bnd h
  have hN3 : μ1.1 = NN := smN e2 hN
  refine J.qI (pc := 12) dX3_draw_12 fl_RX3_7 k0 (okN hN k0 (by decide)) rfl rfl e2 ?_
  refine J.iload_n (pc := 15) dX3_draw_15 rfl 1 rfl ?_
  rcases ifc h with ⟨hc, h⟩ | ⟨hc, h⟩
  · refine J.zle (pc := 16) (tgt := 35) dX3_draw_16 (by decide) (fun _ => ?_) (fun q => absurd hc q)
    refine J.aload_n (pc := 19) dX3_draw_19 rfl 0 rfl ?_
    refine J.fI (pc := 20) dX3_draw_20 fl_RX3_7 k0 (okN hN3 k0 (by decide)) (Or.inl rfl) ?_
    refine J.bipush (pc := 23) dX3_draw_23 ib_16 ?_
    refine J.iushr (pc := 25) dX3_draw_25 ?_
    refine J.sipush (pc := 26) dX3_draw_26 is_32767 ?_
    refine J.iand (pc := 29) dX3_draw_29 ?_
    refine J.iload_n (pc := 30) dX3_draw_30 rfl 1 rfl ?_
    obtain ⟨x4, e5, h⟩ := bnd h
    refine J.rm (pc := 31) dX3_draw_31 e5 ?_
    refine J.goto (pc := 32) (tgt := 36) dX3_draw_32 (by decide) ?_
    cases h
    exact J.iret (pc := 36) dX3_draw_36 rfl ⟨rfl, rfl, hN3, trivial⟩
  · refine J.zle (pc := 16) (tgt := 35) dX3_draw_16 (by decide) (fun q => absurd q hc) (fun _ => ?_)
    refine J.iconst (pc := 35) dX3_draw_35 ic_0 ?_
    cases h
    exact J.iret (pc := 36) dX3_draw_36 rfl ⟨rfl, rfl, hN3, trivial⟩
def fX10_drawPlace (v0 : Nat) (μ : Mem) : Option (Int32 × Mem) :=
  (gR μ v0 17 13).bind fun a1 =>
  (gR μ v0 4 11).bind fun a4 =>
  (fX3_draw a1 (μ.2.1 a4 0) μ).bind fun (r9, μ8) =>
  (gR μ8 v0 17 13).bind fun a12 =>
  (gR μ8 v0 4 11).bind fun a15 =>
  (gR μ8 a15 3 0).bind fun a18 =>
  (ldI μ8 a18 r9).bind fun x21 =>
  (fX3_draw a12 x21 μ8).bind fun (r25, μ24) =>
  some ((((8 : Int32) * r9) + r25), μ24)
set_option maxHeartbeats 4000000 in
theorem tX10_drawPlace {ω : Wd} {l : Launch} (d : Nat) {v0 : Nat} {μ : Mem} {res : Int32 × Mem} (h : fX10_drawPlace v0 μ = some res) (hN : μ.1 = NN) (k0 : (kd v0).1 = 20) : Ct ω l mX10_drawPlace (d + 1) [.ref v0] μ 0 0 (PE (.inl (some (.int res.1))) res.2 True) := by
  refine Ct.of pn_RX10 (Nat.le_of_ble_eq_true rfl) ?_
  show J ω l mX10_drawPlace (d + 1) 0 [(0, .ref v0)] [] μ 0 0 _
  unfold fX10_drawPlace at h
  refine J.aload_n (pc := 0) dX10_drawPlace_0 rfl 0 rfl ?_
  obtain ⟨a1, e2, h⟩ := bnd h
  have k3 : (kd a1).1 = 13 := gR_k e2
  refine J.fR (pc := 1) dX10_drawPlace_1 fl_RX10_100 k0 (okN hN k0 (by decide)) rfl e2 ?_
  refine J.aload_n (pc := 4) dX10_drawPlace_4 rfl 0 rfl ?_
  obtain ⟨a4, e5, h⟩ := bnd h
  have k6 : (kd a4).1 = 11 := gR_k e5
  refine J.fR (pc := 5) dX10_drawPlace_5 fl_RX10_26 k0 (okN hN k0 (by decide)) rfl e5 ?_
  refine J.fI (pc := 8) dX10_drawPlace_8 fl_RX10_144 k6 (okN hN k6 (by decide)) (Or.inl rfl) ?_
  obtain ⟨⟨r9, μ8⟩, e7, h⟩ := bnd h
  try dsimp only at h
  refine J.callV (Y := mX10_drawPlace) (Z := mX3_draw) (pc := 11) (st := []) (k2 := 0) (n2 := 0) dX10_drawPlace_11 ml_RX10_389 mo_X3_draw mv_X3_draw rfl (tX3_draw d e7 hN k3) k3 (okN hN k3 (by decide)).1 (okN hN k3 (by decide)).2 cq_3 (by decide) rfl rfl (Nat.le_of_ble_eq_true rfl) (by decide) (by decide) (fun v ν hp => ?_) (fun i ν hp => nrm hp.1)
  obtain ⟨rfl, rfl, hN10, hb11⟩ := QEl hp
  show J _ _ _ _ 14 _ ([.int r9]) _ _ _ _
  refine J.istore_n (pc := 14) ([(1, .int r9), (0, .ref v0)]) dX10_drawPlace_14 rfl (Nat.le_of_ble_eq_true rfl) rfl ?_
  refine J.bipush (pc := 15) dX10_drawPlace_15 ib_8 ?_
  refine J.iload_n (pc := 17) dX10_drawPlace_17 rfl 0 rfl ?_
  refine J.imul (pc := 18) dX10_drawPlace_18 ?_
  refine J.aload_n (pc := 19) dX10_drawPlace_19 rfl 1 rfl ?_
  obtain ⟨a12, e13, h⟩ := bnd h
  have k14 : (kd a12).1 = 13 := gR_k e13
  refine J.fR (pc := 20) dX10_drawPlace_20 fl_RX10_100 k0 (okN hN10 k0 (by decide)) rfl e13 ?_
  refine J.aload_n (pc := 23) dX10_drawPlace_23 rfl 1 rfl ?_
  obtain ⟨a15, e16, h⟩ := bnd h
  have k17 : (kd a15).1 = 11 := gR_k e16
  refine J.fR (pc := 24) dX10_drawPlace_24 fl_RX10_26 k0 (okN hN10 k0 (by decide)) rfl e16 ?_
  obtain ⟨a18, e19, h⟩ := bnd h
  have k20 : (kd a18).1 = 0 := gR_k e19
  refine J.fR (pc := 27) dX10_drawPlace_27 fl_RX10_188 k17 (okN hN10 k17 (by decide)) rfl e19 ?_
  refine J.iload_n (pc := 30) dX10_drawPlace_30 rfl 0 rfl ?_
  obtain ⟨x21, e22, h⟩ := bnd h
  refine J.aI (pc := 31) dX10_drawPlace_31 k20 (okN hN10 k20 (by decide)) e22 ?_
  obtain ⟨⟨r25, μ24⟩, e23, h⟩ := bnd h
  try dsimp only at h
  refine J.callV (Y := mX10_drawPlace) (Z := mX3_draw) (pc := 32) (st := [.int ((8 : Int32) * r9)]) (k2 := 0) (n2 := 0) dX10_drawPlace_32 ml_RX10_389 mo_X3_draw mv_X3_draw rfl (tX3_draw d e23 hN10 k14) k14 (okN hN10 k14 (by decide)).1 (okN hN10 k14 (by decide)).2 cq_3 (by decide) rfl rfl (Nat.le_of_ble_eq_true rfl) (by decide) (by decide) (fun v ν hp => ?_) (fun i ν hp => nrm hp.1)
  obtain ⟨rfl, rfl, hN26, hb27⟩ := QEl hp
  show J _ _ _ _ 35 _ ([.int r25, .int ((8 : Int32) * r9)]) _ _ _ _
  refine J.iadd (pc := 35) dX10_drawPlace_35 ?_
  cases h
  exact J.iret (pc := 36) dX10_drawPlace_36 rfl ⟨rfl, rfl, hN26, trivial⟩
def fX10_drawWhatHappens (v0 : Nat) (μ : Mem) : Option (Mem) :=
  (gR μ v0 17 13).bind fun a1 =>
  (fX3_draw a1 (5 : Int32) μ).bind fun (r6, μ5) =>
  if r6 = 0 then
    (gR μ5 v0 4 11).bind fun a9 =>
    if 0 < (μ5.2.1 a9 1) then
      (gR μ5 v0 17 13).bind fun a12 =>
      (gR μ5 v0 4 11).bind fun a15 =>
      (fX3_draw a12 (μ5.2.1 a15 1) μ5).bind fun (r20, μ19) =>
      (gR μ19 v0 14 12).bind fun a23 =>
      (gR μ19 a23 0 19).bind fun a26 =>
      (gR μ19 a26 5 0).bind fun a29 =>
      (fX10_drawPlace v0 μ19).bind fun (r34, μ33) =>
      (stI μ33 a29 r20 r34).bind fun μ37 =>
      some μ37
    else
      if r6 = (1 : Int32) then
        (gR μ5 v0 4 11).bind fun a40 =>
        if 0 < (μ5.2.1 a40 0) then
          (fX10_drawPlace v0 μ5).bind fun (r45, μ44) =>
          (gR μ44 v0 14 12).bind fun a48 =>
          (gR μ44 a48 0 19).bind fun a51 =>
          (gR μ44 v0 17 13).bind fun a54 =>
          (fX3_draw a54 (4 : Int32) μ44).bind fun (r59, μ58) =>
          (fX9_setInk a51 r45 r59 μ58).bind fun μ63 =>
          some μ63
        else
          some μ5
      else
        some μ5
  else
    if r6 = (1 : Int32) then
      (gR μ5 v0 4 11).bind fun a66 =>
      if 0 < (μ5.2.1 a66 0) then
        (fX10_drawPlace v0 μ5).bind fun (r71, μ70) =>
        (gR μ70 v0 14 12).bind fun a74 =>
        (gR μ70 a74 0 19).bind fun a77 =>
        (gR μ70 v0 17 13).bind fun a80 =>
        (fX3_draw a80 (4 : Int32) μ70).bind fun (r85, μ84) =>
        (fX9_setInk a77 r71 r85 μ84).bind fun μ89 =>
        some μ89
      else
        some μ5
    else
      some μ5
set_option maxHeartbeats 4000000 in
theorem tX10_drawWhatHappens {ω : Wd} {l : Launch} (d : Nat) {v0 : Nat} {μ : Mem} {res : Mem} (h : fX10_drawWhatHappens v0 μ = some res) (hN : μ.1 = NN) (k0 : (kd v0).1 = 20) : Ct ω l mX10_drawWhatHappens (d + 2) [.ref v0] μ 0 0 (PE (.inl none) res True) := by
  refine Ct.of pn_RX10 (Nat.le_of_ble_eq_true rfl) ?_
  show J ω l mX10_drawWhatHappens (d + 2) 0 [(0, .ref v0)] [] μ 0 0 _
  unfold fX10_drawWhatHappens at h
  refine J.aload_n (pc := 0) dX10_drawWhatHappens_0 rfl 0 rfl ?_
  obtain ⟨a1, e2, h⟩ := bnd h
  have k3 : (kd a1).1 = 13 := gR_k e2
  refine J.fR (pc := 1) dX10_drawWhatHappens_1 fl_RX10_100 k0 (okN hN k0 (by decide)) rfl e2 ?_
  refine J.iconst (pc := 4) dX10_drawWhatHappens_4 ic_5 ?_
  obtain ⟨⟨r6, μ5⟩, e4, h⟩ := bnd h
  try dsimp only at h
  refine J.callV (Y := mX10_drawWhatHappens) (Z := mX3_draw) (pc := 5) (st := []) (k2 := 0) (n2 := 0) dX10_drawWhatHappens_5 ml_RX10_389 mo_X3_draw mv_X3_draw rfl (tX3_draw (d + 1) e4 hN k3) k3 (okN hN k3 (by decide)).1 (okN hN k3 (by decide)).2 cq_3 (by decide) rfl rfl (Nat.le_of_ble_eq_true rfl) (by decide) (by decide) (fun v ν hp => ?_) (fun i ν hp => nrm hp.1)
  obtain ⟨rfl, rfl, hN7, hb8⟩ := QEl hp
  show J _ _ _ _ 8 _ ([.int r6]) _ _ _ _
  refine J.istore_n (pc := 8) ([(1, .int r6), (0, .ref v0)]) dX10_drawWhatHappens_8 rfl (Nat.le_of_ble_eq_true rfl) rfl ?_
  refine J.iload_n (pc := 9) dX10_drawWhatHappens_9 rfl 0 rfl ?_
  rcases ifc h with ⟨hc, h⟩ | ⟨hc, h⟩
  · refine J.zne (pc := 10) (tgt := 57) dX10_drawWhatHappens_10 (by decide) (fun _ => ?_) (fun q => absurd hc q)
    refine J.aload_n (pc := 13) dX10_drawWhatHappens_13 rfl 1 rfl ?_
    obtain ⟨a9, e10, h⟩ := bnd h
    have k11 : (kd a9).1 = 11 := gR_k e10
    refine J.fR (pc := 14) dX10_drawWhatHappens_14 fl_RX10_26 k0 (okN hN7 k0 (by decide)) rfl e10 ?_
    refine J.fI (pc := 17) dX10_drawWhatHappens_17 fl_RX10_147 k11 (okN hN7 k11 (by decide)) (Or.inl rfl) ?_
    rcases ifc h with ⟨hc, h⟩ | ⟨hc, h⟩
    · refine J.zle (pc := 20) (tgt := 57) dX10_drawWhatHappens_20 (by decide) (fun _ => ?_) (fun q => absurd hc q)
      refine J.aload_n (pc := 23) dX10_drawWhatHappens_23 rfl 1 rfl ?_
      obtain ⟨a12, e13, h⟩ := bnd h
      have k14 : (kd a12).1 = 13 := gR_k e13
      refine J.fR (pc := 24) dX10_drawWhatHappens_24 fl_RX10_100 k0 (okN hN7 k0 (by decide)) rfl e13 ?_
      refine J.aload_n (pc := 27) dX10_drawWhatHappens_27 rfl 1 rfl ?_
      obtain ⟨a15, e16, h⟩ := bnd h
      have k17 : (kd a15).1 = 11 := gR_k e16
      refine J.fR (pc := 28) dX10_drawWhatHappens_28 fl_RX10_26 k0 (okN hN7 k0 (by decide)) rfl e16 ?_
      refine J.fI (pc := 31) dX10_drawWhatHappens_31 fl_RX10_147 k17 (okN hN7 k17 (by decide)) (Or.inl rfl) ?_
      obtain ⟨⟨r20, μ19⟩, e18, h⟩ := bnd h
      try dsimp only at h
      refine J.callV (Y := mX10_drawWhatHappens) (Z := mX3_draw) (pc := 34) (st := []) (k2 := 0) (n2 := 0) dX10_drawWhatHappens_34 ml_RX10_389 mo_X3_draw mv_X3_draw rfl (tX3_draw (d + 1) e18 hN7 k14) k14 (okN hN7 k14 (by decide)).1 (okN hN7 k14 (by decide)).2 cq_3 (by decide) rfl rfl (Nat.le_of_ble_eq_true rfl) (by decide) (by decide) (fun v ν hp => ?_) (fun i ν hp => nrm hp.1)
      obtain ⟨rfl, rfl, hN21, hb22⟩ := QEl hp
      show J _ _ _ _ 37 _ ([.int r20]) _ _ _ _
      refine J.istore_n (pc := 37) ([(2, .int r20), (1, .int r6), (0, .ref v0)]) dX10_drawWhatHappens_37 rfl (Nat.le_of_ble_eq_true rfl) rfl ?_
      refine J.aload_n (pc := 38) dX10_drawWhatHappens_38 rfl 2 rfl ?_
      obtain ⟨a23, e24, h⟩ := bnd h
      have k25 : (kd a23).1 = 12 := gR_k e24
      refine J.fR (pc := 39) dX10_drawWhatHappens_39 fl_RX10_79 k0 (okN hN21 k0 (by decide)) rfl e24 ?_
      obtain ⟨a26, e27, h⟩ := bnd h
      have k28 : (kd a26).1 = 19 := gR_k e27
      refine J.fR (pc := 42) dX10_drawWhatHappens_42 fl_RX10_242 k25 (okN hN21 k25 (by decide)) rfl e27 ?_
      obtain ⟨a29, e30, h⟩ := bnd h
      have k31 : (kd a29).1 = 0 := gR_k e30
      refine J.fR (pc := 45) dX10_drawWhatHappens_45 fl_RX10_220 k28 (okN hN21 k28 (by decide)) rfl e30 ?_
      refine J.iload_n (pc := 48) dX10_drawWhatHappens_48 rfl 0 rfl ?_
      refine J.aload_n (pc := 49) dX10_drawWhatHappens_49 rfl 2 rfl ?_
      obtain ⟨⟨r34, μ33⟩, e32, h⟩ := bnd h
      try dsimp only at h
      refine J.callV (Y := mX10_drawWhatHappens) (Z := mX10_drawPlace) (pc := 50) (st := [.int r20, .ref a29]) (k2 := 0) (n2 := 0) dX10_drawWhatHappens_50 ml_RX10_392 mo_X10_drawPlace mv_X10_drawPlace rfl (tX10_drawPlace d e32 hN21 k0) k0 (okN hN21 k0 (by decide)).1 (okN hN21 k0 (by decide)).2 cq_10 (by decide) rfl rfl (Nat.le_of_ble_eq_true rfl) (by decide) (by decide) (fun v ν hp => ?_) (fun i ν hp => nrm hp.1)
      obtain ⟨rfl, rfl, hN35, hb36⟩ := QEl hp
      show J _ _ _ _ 53 _ ([.int r34, .int r20, .ref a29]) _ _ _ _
      obtain ⟨μ37, e38, h⟩ := bnd h
      have hN39 : μ37.1 = NN := stI_N e38 hN35
      refine J.wI (pc := 53) dX10_drawWhatHappens_53 k31 (okN hN35 k31 (by decide)) e38 ?_
      refine J.goto (pc := 54) (tgt := 96) dX10_drawWhatHappens_54 (by decide) ?_
      cases h
      exact J.vret (pc := 96) dX10_drawWhatHappens_96 rfl ⟨rfl, rfl, hN39, trivial⟩
    · refine J.zle (pc := 20) (tgt := 57) dX10_drawWhatHappens_20 (by decide) (fun q => absurd q hc) (fun _ => ?_)
      refine J.iload_n (pc := 57) dX10_drawWhatHappens_57 rfl 0 rfl ?_
      refine J.iconst (pc := 58) dX10_drawWhatHappens_58 ic_1 ?_
      rcases ifc h with ⟨hc, h⟩ | ⟨hc, h⟩
      · refine J.cne (pc := 59) (tgt := 96) dX10_drawWhatHappens_59 (by decide) (fun _ => ?_) (fun q => absurd hc q)
        refine J.aload_n (pc := 62) dX10_drawWhatHappens_62 rfl 1 rfl ?_
        obtain ⟨a40, e41, h⟩ := bnd h
        have k42 : (kd a40).1 = 11 := gR_k e41
        refine J.fR (pc := 63) dX10_drawWhatHappens_63 fl_RX10_26 k0 (okN hN7 k0 (by decide)) rfl e41 ?_
        refine J.fI (pc := 66) dX10_drawWhatHappens_66 fl_RX10_144 k42 (okN hN7 k42 (by decide)) (Or.inl rfl) ?_
        rcases ifc h with ⟨hc, h⟩ | ⟨hc, h⟩
        · refine J.zle (pc := 69) (tgt := 96) dX10_drawWhatHappens_69 (by decide) (fun _ => ?_) (fun q => absurd hc q)
          refine J.aload_n (pc := 72) dX10_drawWhatHappens_72 rfl 1 rfl ?_
          obtain ⟨⟨r45, μ44⟩, e43, h⟩ := bnd h
          try dsimp only at h
          refine J.callV (Y := mX10_drawWhatHappens) (Z := mX10_drawPlace) (pc := 73) (st := []) (k2 := 0) (n2 := 0) dX10_drawWhatHappens_73 ml_RX10_392 mo_X10_drawPlace mv_X10_drawPlace rfl (tX10_drawPlace d e43 hN7 k0) k0 (okN hN7 k0 (by decide)).1 (okN hN7 k0 (by decide)).2 cq_10 (by decide) rfl rfl (Nat.le_of_ble_eq_true rfl) (by decide) (by decide) (fun v ν hp => ?_) (fun i ν hp => nrm hp.1)
          obtain ⟨rfl, rfl, hN46, hb47⟩ := QEl hp
          show J _ _ _ _ 76 _ ([.int r45]) _ _ _ _
          refine J.istore_n (pc := 76) ([(2, .int r45), (1, .int r6), (0, .ref v0)]) dX10_drawWhatHappens_76 rfl (Nat.le_of_ble_eq_true rfl) rfl ?_
          refine J.aload_n (pc := 77) dX10_drawWhatHappens_77 rfl 2 rfl ?_
          obtain ⟨a48, e49, h⟩ := bnd h
          have k50 : (kd a48).1 = 12 := gR_k e49
          refine J.fR (pc := 78) dX10_drawWhatHappens_78 fl_RX10_79 k0 (okN hN46 k0 (by decide)) rfl e49 ?_
          obtain ⟨a51, e52, h⟩ := bnd h
          have k53 : (kd a51).1 = 19 := gR_k e52
          refine J.fR (pc := 81) dX10_drawWhatHappens_81 fl_RX10_242 k50 (okN hN46 k50 (by decide)) rfl e52 ?_
          refine J.iload_n (pc := 84) dX10_drawWhatHappens_84 rfl 0 rfl ?_
          refine J.aload_n (pc := 85) dX10_drawWhatHappens_85 rfl 2 rfl ?_
          obtain ⟨a54, e55, h⟩ := bnd h
          have k56 : (kd a54).1 = 13 := gR_k e55
          refine J.fR (pc := 86) dX10_drawWhatHappens_86 fl_RX10_100 k0 (okN hN46 k0 (by decide)) rfl e55 ?_
          refine J.iconst (pc := 89) dX10_drawWhatHappens_89 ic_4 ?_
          obtain ⟨⟨r59, μ58⟩, e57, h⟩ := bnd h
          try dsimp only at h
          refine J.callV (Y := mX10_drawWhatHappens) (Z := mX3_draw) (pc := 90) (st := [.int r45, .ref a51]) (k2 := 0) (n2 := 0) dX10_drawWhatHappens_90 ml_RX10_389 mo_X3_draw mv_X3_draw rfl (tX3_draw (d + 1) e57 hN46 k56) k56 (okN hN46 k56 (by decide)).1 (okN hN46 k56 (by decide)).2 cq_3 (by decide) rfl rfl (Nat.le_of_ble_eq_true rfl) (by decide) (by decide) (fun v ν hp => ?_) (fun i ν hp => nrm hp.1)
          obtain ⟨rfl, rfl, hN60, hb61⟩ := QEl hp
          show J _ _ _ _ 93 _ ([.int r59, .int r45, .ref a51]) _ _ _ _
          obtain ⟨μ63, e62, h⟩ := bnd h
          refine J.callV (Y := mX10_drawWhatHappens) (Z := mX9_setInk) (pc := 93) (st := []) (k2 := 0) (n2 := 0) dX10_drawWhatHappens_93 ml_RX10_245 mo_X9_setInk mv_X9_setInk rfl (tX9_setInk d e62 hN60 k53) k53 (okN hN60 k53 (by decide)).1 (okN hN60 k53 (by decide)).2 cq_9 (by decide) rfl rfl (Nat.le_of_ble_eq_true rfl) (by decide) (by decide) (fun v ν hp => ?_) (fun i ν hp => nrm hp.1)
          obtain ⟨rfl, rfl, hN64, hb65⟩ := QEl hp
          show J _ _ _ _ 96 _ ([]) _ _ _ _
          cases h
          exact J.vret (pc := 96) dX10_drawWhatHappens_96 rfl ⟨rfl, rfl, hN64, trivial⟩
        · refine J.zle (pc := 69) (tgt := 96) dX10_drawWhatHappens_69 (by decide) (fun q => absurd q hc) (fun _ => ?_)
          cases h
          exact J.vret (pc := 96) dX10_drawWhatHappens_96 rfl ⟨rfl, rfl, hN7, trivial⟩
      · refine J.cne (pc := 59) (tgt := 96) dX10_drawWhatHappens_59 (by decide) (fun q => absurd q hc) (fun _ => ?_)
        cases h
        exact J.vret (pc := 96) dX10_drawWhatHappens_96 rfl ⟨rfl, rfl, hN7, trivial⟩
  · refine J.zne (pc := 10) (tgt := 57) dX10_drawWhatHappens_10 (by decide) (fun q => absurd q hc) (fun _ => ?_)
    refine J.iload_n (pc := 57) dX10_drawWhatHappens_57 rfl 0 rfl ?_
    refine J.iconst (pc := 58) dX10_drawWhatHappens_58 ic_1 ?_
    rcases ifc h with ⟨hc, h⟩ | ⟨hc, h⟩
    · refine J.cne (pc := 59) (tgt := 96) dX10_drawWhatHappens_59 (by decide) (fun _ => ?_) (fun q => absurd hc q)
      refine J.aload_n (pc := 62) dX10_drawWhatHappens_62 rfl 1 rfl ?_
      obtain ⟨a66, e67, h⟩ := bnd h
      have k68 : (kd a66).1 = 11 := gR_k e67
      refine J.fR (pc := 63) dX10_drawWhatHappens_63 fl_RX10_26 k0 (okN hN7 k0 (by decide)) rfl e67 ?_
      refine J.fI (pc := 66) dX10_drawWhatHappens_66 fl_RX10_144 k68 (okN hN7 k68 (by decide)) (Or.inl rfl) ?_
      rcases ifc h with ⟨hc, h⟩ | ⟨hc, h⟩
      · refine J.zle (pc := 69) (tgt := 96) dX10_drawWhatHappens_69 (by decide) (fun _ => ?_) (fun q => absurd hc q)
        refine J.aload_n (pc := 72) dX10_drawWhatHappens_72 rfl 1 rfl ?_
        obtain ⟨⟨r71, μ70⟩, e69, h⟩ := bnd h
        try dsimp only at h
        refine J.callV (Y := mX10_drawWhatHappens) (Z := mX10_drawPlace) (pc := 73) (st := []) (k2 := 0) (n2 := 0) dX10_drawWhatHappens_73 ml_RX10_392 mo_X10_drawPlace mv_X10_drawPlace rfl (tX10_drawPlace d e69 hN7 k0) k0 (okN hN7 k0 (by decide)).1 (okN hN7 k0 (by decide)).2 cq_10 (by decide) rfl rfl (Nat.le_of_ble_eq_true rfl) (by decide) (by decide) (fun v ν hp => ?_) (fun i ν hp => nrm hp.1)
        obtain ⟨rfl, rfl, hN72, hb73⟩ := QEl hp
        show J _ _ _ _ 76 _ ([.int r71]) _ _ _ _
        refine J.istore_n (pc := 76) ([(2, .int r71), (1, .int r6), (0, .ref v0)]) dX10_drawWhatHappens_76 rfl (Nat.le_of_ble_eq_true rfl) rfl ?_
        refine J.aload_n (pc := 77) dX10_drawWhatHappens_77 rfl 2 rfl ?_
        obtain ⟨a74, e75, h⟩ := bnd h
        have k76 : (kd a74).1 = 12 := gR_k e75
        refine J.fR (pc := 78) dX10_drawWhatHappens_78 fl_RX10_79 k0 (okN hN72 k0 (by decide)) rfl e75 ?_
        obtain ⟨a77, e78, h⟩ := bnd h
        have k79 : (kd a77).1 = 19 := gR_k e78
        refine J.fR (pc := 81) dX10_drawWhatHappens_81 fl_RX10_242 k76 (okN hN72 k76 (by decide)) rfl e78 ?_
        refine J.iload_n (pc := 84) dX10_drawWhatHappens_84 rfl 0 rfl ?_
        refine J.aload_n (pc := 85) dX10_drawWhatHappens_85 rfl 2 rfl ?_
        obtain ⟨a80, e81, h⟩ := bnd h
        have k82 : (kd a80).1 = 13 := gR_k e81
        refine J.fR (pc := 86) dX10_drawWhatHappens_86 fl_RX10_100 k0 (okN hN72 k0 (by decide)) rfl e81 ?_
        refine J.iconst (pc := 89) dX10_drawWhatHappens_89 ic_4 ?_
        obtain ⟨⟨r85, μ84⟩, e83, h⟩ := bnd h
        try dsimp only at h
        refine J.callV (Y := mX10_drawWhatHappens) (Z := mX3_draw) (pc := 90) (st := [.int r71, .ref a77]) (k2 := 0) (n2 := 0) dX10_drawWhatHappens_90 ml_RX10_389 mo_X3_draw mv_X3_draw rfl (tX3_draw (d + 1) e83 hN72 k82) k82 (okN hN72 k82 (by decide)).1 (okN hN72 k82 (by decide)).2 cq_3 (by decide) rfl rfl (Nat.le_of_ble_eq_true rfl) (by decide) (by decide) (fun v ν hp => ?_) (fun i ν hp => nrm hp.1)
        obtain ⟨rfl, rfl, hN86, hb87⟩ := QEl hp
        show J _ _ _ _ 93 _ ([.int r85, .int r71, .ref a77]) _ _ _ _
        obtain ⟨μ89, e88, h⟩ := bnd h
        refine J.callV (Y := mX10_drawWhatHappens) (Z := mX9_setInk) (pc := 93) (st := []) (k2 := 0) (n2 := 0) dX10_drawWhatHappens_93 ml_RX10_245 mo_X9_setInk mv_X9_setInk rfl (tX9_setInk d e88 hN86 k79) k79 (okN hN86 k79 (by decide)).1 (okN hN86 k79 (by decide)).2 cq_9 (by decide) rfl rfl (Nat.le_of_ble_eq_true rfl) (by decide) (by decide) (fun v ν hp => ?_) (fun i ν hp => nrm hp.1)
        obtain ⟨rfl, rfl, hN90, hb91⟩ := QEl hp
        show J _ _ _ _ 96 _ ([]) _ _ _ _
        cases h
        exact J.vret (pc := 96) dX10_drawWhatHappens_96 rfl ⟨rfl, rfl, hN90, trivial⟩
      · refine J.zle (pc := 69) (tgt := 96) dX10_drawWhatHappens_69 (by decide) (fun q => absurd q hc) (fun _ => ?_)
        cases h
        exact J.vret (pc := 96) dX10_drawWhatHappens_96 rfl ⟨rfl, rfl, hN7, trivial⟩
    · refine J.cne (pc := 59) (tgt := 96) dX10_drawWhatHappens_59 (by decide) (fun q => absurd q hc) (fun _ => ?_)
      cases h
      exact J.vret (pc := 96) dX10_drawWhatHappens_96 rfl ⟨rfl, rfl, hN7, trivial⟩
def fX2_comingsOfAll_4 (μ : Mem) : Nat → Nat → Int32 → Int32 → Option (Int32)
  | 0, _, _, _ => none
  | n + 1, v0, v1, v2 =>
    if v2 < (6 : Int32) then
      (gR μ v0 4 0).bind fun a1 =>
      (ldI μ a1 v2).bind fun x4 =>
      (fX2_comingsOfAll_4 μ n) v0 (v1 + x4) (v2 + (1 : Int32))
    else
      some v1
set_option maxHeartbeats 4000000 in
theorem tX2_comingsOfAll_4 {ω : Wd} {l : Launch} (d : Nat) {μ : Mem} (hN : μ.1 = NN) {res : Int32} : ∀ n : Nat, ∀ (v0 : Nat) (v1 : Int32) (v2 : Int32), fX2_comingsOfAll_4 μ n v0 v1 v2 = some res → (kd v0).1 = 12 → J ω l mX2_comingsOfAll d 4 [(0, .ref v0), (1, .int v1), (2, .int v2)] [] μ 0 0 (PE (.inl (some (.int res))) μ True) := by
  intro n
  induction n with
  | zero =>
    intro v0 v1 v2 h k0
    have h9 : (none : Option (Int32)) = some res := h
    cases h9
  | succ n ih =>
    intro v0 v1 v2 h k0
    unfold fX2_comingsOfAll_4 at h
    refine J.iload_n (pc := 4) dX2_comingsOfAll_4 rfl 2 rfl ?_
    refine J.bipush (pc := 5) dX2_comingsOfAll_5 ib_6 ?_
    rcases ifc h with ⟨hc, h⟩ | ⟨hc, h⟩
    · refine J.cge (pc := 7) (tgt := 25) dX2_comingsOfAll_7 (by decide) (fun _ => ?_) (fun q => absurd hc q)
      refine J.iload_n (pc := 10) dX2_comingsOfAll_10 rfl 1 rfl ?_
      refine J.aload_n (pc := 11) dX2_comingsOfAll_11 rfl 0 rfl ?_
      obtain ⟨a1, e2, h⟩ := bnd h
      have k3 : (kd a1).1 = 0 := gR_k e2
      refine J.fR (pc := 12) dX2_comingsOfAll_12 fl_RX2_32 k0 (okN hN k0 (by decide)) rfl e2 ?_
      refine J.iload_n (pc := 15) dX2_comingsOfAll_15 rfl 2 rfl ?_
      obtain ⟨x4, e5, h⟩ := bnd h
      refine J.aI (pc := 16) dX2_comingsOfAll_16 k3 (okN hN k3 (by decide)) e5 ?_
      refine J.iadd (pc := 17) dX2_comingsOfAll_17 ?_
      refine J.istore_n (pc := 18) ([(1, .int (v1 + x4)), (0, .ref v0), (2, .int v2)]) dX2_comingsOfAll_18 rfl (Nat.le_of_ble_eq_true rfl) rfl ?_
      refine J.iinc (pc := 19) (j := 2) ([(2, .int (v2 + (1 : Int32))), (1, .int (v1 + x4)), (0, .ref v0)]) dX2_comingsOfAll_19 rfl (iincv ic_1) (Nat.le_of_ble_eq_true rfl) rfl ?_
      refine J.goto (pc := 22) (tgt := 4) dX2_comingsOfAll_22 (by decide) ?_
      refine J.pick [2, 1, 0] rfl ?_
      exact ih v0 (v1 + x4) (v2 + (1 : Int32)) h k0
    · refine J.cge (pc := 7) (tgt := 25) dX2_comingsOfAll_7 (by decide) (fun q => absurd q hc) (fun _ => ?_)
      refine J.iload_n (pc := 25) dX2_comingsOfAll_25 rfl 1 rfl ?_
      cases h
      exact J.iret (pc := 26) dX2_comingsOfAll_26 rfl ⟨rfl, rfl, hN, trivial⟩
def fX2_comingsOfAll (v0 : Nat) (μ : Mem) : Option (Int32) :=
  (fX2_comingsOfAll_4 μ fuel) v0 (0 : Int32) (0 : Int32)
set_option maxHeartbeats 4000000 in
theorem tX2_comingsOfAll {ω : Wd} {l : Launch} (d : Nat) {v0 : Nat} {μ : Mem} {res : Int32} (h : fX2_comingsOfAll v0 μ = some res) (hN : μ.1 = NN) (k0 : (kd v0).1 = 12) : Ct ω l mX2_comingsOfAll d [.ref v0] μ 0 0 (PE (.inl (some (.int res))) μ True) := by
  refine Ct.of pn_RX2 (Nat.le_of_ble_eq_true rfl) ?_
  show J ω l mX2_comingsOfAll d 0 [(0, .ref v0)] [] μ 0 0 _
  unfold fX2_comingsOfAll at h
  refine J.iconst (pc := 0) dX2_comingsOfAll_0 ic_0 ?_
  refine J.istore_n (pc := 1) ([(1, .int (0 : Int32)), (0, .ref v0)]) dX2_comingsOfAll_1 rfl (Nat.le_of_ble_eq_true rfl) rfl ?_
  refine J.iconst (pc := 2) dX2_comingsOfAll_2 ic_0 ?_
  refine J.istore_n (pc := 3) ([(2, .int (0 : Int32)), (1, .int (0 : Int32)), (0, .ref v0)]) dX2_comingsOfAll_3 rfl (Nat.le_of_ble_eq_true rfl) rfl ?_
  refine J.pick [2, 1, 0] rfl ?_
  exact (tX2_comingsOfAll_4 d hN fuel) v0 (0 : Int32) (0 : Int32) h k0
def fX10_years_40  : Nat → Nat → Int32 → Int32 → Int32 → Mem → Option ((Int32 ⊕ Nat) × Mem)
  | 0, _, _, _, _, _ => none
  | n + 1, v0, v2, v3, v4, μ =>
    if v4 < v2 then
      (fX10_drawWhatHappens v0 μ).bind fun μ2 =>
      (gR μ2 v0 14 12).bind fun a5 =>
      (fX2_pass a5 (1 : Int32) μ2).bind fun μ9 =>
      (fX10_years_40 n) v0 v2 v3 (v4 + (1 : Int32)) μ9
    else
      if v3 = (0 : Int32) then
        (gR μ v0 14 12).bind fun a12 =>
        (fX2_comingsOfAll a12 μ).bind fun r16 =>
        some (.inl r16, μ)
      else
      if v3 = (1 : Int32) then
        (gR μ v0 14 12).bind fun a19 =>
        (gR μ a19 0 19).bind fun a22 =>
        (fX9_metByAll a22 μ).bind fun r26 =>
        (gR μ v0 7 19).bind fun a29 =>
        (fX9_metByAll a29 μ).bind fun r33 =>
        some (.inl (r26 - r33), μ)
      else
      (gR μ v0 14 12).bind fun a36 =>
      (gR μ a36 0 19).bind fun a39 =>
      (fX10_inked v0 a39 μ).bind fun r43 =>
      some (.inl r43, μ)
set_option maxHeartbeats 4000000 in
theorem tX10_years_40 {ω : Wd} {l : Launch} (d : Nat) {res : (Int32 ⊕ Nat) × Mem} : ∀ n : Nat, ∀ (v0 : Nat) (v2 : Int32) (v3 : Int32) (v4 : Int32) (μ : Mem), fX10_years_40 n v0 v2 v3 v4 μ = some res → μ.1 = NN → (kd v0).1 = 20 → J ω l mX10_years (d + 9) 40 [(0, .ref v0), (2, .int v2), (3, .int v3), (4, .int v4)] [] μ 0 0 (PE (oI res.1) res.2 True) := by
  intro n
  induction n with
  | zero =>
    intro v0 v2 v3 v4 μ h hN k0
    have h9 : (none : Option ((Int32 ⊕ Nat) × Mem)) = some res := h
    cases h9
  | succ n ih =>
    intro v0 v2 v3 v4 μ h hN k0
    unfold fX10_years_40 at h
    refine J.iload (pc := 40) dX10_years_40 3 rfl ?_
    refine J.iload_n (pc := 42) dX10_years_42 rfl 1 rfl ?_
    rcases ifc h with ⟨hc, h⟩ | ⟨hc, h⟩
    · refine J.cge (pc := 43) (tgt := 64) dX10_years_43 (by decide) (fun _ => ?_) (fun q => absurd hc q)
      refine J.aload_n (pc := 46) dX10_years_46 rfl 0 rfl ?_
      obtain ⟨μ2, e1, h⟩ := bnd h
      refine J.callV (Y := mX10_years) (Z := mX10_drawWhatHappens) (pc := 47) (st := []) (k2 := 0) (n2 := 0) dX10_years_47 ml_RX10_383 mo_X10_drawWhatHappens mv_X10_drawWhatHappens rfl (tX10_drawWhatHappens (d + 6) e1 hN k0) k0 (okN hN k0 (by decide)).1 (okN hN k0 (by decide)).2 cq_10 (by decide) rfl rfl (Nat.le_of_ble_eq_true rfl) (by decide) (by decide) (fun v ν hp => ?_) (fun i ν hp => nrm hp.1)
      obtain ⟨rfl, rfl, hN3, hb4⟩ := QEl hp
      show J _ _ _ _ 50 _ ([]) _ _ _ _
      refine J.aload_n (pc := 50) dX10_years_50 rfl 0 rfl ?_
      obtain ⟨a5, e6, h⟩ := bnd h
      have k7 : (kd a5).1 = 12 := gR_k e6
      refine J.fR (pc := 51) dX10_years_51 fl_RX10_79 k0 (okN hN3 k0 (by decide)) rfl e6 ?_
      refine J.iconst (pc := 54) dX10_years_54 ic_1 ?_
      obtain ⟨μ9, e8, h⟩ := bnd h
      refine J.callV (Y := mX10_years) (Z := mX2_pass) (pc := 55) (st := []) (k2 := 0) (n2 := 0) dX10_years_55 ml_RX10_268 mo_X2_pass mv_X2_pass rfl (tX2_pass (d + 4) e8 hN3 k7) k7 (okN hN3 k7 (by decide)).1 (okN hN3 k7 (by decide)).2 cq_2 (by decide) rfl rfl (Nat.le_of_ble_eq_true rfl) (by decide) (by decide) (fun v ν hp => ?_) (fun i ν hp => nrm hp.1)
      obtain ⟨rfl, rfl, hN10, hb11⟩ := QEl hp
      show J _ _ _ _ 58 _ ([]) _ _ _ _
      refine J.iinc (pc := 58) (j := 3) ([(4, .int (v4 + (1 : Int32))), (0, .ref v0), (2, .int v2), (3, .int v3)]) dX10_years_58 rfl (iincv ic_1) (Nat.le_of_ble_eq_true rfl) rfl ?_
      refine J.goto (pc := 61) (tgt := 40) dX10_years_61 (by decide) ?_
      refine J.pick [1, 2, 3, 0] rfl ?_
      exact ih v0 v2 v3 (v4 + (1 : Int32)) μ9 h hN10 k0
    · refine J.cge (pc := 43) (tgt := 64) dX10_years_43 (by decide) (fun q => absurd q hc) (fun _ => ?_)
      refine J.iload_n (pc := 64) dX10_years_64 rfl 2 rfl ?_
      rcases ifc h with ⟨hc, h⟩ | ⟨ns46, h⟩
      · refine J.lookup (pc := 65) (off := 27) (tgt := 92) dX10_years_65 (by decide) (by rw [hc]; decide) (by decide) ?_
        refine J.aload_n (pc := 92) dX10_years_92 rfl 0 rfl ?_
        obtain ⟨a12, e13, h⟩ := bnd h
        have k14 : (kd a12).1 = 12 := gR_k e13
        refine J.fR (pc := 93) dX10_years_93 fl_RX10_79 k0 (okN hN k0 (by decide)) rfl e13 ?_
        obtain ⟨r16, e15, h⟩ := bnd h
        refine J.callV (Y := mX10_years) (Z := mX2_comingsOfAll) (pc := 96) (st := []) (k2 := 0) (n2 := 0) dX10_years_96 ml_RX10_386 mo_X2_comingsOfAll mv_X2_comingsOfAll rfl (tX2_comingsOfAll (d + 8) e15 hN k14) k14 (okN hN k14 (by decide)).1 (okN hN k14 (by decide)).2 cq_2 (by decide) rfl rfl (Nat.le_of_ble_eq_true rfl) (by decide) (by decide) (fun v ν hp => ?_) (fun i ν hp => nrm hp.1)
        obtain ⟨rfl, rfl, hN17, hb18⟩ := QEl hp
        show J _ _ _ _ 99 _ ([.int r16]) _ _ _ _
        cases h
        exact J.iret (pc := 99) dX10_years_99 rfl ⟨rfl, rfl, hN17, trivial⟩
      rcases ifc h with ⟨hc, h⟩ | ⟨ns47, h⟩
      · refine J.lookup (pc := 65) (off := 35) (tgt := 100) dX10_years_65 (by decide) (by rw [hc]; decide) (by decide) ?_
        refine J.aload_n (pc := 100) dX10_years_100 rfl 0 rfl ?_
        obtain ⟨a19, e20, h⟩ := bnd h
        have k21 : (kd a19).1 = 12 := gR_k e20
        refine J.fR (pc := 101) dX10_years_101 fl_RX10_79 k0 (okN hN k0 (by decide)) rfl e20 ?_
        obtain ⟨a22, e23, h⟩ := bnd h
        have k24 : (kd a22).1 = 19 := gR_k e23
        refine J.fR (pc := 104) dX10_years_104 fl_RX10_242 k21 (okN hN k21 (by decide)) rfl e23 ?_
        obtain ⟨r26, e25, h⟩ := bnd h
        refine J.callV (Y := mX10_years) (Z := mX9_metByAll) (pc := 107) (st := []) (k2 := 0) (n2 := 0) dX10_years_107 ml_RX10_178 mo_X9_metByAll mv_X9_metByAll rfl (tX9_metByAll (d + 8) e25 hN k24) k24 (okN hN k24 (by decide)).1 (okN hN k24 (by decide)).2 cq_9 (by decide) rfl rfl (Nat.le_of_ble_eq_true rfl) (by decide) (by decide) (fun v ν hp => ?_) (fun i ν hp => nrm hp.1)
        obtain ⟨rfl, rfl, hN27, hb28⟩ := QEl hp
        show J _ _ _ _ 110 _ ([.int r26]) _ _ _ _
        refine J.aload_n (pc := 110) dX10_years_110 rfl 0 rfl ?_
        obtain ⟨a29, e30, h⟩ := bnd h
        have k31 : (kd a29).1 = 19 := gR_k e30
        refine J.fR (pc := 111) dX10_years_111 fl_RX10_45 k0 (okN hN27 k0 (by decide)) rfl e30 ?_
        obtain ⟨r33, e32, h⟩ := bnd h
        refine J.callV (Y := mX10_years) (Z := mX9_metByAll) (pc := 114) (st := [.int r26]) (k2 := 0) (n2 := 0) dX10_years_114 ml_RX10_178 mo_X9_metByAll mv_X9_metByAll rfl (tX9_metByAll (d + 8) e32 hN27 k31) k31 (okN hN27 k31 (by decide)).1 (okN hN27 k31 (by decide)).2 cq_9 (by decide) rfl rfl (Nat.le_of_ble_eq_true rfl) (by decide) (by decide) (fun v ν hp => ?_) (fun i ν hp => nrm hp.1)
        obtain ⟨rfl, rfl, hN34, hb35⟩ := QEl hp
        show J _ _ _ _ 117 _ ([.int r33, .int r26]) _ _ _ _
        refine J.isub (pc := 117) dX10_years_117 ?_
        cases h
        exact J.iret (pc := 118) dX10_years_118 rfl ⟨rfl, rfl, hN34, trivial⟩
      refine J.lookup (pc := 65) (off := 54) (tgt := 119) dX10_years_65 (by decide) (by simp only [Op.lookupswitch.offset]; rw [if_neg (lk_ne ns46 (by decide))]; rw [if_neg (lk_ne ns47 (by decide))]) (by decide) ?_
      refine J.aload_n (pc := 119) dX10_years_119 rfl 0 rfl ?_
      refine J.aload_n (pc := 120) dX10_years_120 rfl 0 rfl ?_
      obtain ⟨a36, e37, h⟩ := bnd h
      have k38 : (kd a36).1 = 12 := gR_k e37
      refine J.fR (pc := 121) dX10_years_121 fl_RX10_79 k0 (okN hN k0 (by decide)) rfl e37 ?_
      obtain ⟨a39, e40, h⟩ := bnd h
      have k41 : (kd a39).1 = 19 := gR_k e40
      refine J.fR (pc := 124) dX10_years_124 fl_RX10_242 k38 (okN hN k38 (by decide)) rfl e40 ?_
      obtain ⟨r43, e42, h⟩ := bnd h
      refine J.callV (Y := mX10_years) (Z := mX10_inked) (pc := 127) (st := []) (k2 := 0) (n2 := 0) dX10_years_127 ml_RX10_171 mo_X10_inked mv_X10_inked rfl (tX10_inked (d + 7) e42 hN k0 k41) k0 (okN hN k0 (by decide)).1 (okN hN k0 (by decide)).2 cq_10 (by decide) rfl rfl (Nat.le_of_ble_eq_true rfl) (by decide) (by decide) (fun v ν hp => ?_) (fun i ν hp => nrm hp.1)
      obtain ⟨rfl, rfl, hN44, hb45⟩ := QEl hp
      show J _ _ _ _ 130 _ ([.int r43]) _ _ _ _
      cases h
      exact J.iret (pc := 130) dX10_years_130 rfl ⟨rfl, rfl, hN44, trivial⟩
def fX10_years (v0 : Nat) (v1 : Int32) (v2 : Int32) (v3 : Int32) (μ : Mem) : Option ((Int32 ⊕ Nat) × Mem) :=
  (fX10_needWhat v0 v3 (3 : Int32)).bind fun
  | .inl _ =>
    (fX10_needWithin v0 v2 (0 : Int32) (60 : Int32)).bind fun
    | .inl _ =>
      (gR μ v0 14 12).bind fun a7 =>
      (gR μ v0 4 11).bind fun a10 =>
      (gR μ v0 7 19).bind fun a13 =>
      (fX2_begin a7 a10 a13 μ).bind fun μ17 =>
      (gR μ17 v0 17 13).bind fun a20 =>
      (some (sI μ17 a20 0 v1)).bind fun μ23 =>
      (fX10_years_40 fuel) v0 v2 v3 (0 : Int32) μ23
    | .inr i26 =>
      some (.inr i26, μ)
  | .inr i27 =>
    some (.inr i27, μ)
set_option maxHeartbeats 4000000 in
theorem tX10_years {ω : Wd} {l : Launch} (d : Nat) {v0 : Nat} {v1 : Int32} {v2 : Int32} {v3 : Int32} {μ : Mem} {res : (Int32 ⊕ Nat) × Mem} (h : fX10_years v0 v1 v2 v3 μ = some res) (hN : μ.1 = NN) (k0 : (kd v0).1 = 20) : Ct ω l mX10_years (d + 9) [.ref v0, .int v1, .int v2, .int v3] μ 2 12 (PE (oI res.1) res.2 True) := by
  refine Ct.of pn_RX10 (Nat.le_of_ble_eq_true rfl) ?_
  show J ω l mX10_years (d + 9) 0 [(0, .ref v0), (1, .int v1), (2, .int v2), (3, .int v3)] [] μ 2 12 _
  unfold fX10_years at h
  refine J.aload_n (pc := 0) dX10_years_0 rfl 0 rfl ?_
  refine J.iload_n (pc := 1) dX10_years_1 rfl 3 rfl ?_
  refine J.iconst (pc := 2) dX10_years_2 ic_3 ?_
  obtain ⟨q, e1, h⟩ := bnd h
  rcases q with u | i27
  · try dsimp only at h
    refine J.callV (Y := mX10_years) (Z := mX10_needWhat) (pc := 3) (st := []) (k2 := 1) (n2 := 6) dX10_years_3 ml_RX10_140 mo_X10_needWhat mv_X10_needWhat rfl (tX10_needWhat d e1 hN k0) k0 (okN hN k0 (by decide)).1 (okN hN k0 (by decide)).2 cq_10 (by decide) rfl rfl (Nat.le_of_ble_eq_true rfl) (by decide) (by decide) (fun v ν hp => ?_) (fun i ν hp => nrm hp.1)
    obtain ⟨rfl, rfl, hN2, hb3⟩ := QEl hp
    show J _ _ _ _ 6 _ ([]) _ _ _ _
    refine J.aload_n (pc := 6) dX10_years_6 rfl 0 rfl ?_
    refine J.iload_n (pc := 7) dX10_years_7 rfl 2 rfl ?_
    refine J.iconst (pc := 8) dX10_years_8 ic_0 ?_
    refine J.bipush (pc := 9) dX10_years_9 ib_60 ?_
    obtain ⟨q, e4, h⟩ := bnd h
    rcases q with u | i26
    · try dsimp only at h
      refine J.callV (Y := mX10_years) (Z := mX10_needWithin) (pc := 11) (st := []) (k2 := 0) (n2 := 0) dX10_years_11 ml_RX10_260 mo_X10_needWithin mv_X10_needWithin rfl (tX10_needWithin d e4 hN2 k0) k0 (okN hN2 k0 (by decide)).1 (okN hN2 k0 (by decide)).2 cq_10 (by decide) rfl rfl (Nat.le_of_ble_eq_true rfl) (by decide) (by decide) (fun v ν hp => ?_) (fun i ν hp => nrm hp.1)
      obtain ⟨rfl, rfl, hN5, hb6⟩ := QEl hp
      show J _ _ _ _ 14 _ ([]) _ _ _ _
      refine J.aload_n (pc := 14) dX10_years_14 rfl 0 rfl ?_
      obtain ⟨a7, e8, h⟩ := bnd h
      have k9 : (kd a7).1 = 12 := gR_k e8
      refine J.fR (pc := 15) dX10_years_15 fl_RX10_79 k0 (okN hN5 k0 (by decide)) rfl e8 ?_
      refine J.aload_n (pc := 18) dX10_years_18 rfl 0 rfl ?_
      obtain ⟨a10, e11, h⟩ := bnd h
      have k12 : (kd a10).1 = 11 := gR_k e11
      refine J.fR (pc := 19) dX10_years_19 fl_RX10_26 k0 (okN hN5 k0 (by decide)) rfl e11 ?_
      refine J.aload_n (pc := 22) dX10_years_22 rfl 0 rfl ?_
      obtain ⟨a13, e14, h⟩ := bnd h
      have k15 : (kd a13).1 = 19 := gR_k e14
      refine J.fR (pc := 23) dX10_years_23 fl_RX10_45 k0 (okN hN5 k0 (by decide)) rfl e14 ?_
      obtain ⟨μ17, e16, h⟩ := bnd h
      refine J.callV (Y := mX10_years) (Z := mX2_begin) (pc := 26) (st := []) (k2 := 0) (n2 := 0) dX10_years_26 ml_RX10_264 mo_X2_begin mv_X2_begin rfl (tX2_begin (d + 6) e16 hN5 k9 k12 k15) k9 (okN hN5 k9 (by decide)).1 (okN hN5 k9 (by decide)).2 cq_2 (by decide) rfl rfl (Nat.le_of_ble_eq_true rfl) (by decide) (by decide) (fun v ν hp => ?_) (fun i ν hp => nrm hp.1)
      obtain ⟨rfl, rfl, hN18, hb19⟩ := QEl hp
      show J _ _ _ _ 29 _ ([]) _ _ _ _
      refine J.aload_n (pc := 29) dX10_years_29 rfl 0 rfl ?_
      obtain ⟨a20, e21, h⟩ := bnd h
      have k22 : (kd a20).1 = 13 := gR_k e21
      refine J.fR (pc := 30) dX10_years_30 fl_RX10_100 k0 (okN hN18 k0 (by decide)) rfl e21 ?_
      refine J.iload_n (pc := 33) dX10_years_33 rfl 1 rfl ?_
      obtain ⟨μ23, e24, h⟩ := bnd h
      have hN25 : μ23.1 = NN := smN e24 hN18
      refine J.qI (pc := 34) dX10_years_34 fl_RX10_380 k22 (okN hN18 k22 (by decide)) rfl rfl e24 ?_
      refine J.iconst (pc := 37) dX10_years_37 ic_0 ?_
      refine J.istore (pc := 38) ([(4, .int (0 : Int32)), (0, .ref v0), (1, .int v1), (2, .int v2), (3, .int v3)]) dX10_years_38 (Nat.le_of_ble_eq_true rfl) rfl ?_
      refine J.pick [1, 3, 4, 0] rfl ?_
      exact (tX10_years_40 d fuel) v0 v2 v3 (0 : Int32) μ23 h hN25 k0
    · try dsimp only at h
      refine J.callV (Y := mX10_years) (Z := mX10_needWithin) (pc := 11) (st := []) (k2 := 0) (n2 := 0) dX10_years_11 ml_RX10_260 mo_X10_needWithin mv_X10_needWithin rfl (tX10_needWithin d e4 hN2 k0) k0 (okN hN2 k0 (by decide)).1 (okN hN2 k0 (by decide)).2 cq_10 (by decide) rfl rfl (Nat.le_of_ble_eq_true rfl) (by decide) (by decide) (fun v ν hp => nlm hp.1) (fun i ν hp => ?_)
      obtain ⟨rfl, rfl, hN9, -⟩ := QEr hp
      cases h
      exact JX.out rfl ⟨rfl, rfl, hN9, trivial⟩
  · try dsimp only at h
    refine J.callV (Y := mX10_years) (Z := mX10_needWhat) (pc := 3) (st := []) (k2 := 1) (n2 := 6) dX10_years_3 ml_RX10_140 mo_X10_needWhat mv_X10_needWhat rfl (tX10_needWhat d e1 hN k0) k0 (okN hN k0 (by decide)).1 (okN hN k0 (by decide)).2 cq_10 (by decide) rfl rfl (Nat.le_of_ble_eq_true rfl) (by decide) (by decide) (fun v ν hp => nlm hp.1) (fun i ν hp => ?_)
    obtain ⟨rfl, rfl, hN9, -⟩ := QEr hp
    cases h
    exact JX.out rfl ⟨rfl, rfl, hN9, trivial⟩
