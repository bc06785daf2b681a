def fX5_stepOf (v0 : Nat) (v1 : Int32) (v2 : Int32) (μ : Mem) : Option (Int32) :=
  if v2 < (1 : Int32) then
    some v1
  else
    if (48 : Int32) < v2 then
      some v1
    else
      (gR μ v0 3 1).bind fun a7 =>
      (ldL μ a7 (v2 - (1 : Int32))).bind fun x10 =>
      if (((fX5_beside v0 (fX10_bit v1) μ) &&& (μ.2.2.1 v0 1)) &&& x10) = (0 : Int64) then
        some v1
      else
        some (fX10_lowest (((fX5_beside v0 (fX10_bit v1) μ) &&& (μ.2.2.1 v0 1)) &&& x10))
set_option maxHeartbeats 4000000 in
theorem tX5_stepOf {ω : Wd} {l : Launch} (d : Nat) {v0 : Nat} {v1 : Int32} {v2 : Int32} {μ : Mem} {res : Int32} (h : fX5_stepOf v0 v1 v2 μ = some res) (hN : μ.1 = NN) (k0 : (kd v0).1 = 15) : Ct ω l mX5_stepOf (d + 2) [.ref v0, .int v1, .int v2] μ 0 0 (PE (.inl (some (.int res))) μ True) := by
  refine Ct.of pn_RX5 (Nat.le_of_ble_eq_true rfl) ?_
  show J ω l mX5_stepOf (d + 2) 0 [(0, .ref v0), (1, .int v1), (2, .int v2)] [] μ 0 0 _
  unfold fX5_stepOf at h
  refine J.iload_n (pc := 0) dX5_stepOf_0 rfl 2 rfl ?_
  refine J.iconst (pc := 1) dX5_stepOf_1 ic_1 ?_
  rcases ifc h with ⟨hc, h⟩ | ⟨hc, h⟩
  · refine J.clt (pc := 2) (tgt := 11) dX5_stepOf_2 (by decide) (fun _ => ?_) (fun q => absurd hc q)
    refine J.iload_n (pc := 11) dX5_stepOf_11 rfl 1 rfl ?_
    cases h
    exact J.iret (pc := 12) dX5_stepOf_12 rfl ⟨rfl, rfl, hN, trivial⟩
  · refine J.clt (pc := 2) (tgt := 11) dX5_stepOf_2 (by decide) (fun q => absurd q hc) (fun _ => ?_)
    refine J.iload_n (pc := 5) dX5_stepOf_5 rfl 2 rfl ?_
    refine J.bipush (pc := 6) dX5_stepOf_6 ib_48 ?_
    rcases ifc h with ⟨hc, h⟩ | ⟨hc, h⟩
    · refine J.cle (pc := 8) (tgt := 13) dX5_stepOf_8 (by decide) (fun _ => ?_) (fun q => absurd hc q)
      refine J.iload_n (pc := 11) dX5_stepOf_11 rfl 1 rfl ?_
      cases h
      exact J.iret (pc := 12) dX5_stepOf_12 rfl ⟨rfl, rfl, hN, trivial⟩
    · refine J.cle (pc := 8) (tgt := 13) dX5_stepOf_8 (by decide) (fun q => absurd q hc) (fun _ => ?_)
      refine J.aload_n (pc := 13) dX5_stepOf_13 rfl 0 rfl ?_
      refine J.iload_n (pc := 14) dX5_stepOf_14 rfl 1 rfl ?_
      refine J.callSN (Y := mX5_stepOf) (Z := mX10_bit) (pc := 15) (st := [.ref v0]) (k2 := 0) (n2 := 0) dX5_stepOf_15 ml_RX5_40 mo_X10_bit ms_X10_bit rfl (tX10_bit (d + 1) v1 μ hN ) (fun i ν hp => nrm hp.1) rfl rfl (Nat.le_of_ble_eq_true rfl) (by decide) (by decide) (fun v ν hp => ?_)
      obtain ⟨rfl, rfl, hN2, hb3⟩ := QEl hp
      show J _ _ _ _ 18 _ ([.long (fX10_bit v1), .ref v0]) _ _ _ _
      refine J.callV (Y := mX5_stepOf) (Z := mX5_beside) (pc := 18) (st := []) (k2 := 0) (n2 := 0) dX5_stepOf_18 ml_RX5_44 mo_X5_beside mv_X5_beside rfl (tX5_beside (d + 1) v0 (fX10_bit v1) μ hN2 k0) k0 (okN hN2 k0 (by decide)).1 (okN hN2 k0 (by decide)).2 cq_5 (by decide) rfl rfl (Nat.le_of_ble_eq_true rfl) (by decide) (by decide) (fun v ν hp => ?_) (fun i ν hp => nrm hp.1)
      obtain ⟨rfl, rfl, hN5, hb6⟩ := QEl hp
      show J _ _ _ _ 21 _ ([.long (fX5_beside v0 (fX10_bit v1) μ)]) _ _ _ _
      refine J.aload_n (pc := 21) dX5_stepOf_21 rfl 0 rfl ?_
      refine J.fL (pc := 22) dX5_stepOf_22 fl_RX5_15 k0 (okN hN5 k0 (by decide)) rfl ?_
      refine J.land (pc := 25) dX5_stepOf_25 ?_
      refine J.aload_n (pc := 26) dX5_stepOf_26 rfl 0 rfl ?_
      obtain ⟨a7, e8, h⟩ := bnd h
      have k9 : (kd a7).1 = 1 := gR_k e8
      refine J.fR (pc := 27) dX5_stepOf_27 fl_RX5_21 k0 (okN hN5 k0 (by decide)) rfl e8 ?_
      refine J.iload_n (pc := 30) dX5_stepOf_30 rfl 2 rfl ?_
      refine J.iconst (pc := 31) dX5_stepOf_31 ic_1 ?_
      refine J.isub (pc := 32) dX5_stepOf_32 ?_
      obtain ⟨x10, e11, h⟩ := bnd h
      refine J.aL (pc := 33) dX5_stepOf_33 k9 (okN hN5 k9 (by decide)) e11 ?_
      refine J.land (pc := 34) dX5_stepOf_34 ?_
      refine J.lstore_n (pc := 35) ([(3, .long (((fX5_beside v0 (fX10_bit v1) μ) &&& (μ.2.2.1 v0 1)) &&& x10)), (0, .ref v0), (1, .int v1), (2, .int v2)]) dX5_stepOf_35 rfl (Nat.le_of_ble_eq_true rfl) rfl ?_
      refine J.lload_n (pc := 36) dX5_stepOf_36 rfl 0 rfl ?_
      refine J.lconst (pc := 37) dX5_stepOf_37 lc_0 ?_
      rcases ifc h with ⟨hc, h⟩ | ⟨hc, h⟩
      · refine J.mne (pc := 38) (tgt := 46) dX5_stepOf_38 dX5_stepOf_39 (by decide) (fun _ => ?_) (fun q => absurd hc q)
        refine J.iload_n (pc := 42) dX5_stepOf_42 rfl 2 rfl ?_
        refine J.goto (pc := 43) (tgt := 50) dX5_stepOf_43 (by decide) ?_
        cases h
        exact J.iret (pc := 50) dX5_stepOf_50 rfl ⟨rfl, rfl, hN5, trivial⟩
      · refine J.mne (pc := 38) (tgt := 46) dX5_stepOf_38 dX5_stepOf_39 (by decide) (fun q => absurd q hc) (fun _ => ?_)
        refine J.lload_n (pc := 46) dX5_stepOf_46 rfl 0 rfl ?_
        refine J.callSN (Y := mX5_stepOf) (Z := mX10_lowest) (pc := 47) (st := []) (k2 := 0) (n2 := 0) dX5_stepOf_47 ml_RX5_50 mo_X10_lowest ms_X10_lowest rfl (tX10_lowest d (((fX5_beside v0 (fX10_bit v1) μ) &&& (μ.2.2.1 v0 1)) &&& x10) μ hN5 ) (fun i ν hp => nrm hp.1) rfl rfl (Nat.le_of_ble_eq_true rfl) (by decide) (by decide) (fun v ν hp => ?_)
        obtain ⟨rfl, rfl, hN13, hb14⟩ := QEl hp
        show J _ _ _ _ 50 _ ([.int (fX10_lowest (((fX5_beside v0 (fX10_bit v1) μ) &&& (μ.2.2.1 v0 1)) &&& x10))]) _ _ _ _
        cases h
        exact J.iret (pc := 50) dX5_stepOf_50 rfl ⟨rfl, rfl, hN13, trivial⟩
def fX2_walk_28  : Nat → Nat → Int32 → Int32 → Int32 → Mem → Option (Mem)
  | 0, _, _, _, _, _ => none
  | n + 1, v0, v1, v2, v3, μ =>
    (gR μ v0 2 0).bind fun a1 =>
    (ldI μ a1 v1).bind fun x4 =>
    if v3 < x4 then
      if 0 < v2 then
        (fX2_goesOn v0 v1 v3 v2 μ).bind fun (r8, μ7) =>
        if r8 = 0 then
          (gR μ7 v0 3 0).bind fun a11 =>
          (ldI μ7 a11 v1).bind fun x14 =>
          (stI μ7 a11 v1 (x14 + v3)).bind fun μ16 =>
          some μ16
        else
          (gR μ7 v0 0 19).bind fun a19 =>
          (gR μ7 a19 4 0).bind fun a22 =>
          (gR μ7 v0 1 15).bind fun a25 =>
          (gR μ7 v0 0 19).bind fun a28 =>
          (gR μ7 a28 4 0).bind fun a31 =>
          (ldI μ7 a31 v1).bind fun x34 =>
          (fX5_stepOf a25 x34 v2 μ7).bind fun r37 =>
          (stI μ7 a22 v1 r37).bind fun μ40 =>
          (fX2_walk_28 n) v0 v1 (v2 + (-1 : Int32)) (v3 + (1 : Int32)) μ40
      else
        (gR μ v0 3 0).bind fun a43 =>
        (ldI μ a43 v1).bind fun x46 =>
        (stI μ a43 v1 (x46 + v3)).bind fun μ48 =>
        some μ48
    else
      (gR μ v0 3 0).bind fun a51 =>
      (ldI μ a51 v1).bind fun x54 =>
      (stI μ a51 v1 (x54 + v3)).bind fun μ56 =>
      some μ56
set_option maxHeartbeats 4000000 in
theorem tX2_walk_28 {ω : Wd} {l : Launch} (d : Nat) {res : Mem} : ∀ n : Nat, ∀ (v0 : Nat) (v1 : Int32) (v2 : Int32) (v3 : Int32) (μ : Mem), fX2_walk_28 n v0 v1 v2 v3 μ = some res → μ.1 = NN → (kd v0).1 = 12 → J ω l mX2_walk (d + 3) 28 [(0, .ref v0), (1, .int v1), (2, .int v2), (3, .int v3)] [] μ 0 0 (PE (.inl none) res True) := by
  intro n
  induction n with
  | zero =>
    intro v0 v1 v2 v3 μ h hN k0
    have h9 : (none : Option (Mem)) = some res := h
    cases h9
  | succ n ih =>
    intro v0 v1 v2 v3 μ h hN k0
    unfold fX2_walk_28 at h
    refine J.iload_n (pc := 28) dX2_walk_28 rfl 3 rfl ?_
    refine J.aload_n (pc := 29) dX2_walk_29 rfl 0 rfl ?_
    obtain ⟨a1, e2, h⟩ := bnd h
    have k3 : (kd a1).1 = 0 := gR_k e2
    refine J.fR (pc := 30) dX2_walk_30 fl_RX2_25 k0 (okN hN k0 (by decide)) rfl e2 ?_
    refine J.iload_n (pc := 33) dX2_walk_33 rfl 1 rfl ?_
    obtain ⟨x4, e5, h⟩ := bnd h
    refine J.aI (pc := 34) dX2_walk_34 k3 (okN hN k3 (by decide)) e5 ?_
    rcases ifc h with ⟨hc, h⟩ | ⟨hc, h⟩
    · refine J.cge (pc := 35) (tgt := 87) dX2_walk_35 (by decide) (fun _ => ?_) (fun q => absurd hc q)
      refine J.iload_n (pc := 38) dX2_walk_38 rfl 2 rfl ?_
      rcases ifc h with ⟨hc, h⟩ | ⟨hc, h⟩
      · refine J.zle (pc := 39) (tgt := 87) dX2_walk_39 (by decide) (fun _ => ?_) (fun q => absurd hc q)
        refine J.aload_n (pc := 42) dX2_walk_42 rfl 0 rfl ?_
        refine J.iload_n (pc := 43) dX2_walk_43 rfl 1 rfl ?_
        refine J.iload_n (pc := 44) dX2_walk_44 rfl 3 rfl ?_
        refine J.iload_n (pc := 45) dX2_walk_45 rfl 2 rfl ?_
        obtain ⟨⟨r8, μ7⟩, e6, h⟩ := bnd h
        try dsimp only at h
        refine J.callV (Y := mX2_walk) (Z := mX2_goesOn) (pc := 46) (st := []) (k2 := 0) (n2 := 0) dX2_walk_46 ml_RX2_83 mo_X2_goesOn mv_X2_goesOn rfl (tX2_goesOn d e6 hN k0) k0 (okN hN k0 (by decide)).1 (okN hN k0 (by decide)).2 cq_2 (by decide) rfl rfl (Nat.le_of_ble_eq_true rfl) (by decide) (by decide) (fun v ν hp => ?_) (fun i ν hp => nrm hp.1)
        obtain ⟨rfl, rfl, hN9, hb10⟩ := QEl hp
        show J _ _ _ _ 49 _ ([.int r8]) _ _ _ _
        rcases ifc h with ⟨hc, h⟩ | ⟨hc, h⟩
        · refine J.zeq (pc := 49) (tgt := 87) dX2_walk_49 (by decide) (fun _ => ?_) (fun q => absurd hc q)
          refine J.aload_n (pc := 87) dX2_walk_87 rfl 0 rfl ?_
          obtain ⟨a11, e12, h⟩ := bnd h
          have k13 : (kd a11).1 = 0 := gR_k e12
          refine J.fR (pc := 88) dX2_walk_88 fl_RX2_29 k0 (okN hN9 k0 (by decide)) rfl e12 ?_
          refine J.iload_n (pc := 91) dX2_walk_91 rfl 1 rfl ?_
          refine J.dup2 (pc := 92) dX2_walk_92 rfl rfl ?_
          obtain ⟨x14, e15, h⟩ := bnd h
          refine J.aI (pc := 93) dX2_walk_93 k13 (okN hN9 k13 (by decide)) e15 ?_
          refine J.iload_n (pc := 94) dX2_walk_94 rfl 3 rfl ?_
          refine J.iadd (pc := 95) dX2_walk_95 ?_
          obtain ⟨μ16, e17, h⟩ := bnd h
          have hN18 : μ16.1 = NN := stI_N e17 hN9
          refine J.wI (pc := 96) dX2_walk_96 k13 (okN hN9 k13 (by decide)) e17 ?_
          cases h
          exact J.vret (pc := 97) dX2_walk_97 rfl ⟨rfl, rfl, hN18, trivial⟩
        · refine J.zeq (pc := 49) (tgt := 87) dX2_walk_49 (by decide) (fun q => absurd q hc) (fun _ => ?_)
          refine J.aload_n (pc := 52) dX2_walk_52 rfl 0 rfl ?_
          obtain ⟨a19, e20, h⟩ := bnd h
          have k21 : (kd a19).1 = 19 := gR_k e20
          refine J.fR (pc := 53) dX2_walk_53 fl_RX2_12 k0 (okN hN9 k0 (by decide)) rfl e20 ?_
          obtain ⟨a22, e23, h⟩ := bnd h
          have k24 : (kd a22).1 = 0 := gR_k e23
          refine J.fR (pc := 56) dX2_walk_56 fl_RX2_67 k21 (okN hN9 k21 (by decide)) rfl e23 ?_
          refine J.iload_n (pc := 59) dX2_walk_59 rfl 1 rfl ?_
          refine J.aload_n (pc := 60) dX2_walk_60 rfl 0 rfl ?_
          obtain ⟨a25, e26, h⟩ := bnd h
          have k27 : (kd a25).1 = 15 := gR_k e26
          refine J.fR (pc := 61) dX2_walk_61 fl_RX2_21 k0 (okN hN9 k0 (by decide)) rfl e26 ?_
          refine J.aload_n (pc := 64) dX2_walk_64 rfl 0 rfl ?_
          obtain ⟨a28, e29, h⟩ := bnd h
          have k30 : (kd a28).1 = 19 := gR_k e29
          refine J.fR (pc := 65) dX2_walk_65 fl_RX2_12 k0 (okN hN9 k0 (by decide)) rfl e29 ?_
          obtain ⟨a31, e32, h⟩ := bnd h
          have k33 : (kd a31).1 = 0 := gR_k e32
          refine J.fR (pc := 68) dX2_walk_68 fl_RX2_67 k30 (okN hN9 k30 (by decide)) rfl e32 ?_
          refine J.iload_n (pc := 71) dX2_walk_71 rfl 1 rfl ?_
          obtain ⟨x34, e35, h⟩ := bnd h
          refine J.aI (pc := 72) dX2_walk_72 k33 (okN hN9 k33 (by decide)) e35 ?_
          refine J.iload_n (pc := 73) dX2_walk_73 rfl 2 rfl ?_
          obtain ⟨r37, e36, h⟩ := bnd h
          refine J.callV (Y := mX2_walk) (Z := mX5_stepOf) (pc := 74) (st := [.int v1, .ref a22]) (k2 := 0) (n2 := 0) dX2_walk_74 ml_RX2_87 mo_X5_stepOf mv_X5_stepOf rfl (tX5_stepOf d e36 hN9 k27) k27 (okN hN9 k27 (by decide)).1 (okN hN9 k27 (by decide)).2 cq_5 (by decide) rfl rfl (Nat.le_of_ble_eq_true rfl) (by decide) (by decide) (fun v ν hp => ?_) (fun i ν hp => nrm hp.1)
          obtain ⟨rfl, rfl, hN38, hb39⟩ := QEl hp
          show J _ _ _ _ 77 _ ([.int r37, .int v1, .ref a22]) _ _ _ _
          obtain ⟨μ40, e41, h⟩ := bnd h
          have hN42 : μ40.1 = NN := stI_N e41 hN38
          refine J.wI (pc := 77) dX2_walk_77 k24 (okN hN38 k24 (by decide)) e41 ?_
          refine J.iinc (pc := 78) (j := 2) ([(2, .int (v2 + (-1 : Int32))), (0, .ref v0), (1, .int v1), (3, .int v3)]) dX2_walk_78 rfl (iincv ic_m1) (Nat.le_of_ble_eq_true rfl) rfl ?_
          refine J.iinc (pc := 81) (j := 3) ([(3, .int (v3 + (1 : Int32))), (2, .int (v2 + (-1 : Int32))), (0, .ref v0), (1, .int v1)]) dX2_walk_81 rfl (iincv ic_1) (Nat.le_of_ble_eq_true rfl) rfl ?_
          refine J.goto (pc := 84) (tgt := 28) dX2_walk_84 (by decide) ?_
          refine J.pick [2, 3, 1, 0] rfl ?_
          exact ih v0 v1 (v2 + (-1 : Int32)) (v3 + (1 : Int32)) μ40 h hN42 k0
      · refine J.zle (pc := 39) (tgt := 87) dX2_walk_39 (by decide) (fun q => absurd q hc) (fun _ => ?_)
        refine J.aload_n (pc := 87) dX2_walk_87 rfl 0 rfl ?_
        obtain ⟨a43, e44, h⟩ := bnd h
        have k45 : (kd a43).1 = 0 := gR_k e44
        refine J.fR (pc := 88) dX2_walk_88 fl_RX2_29 k0 (okN hN k0 (by decide)) rfl e44 ?_
        refine J.iload_n (pc := 91) dX2_walk_91 rfl 1 rfl ?_
        refine J.dup2 (pc := 92) dX2_walk_92 rfl rfl ?_
        obtain ⟨x46, e47, h⟩ := bnd h
        refine J.aI (pc := 93) dX2_walk_93 k45 (okN hN k45 (by decide)) e47 ?_
        refine J.iload_n (pc := 94) dX2_walk_94 rfl 3 rfl ?_
        refine J.iadd (pc := 95) dX2_walk_95 ?_
        obtain ⟨μ48, e49, h⟩ := bnd h
        have hN50 : μ48.1 = NN := stI_N e49 hN
        refine J.wI (pc := 96) dX2_walk_96 k45 (okN hN k45 (by decide)) e49 ?_
        cases h
        exact J.vret (pc := 97) dX2_walk_97 rfl ⟨rfl, rfl, hN50, trivial⟩
    · refine J.cge (pc := 35) (tgt := 87) dX2_walk_35 (by decide) (fun q => absurd q hc) (fun _ => ?_)
      refine J.aload_n (pc := 87) dX2_walk_87 rfl 0 rfl ?_
      obtain ⟨a51, e52, h⟩ := bnd h
      have k53 : (kd a51).1 = 0 := gR_k e52
      refine J.fR (pc := 88) dX2_walk_88 fl_RX2_29 k0 (okN hN k0 (by decide)) rfl e52 ?_
      refine J.iload_n (pc := 91) dX2_walk_91 rfl 1 rfl ?_
      refine J.dup2 (pc := 92) dX2_walk_92 rfl rfl ?_
      obtain ⟨x54, e55, h⟩ := bnd h
      refine J.aI (pc := 93) dX2_walk_93 k53 (okN hN k53 (by decide)) e55 ?_
      refine J.iload_n (pc := 94) dX2_walk_94 rfl 3 rfl ?_
      refine J.iadd (pc := 95) dX2_walk_95 ?_
      obtain ⟨μ56, e57, h⟩ := bnd h
      have hN58 : μ56.1 = NN := stI_N e57 hN
      refine J.wI (pc := 96) dX2_walk_96 k53 (okN hN k53 (by decide)) e57 ?_
      cases h
      exact J.vret (pc := 97) dX2_walk_97 rfl ⟨rfl, rfl, hN58, trivial⟩
def fX2_walk (v0 : Nat) (v1 : Int32) (μ : Mem) : Option (Mem) :=
  (gR μ v0 1 15).bind fun a1 =>
  (gR μ v0 0 19).bind fun a4 =>
  (gR μ a4 4 0).bind fun a7 =>
  (ldI μ a7 v1).bind fun x10 =>
  (gR μ v0 0 19).bind fun a12 =>
  (gR μ a12 5 0).bind fun a15 =>
  (ldI μ a15 v1).bind fun x18 =>
  (fX5_far a1 x10 x18 μ).bind fun (r22, μ21) =>
  (fX2_walk_28 fuel) v0 v1 r22 (0 : Int32) μ21
set_option maxHeartbeats 4000000 in
theorem tX2_walk {ω : Wd} {l : Launch} (d : Nat) {v0 : Nat} {v1 : Int32} {μ : Mem} {res : Mem} (h : fX2_walk v0 v1 μ = some res) (hN : μ.1 = NN) (k0 : (kd v0).1 = 12) : Ct ω l mX2_walk (d + 3) [.ref v0, .int v1] μ 0 0 (PE (.inl none) res True) := by
  refine Ct.of pn_RX2 (Nat.le_of_ble_eq_true rfl) ?_
  show J ω l mX2_walk (d + 3) 0 [(0, .ref v0), (1, .int v1)] [] μ 0 0 _
  unfold fX2_walk at h
  refine J.aload_n (pc := 0) dX2_walk_0 rfl 0 rfl ?_
  obtain ⟨a1, e2, h⟩ := bnd h
  have k3 : (kd a1).1 = 15 := gR_k e2
  refine J.fR (pc := 1) dX2_walk_1 fl_RX2_21 k0 (okN hN k0 (by decide)) rfl e2 ?_
  refine J.aload_n (pc := 4) dX2_walk_4 rfl 0 rfl ?_
  obtain ⟨a4, e5, h⟩ := bnd h
  have k6 : (kd a4).1 = 19 := gR_k e5
  refine J.fR (pc := 5) dX2_walk_5 fl_RX2_12 k0 (okN hN k0 (by decide)) rfl e5 ?_
  obtain ⟨a7, e8, h⟩ := bnd h
  have k9 : (kd a7).1 = 0 := gR_k e8
  refine J.fR (pc := 8) dX2_walk_8 fl_RX2_67 k6 (okN hN k6 (by decide)) rfl e8 ?_
  refine J.iload_n (pc := 11) dX2_walk_11 rfl 1 rfl ?_
  obtain ⟨x10, e11, h⟩ := bnd h
  refine J.aI (pc := 12) dX2_walk_12 k9 (okN hN k9 (by decide)) e11 ?_
  refine J.aload_n (pc := 13) dX2_walk_13 rfl 0 rfl ?_
  obtain ⟨a12, e13, h⟩ := bnd h
  have k14 : (kd a12).1 = 19 := gR_k e13
  refine J.fR (pc := 14) dX2_walk_14 fl_RX2_12 k0 (okN hN k0 (by decide)) rfl e13 ?_
  obtain ⟨a15, e16, h⟩ := bnd h
  have k17 : (kd a15).1 = 0 := gR_k e16
  refine J.fR (pc := 17) dX2_walk_17 fl_RX2_60 k14 (okN hN k14 (by decide)) rfl e16 ?_
  refine J.iload_n (pc := 20) dX2_walk_20 rfl 1 rfl ?_
  obtain ⟨x18, e19, h⟩ := bnd h
  refine J.aI (pc := 21) dX2_walk_21 k17 (okN hN k17 (by decide)) e19 ?_
  obtain ⟨⟨r22, μ21⟩, e20, h⟩ := bnd h
  try dsimp only at h
  refine J.callV (Y := mX2_walk) (Z := mX5_far) (pc := 22) (st := []) (k2 := 0) (n2 := 0) dX2_walk_22 ml_RX2_79 mo_X5_far mv_X5_far rfl (tX5_far (d + 1) e20 hN k3) k3 (okN hN k3 (by decide)).1 (okN hN k3 (by decide)).2 cq_5 (by decide) rfl rfl (Nat.le_of_ble_eq_true rfl) (by decide) (by decide) (fun v ν hp => ?_) (fun i ν hp => nrm hp.1)
  obtain ⟨rfl, rfl, hN23, hb24⟩ := QEl hp
  show J _ _ _ _ 25 _ ([.int r22]) _ _ _ _
  refine J.istore_n (pc := 25) ([(2, .int r22), (0, .ref v0), (1, .int v1)]) dX2_walk_25 rfl (Nat.le_of_ble_eq_true rfl) rfl ?_
  refine J.iconst (pc := 26) dX2_walk_26 ic_0 ?_
  refine J.istore_n (pc := 27) ([(3, .int (0 : Int32)), (2, .int r22), (0, .ref v0), (1, .int v1)]) dX2_walk_27 rfl (Nat.le_of_ble_eq_true rfl) rfl ?_
  refine J.pick [2, 3, 1, 0] rfl ?_
  exact (tX2_walk_28 d fuel) v0 v1 r22 (0 : Int32) μ21 h hN23 k0
def fX5_lay (v0 : Nat) (v1 : Nat) (v2 : Nat) (μ : Mem) : Option (Mem) :=
  (some (sL μ v0 0 (μ.2.2.1 v1 2))).bind fun μ1 =>
  (some (sL μ1 v0 1 (μ1.2.2.1 v2 1))).bind fun μ4 =>
  (some (sL μ4 v0 2 (μ4.2.2.1 v2 2))).bind fun μ7 =>
  some μ7
set_option maxHeartbeats 4000000 in
theorem tX5_lay {ω : Wd} {l : Launch} (d : Nat) {v0 : Nat} {v1 : Nat} {v2 : Nat} {μ : Mem} {res : Mem} (h : fX5_lay v0 v1 v2 μ = some res) (hN : μ.1 = NN) (k0 : (kd v0).1 = 15) (k1 : (kd v1).1 = 11) (k2 : (kd v2).1 = 19) : Ct ω l mX5_lay d [.ref v0, .ref v1, .ref v2] μ 0 0 (PE (.inl none) res True) := by
  refine Ct.of pn_RX5 (Nat.le_of_ble_eq_true rfl) ?_
  show J ω l mX5_lay d 0 [(0, .ref v0), (1, .ref v1), (2, .ref v2)] [] μ 0 0 _
  unfold fX5_lay at h
  refine J.aload_n (pc := 0) dX5_lay_0 rfl 0 rfl ?_
  refine J.aload_n (pc := 1) dX5_lay_1 rfl 1 rfl ?_
  refine J.fL (pc := 2) dX5_lay_2 fl_RX5_29 k1 (okN hN k1 (by decide)) rfl ?_
  obtain ⟨μ1, e2, h⟩ := bnd h
  have hN3 : μ1.1 = NN := smN e2 hN
  refine J.qL (pc := 5) dX5_lay_5 fl_RX5_9 k0 (okN hN k0 (by decide)) rfl rfl e2 ?_
  refine J.aload_n (pc := 8) dX5_lay_8 rfl 0 rfl ?_
  refine J.aload_n (pc := 9) dX5_lay_9 rfl 2 rfl ?_
  refine J.fL (pc := 10) dX5_lay_10 fl_RX5_32 k2 (okN hN3 k2 (by decide)) rfl ?_
  obtain ⟨μ4, e5, h⟩ := bnd h
  have hN6 : μ4.1 = NN := smN e5 hN3
  refine J.qL (pc := 13) dX5_lay_13 fl_RX5_15 k0 (okN hN3 k0 (by decide)) rfl rfl e5 ?_
  refine J.aload_n (pc := 16) dX5_lay_16 rfl 0 rfl ?_
  refine J.aload_n (pc := 17) dX5_lay_17 rfl 2 rfl ?_
  refine J.fL (pc := 18) dX5_lay_18 fl_RX5_35 k2 (okN hN6 k2 (by decide)) rfl ?_
  obtain ⟨μ7, e8, h⟩ := bnd h
  have hN9 : μ7.1 = NN := smN e8 hN6
  refine J.qL (pc := 21) dX5_lay_21 fl_RX5_18 k0 (okN hN6 k0 (by decide)) rfl rfl e8 ?_
  cases h
  exact J.vret (pc := 24) dX5_lay_24 rfl ⟨rfl, rfl, hN9, trivial⟩
def fX2_pass_50  (K17 : Nat → Int32 → Int32 → Mem → Option (Mem)) (v0 : Nat) (v1 : Int32) (v2 : Int32) (μ : Mem) : Option (Mem) :=
  (gR μ v0 0 19).bind fun a1 =>
  (gR μ a1 5 0).bind fun a4 =>
  (ldI μ a4 v2).bind fun x7 =>
  if x7 = (-1 : Int32) then
    K17 v0 v1 (v2 + (1 : Int32)) μ
  else
    (gR μ v0 0 19).bind fun a9 =>
    (gR μ a9 5 0).bind fun a12 =>
    (ldI μ a12 v2).bind fun x15 =>
    (gR μ v0 0 19).bind fun a17 =>
    (gR μ a17 4 0).bind fun a20 =>
    (ldI μ a20 v2).bind fun x23 =>
    if x15 = x23 then
      (gR μ v0 0 19).bind fun a25 =>
      (gR μ a25 5 0).bind fun a28 =>
      (stI μ a28 v2 (-1 : Int32)).bind fun μ31 =>
      (gR μ31 v0 4 0).bind fun a34 =>
      (ldI μ31 a34 v2).bind fun x37 =>
      (stI μ31 a34 v2 (x37 + (1 : Int32))).bind fun μ39 =>
      K17 v0 v1 (v2 + (1 : Int32)) μ39
    else
      K17 v0 v1 (v2 + (1 : Int32)) μ
set_option maxHeartbeats 4000000 in
theorem tX2_pass_50 {ω : Wd} {l : Launch} (d : Nat) {res : Mem} (K17 : Nat → Int32 → Int32 → Mem → Option (Mem)) (hK17 : ∀ (v0 : Nat) (v1 : Int32) (v2 : Int32) (μ : Mem), K17 v0 v1 v2 μ = some res → μ.1 = NN → (kd v0).1 = 12 → J ω l mX2_pass (d + 4) 17 [(0, .ref v0), (1, .int v1), (2, .int v2)] [] μ 0 0 (PE (.inl none) res True)) : ∀ (v0 : Nat) (v1 : Int32) (v2 : Int32) (μ : Mem), fX2_pass_50 K17 v0 v1 v2 μ = some res → μ.1 = NN → (kd v0).1 = 12 → J ω l mX2_pass (d + 4) 50 [(0, .ref v0), (1, .int v1), (2, .int v2)] [] μ 0 0 (PE (.inl none) res True) := by
  intro v0 v1 v2 μ h hN k0
  unfold fX2_pass_50 at h
  refine J.aload_n (pc := 50) dX2_pass_50 rfl 0 rfl ?_
  obtain ⟨a1, e2, h⟩ := bnd h
  have k3 : (kd a1).1 = 19 := gR_k e2
  refine J.fR (pc := 51) dX2_pass_51 fl_RX2_12 k0 (okN hN k0 (by decide)) rfl e2 ?_
  obtain ⟨a4, e5, h⟩ := bnd h
  have k6 : (kd a4).1 = 0 := gR_k e5
  refine J.fR (pc := 54) dX2_pass_54 fl_RX2_60 k3 (okN hN k3 (by decide)) rfl e5 ?_
  refine J.iload_n (pc := 57) dX2_pass_57 rfl 2 rfl ?_
  obtain ⟨x7, e8, h⟩ := bnd h
  refine J.aI (pc := 58) dX2_pass_58 k6 (okN hN k6 (by decide)) e8 ?_
  refine J.iconst (pc := 59) dX2_pass_59 ic_m1 ?_
  rcases ifc h with ⟨hc, h⟩ | ⟨hc, h⟩
  · refine J.ceq (pc := 60) (tgt := 104) dX2_pass_60 (by decide) (fun _ => ?_) (fun q => absurd hc q)
    refine J.iinc (pc := 104) (j := 2) ([(2, .int (v2 + (1 : Int32))), (0, .ref v0), (1, .int v1)]) dX2_pass_104 rfl (iincv ic_1) (Nat.le_of_ble_eq_true rfl) rfl ?_
    refine J.goto (pc := 107) (tgt := 17) dX2_pass_107 (by decide) ?_
    refine J.pick [1, 2, 0] rfl ?_
    exact hK17 v0 v1 (v2 + (1 : Int32)) μ h hN k0
  · refine J.ceq (pc := 60) (tgt := 104) dX2_pass_60 (by decide) (fun q => absurd q hc) (fun _ => ?_)
    refine J.aload_n (pc := 63) dX2_pass_63 rfl 0 rfl ?_
    obtain ⟨a9, e10, h⟩ := bnd h
    have k11 : (kd a9).1 = 19 := gR_k e10
    refine J.fR (pc := 64) dX2_pass_64 fl_RX2_12 k0 (okN hN k0 (by decide)) rfl e10 ?_
    obtain ⟨a12, e13, h⟩ := bnd h
    have k14 : (kd a12).1 = 0 := gR_k e13
    refine J.fR (pc := 67) dX2_pass_67 fl_RX2_60 k11 (okN hN k11 (by decide)) rfl e13 ?_
    refine J.iload_n (pc := 70) dX2_pass_70 rfl 2 rfl ?_
    obtain ⟨x15, e16, h⟩ := bnd h
    refine J.aI (pc := 71) dX2_pass_71 k14 (okN hN k14 (by decide)) e16 ?_
    refine J.aload_n (pc := 72) dX2_pass_72 rfl 0 rfl ?_
    obtain ⟨a17, e18, h⟩ := bnd h
    have k19 : (kd a17).1 = 19 := gR_k e18
    refine J.fR (pc := 73) dX2_pass_73 fl_RX2_12 k0 (okN hN k0 (by decide)) rfl e18 ?_
    obtain ⟨a20, e21, h⟩ := bnd h
    have k22 : (kd a20).1 = 0 := gR_k e21
    refine J.fR (pc := 76) dX2_pass_76 fl_RX2_67 k19 (okN hN k19 (by decide)) rfl e21 ?_
    refine J.iload_n (pc := 79) dX2_pass_79 rfl 2 rfl ?_
    obtain ⟨x23, e24, h⟩ := bnd h
    refine J.aI (pc := 80) dX2_pass_80 k22 (okN hN k22 (by decide)) e24 ?_
    rcases ifc h with ⟨hc, h⟩ | ⟨hc, h⟩
    · refine J.cne (pc := 81) (tgt := 104) dX2_pass_81 (by decide) (fun _ => ?_) (fun q => absurd hc q)
      refine J.aload_n (pc := 84) dX2_pass_84 rfl 0 rfl ?_
      obtain ⟨a25, e26, h⟩ := bnd h
      have k27 : (kd a25).1 = 19 := gR_k e26
      refine J.fR (pc := 85) dX2_pass_85 fl_RX2_12 k0 (okN hN k0 (by decide)) rfl e26 ?_
      obtain ⟨a28, e29, h⟩ := bnd h
      have k30 : (kd a28).1 = 0 := gR_k e29
      refine J.fR (pc := 88) dX2_pass_88 fl_RX2_60 k27 (okN hN k27 (by decide)) rfl e29 ?_
      refine J.iload_n (pc := 91) dX2_pass_91 rfl 2 rfl ?_
      refine J.iconst (pc := 92) dX2_pass_92 ic_m1 ?_
      obtain ⟨μ31, e32, h⟩ := bnd h
      have hN33 : μ31.1 = NN := stI_N e32 hN
      refine J.wI (pc := 93) dX2_pass_93 k30 (okN hN k30 (by decide)) e32 ?_
      refine J.aload_n (pc := 94) dX2_pass_94 rfl 0 rfl ?_
      obtain ⟨a34, e35, h⟩ := bnd h
      have k36 : (kd a34).1 = 0 := gR_k e35
      refine J.fR (pc := 95) dX2_pass_95 fl_RX2_32 k0 (okN hN33 k0 (by decide)) rfl e35 ?_
      refine J.iload_n (pc := 98) dX2_pass_98 rfl 2 rfl ?_
      refine J.dup2 (pc := 99) dX2_pass_99 rfl rfl ?_
      obtain ⟨x37, e38, h⟩ := bnd h
      refine J.aI (pc := 100) dX2_pass_100 k36 (okN hN33 k36 (by decide)) e38 ?_
      refine J.iconst (pc := 101) dX2_pass_101 ic_1 ?_
      refine J.iadd (pc := 102) dX2_pass_102 ?_
      obtain ⟨μ39, e40, h⟩ := bnd h
      have hN41 : μ39.1 = NN := stI_N e40 hN33
      refine J.wI (pc := 103) dX2_pass_103 k36 (okN hN33 k36 (by decide)) e40 ?_
      refine J.iinc (pc := 104) (j := 2) ([(2, .int (v2 + (1 : Int32))), (0, .ref v0), (1, .int v1)]) dX2_pass_104 rfl (iincv ic_1) (Nat.le_of_ble_eq_true rfl) rfl ?_
      refine J.goto (pc := 107) (tgt := 17) dX2_pass_107 (by decide) ?_
      refine J.pick [1, 2, 0] rfl ?_
      exact hK17 v0 v1 (v2 + (1 : Int32)) μ39 h hN41 k0
    · refine J.cne (pc := 81) (tgt := 104) dX2_pass_81 (by decide) (fun q => absurd q hc) (fun _ => ?_)
      refine J.iinc (pc := 104) (j := 2) ([(2, .int (v2 + (1 : Int32))), (0, .ref v0), (1, .int v1)]) dX2_pass_104 rfl (iincv ic_1) (Nat.le_of_ble_eq_true rfl) rfl ?_
      refine J.goto (pc := 107) (tgt := 17) dX2_pass_107 (by decide) ?_
      refine J.pick [1, 2, 0] rfl ?_
      exact hK17 v0 v1 (v2 + (1 : Int32)) μ h hN k0
def fX2_pass_17  : Nat → Nat → Int32 → Int32 → Mem → Option (Mem)
  | 0, _, _, _, _ => none
  | n + 1, v0, v1, v2, μ =>
    (gR μ v0 7 11).bind fun a1 =>
    if v2 < (μ.2.1 a1 1) then
      if v1 = 0 then
        (fX2_pass_50 (fX2_pass_17 n)) v0 v1 v2 μ
      else
        (gR μ v0 0 19).bind fun a4 =>
        (gR μ a4 5 0).bind fun a7 =>
        (ldI μ a7 v2).bind fun x10 =>
        if x10 = (-1 : Int32) then
          (fX2_pass_50 (fX2_pass_17 n)) v0 v1 v2 μ
        else
          (fX2_walk v0 v2 μ).bind fun μ13 =>
          (fX2_pass_50 (fX2_pass_17 n)) v0 v1 v2 μ13
    else
      (fX2_greet v0 μ).bind fun μ17 =>
      (fX2_fade v0 μ17).bind fun μ21 =>
      (gR μ21 v0 0 19).bind fun a24 =>
      (some (sI μ21 a24 0 ((μ21.2.1 a24 0) + (1 : Int32)))).bind fun μ27 =>
      some μ27
set_option maxHeartbeats 4000000 in
theorem tX2_pass_17 {ω : Wd} {l : Launch} (d : Nat) {res : Mem} : ∀ n : Nat, ∀ (v0 : Nat) (v1 : Int32) (v2 : Int32) (μ : Mem), fX2_pass_17 n v0 v1 v2 μ = some res → μ.1 = NN → (kd v0).1 = 12 → J ω l mX2_pass (d + 4) 17 [(0, .ref v0), (1, .int v1), (2, .int v2)] [] μ 0 0 (PE (.inl none) res True) := by
  intro n
  induction n with
  | zero =>
    intro v0 v1 v2 μ h hN k0
    have h9 : (none : Option (Mem)) = some res := h
    cases h9
  | succ n ih =>
    intro v0 v1 v2 μ h hN k0
    unfold fX2_pass_17 at h
    refine J.iload_n (pc := 17) dX2_pass_17 rfl 2 rfl ?_
    refine J.aload_n (pc := 18) dX2_pass_18 rfl 0 rfl ?_
    obtain ⟨a1, e2, h⟩ := bnd h
    have k3 : (kd a1).1 = 11 := gR_k e2
    refine J.fR (pc := 19) dX2_pass_19 fl_RX2_42 k0 (okN hN k0 (by decide)) rfl e2 ?_
    refine J.fI (pc := 22) dX2_pass_22 fl_RX2_57 k3 (okN hN k3 (by decide)) (Or.inl rfl) ?_
    rcases ifc h with ⟨hc, h⟩ | ⟨hc, h⟩
    · refine J.cge (pc := 25) (tgt := 110) dX2_pass_25 (by decide) (fun _ => ?_) (fun q => absurd hc q)
      refine J.iload_n (pc := 28) dX2_pass_28 rfl 1 rfl ?_
      rcases ifc h with ⟨hc, h⟩ | ⟨hc, h⟩
      · refine J.zeq (pc := 29) (tgt := 50) dX2_pass_29 (by decide) (fun _ => ?_) (fun q => absurd hc q)
        exact (tX2_pass_50 d (fX2_pass_17 n) ih) v0 v1 v2 μ h hN k0
      · refine J.zeq (pc := 29) (tgt := 50) dX2_pass_29 (by decide) (fun q => absurd q hc) (fun _ => ?_)
        refine J.aload_n (pc := 32) dX2_pass_32 rfl 0 rfl ?_
        obtain ⟨a4, e5, h⟩ := bnd h
        have k6 : (kd a4).1 = 19 := gR_k e5
        refine J.fR (pc := 33) dX2_pass_33 fl_RX2_12 k0 (okN hN k0 (by decide)) rfl e5 ?_
        obtain ⟨a7, e8, h⟩ := bnd h
        have k9 : (kd a7).1 = 0 := gR_k e8
        refine J.fR (pc := 36) dX2_pass_36 fl_RX2_60 k6 (okN hN k6 (by decide)) rfl e8 ?_
        refine J.iload_n (pc := 39) dX2_pass_39 rfl 2 rfl ?_
        obtain ⟨x10, e11, h⟩ := bnd h
        refine J.aI (pc := 40) dX2_pass_40 k9 (okN hN k9 (by decide)) e11 ?_
        refine J.iconst (pc := 41) dX2_pass_41 ic_m1 ?_
        rcases ifc h with ⟨hc, h⟩ | ⟨hc, h⟩
        · refine J.ceq (pc := 42) (tgt := 50) dX2_pass_42 (by decide) (fun _ => ?_) (fun q => absurd hc q)
          exact (tX2_pass_50 d (fX2_pass_17 n) ih) v0 v1 v2 μ h hN k0
        · refine J.ceq (pc := 42) (tgt := 50) dX2_pass_42 (by decide) (fun q => absurd q hc) (fun _ => ?_)
          refine J.aload_n (pc := 45) dX2_pass_45 rfl 0 rfl ?_
          refine J.iload_n (pc := 46) dX2_pass_46 rfl 2 rfl ?_
          obtain ⟨μ13, e12, h⟩ := bnd h
          refine J.callV (Y := mX2_pass) (Z := mX2_walk) (pc := 47) (st := []) (k2 := 0) (n2 := 0) dX2_pass_47 ml_RX2_63 mo_X2_walk mv_X2_walk rfl (tX2_walk d e12 hN k0) k0 (okN hN k0 (by decide)).1 (okN hN k0 (by decide)).2 cq_2 (by decide) rfl rfl (Nat.le_of_ble_eq_true rfl) (by decide) (by decide) (fun v ν hp => ?_) (fun i ν hp => nrm hp.1)
          obtain ⟨rfl, rfl, hN14, hb15⟩ := QEl hp
          show J _ _ _ _ 50 _ ([]) _ _ _ _
          exact (tX2_pass_50 d (fX2_pass_17 n) ih) v0 v1 v2 μ13 h hN14 k0
    · refine J.cge (pc := 25) (tgt := 110) dX2_pass_25 (by decide) (fun q => absurd q hc) (fun _ => ?_)
      refine J.aload_n (pc := 110) dX2_pass_110 rfl 0 rfl ?_
      obtain ⟨μ17, e16, h⟩ := bnd h
      refine J.callV (Y := mX2_pass) (Z := mX2_greet) (pc := 111) (st := []) (k2 := 0) (n2 := 0) dX2_pass_111 ml_RX2_70 mo_X2_greet mv_X2_greet rfl (tX2_greet (d + 1) e16 hN k0) k0 (okN hN k0 (by decide)).1 (okN hN k0 (by decide)).2 cq_2 (by decide) rfl rfl (Nat.le_of_ble_eq_true rfl) (by decide) (by decide) (fun v ν hp => ?_) (fun i ν hp => nrm hp.1)
      obtain ⟨rfl, rfl, hN18, hb19⟩ := QEl hp
      show J _ _ _ _ 114 _ ([]) _ _ _ _
      refine J.aload_n (pc := 114) dX2_pass_114 rfl 0 rfl ?_
      obtain ⟨μ21, e20, h⟩ := bnd h
      refine J.callV (Y := mX2_pass) (Z := mX2_fade) (pc := 115) (st := []) (k2 := 0) (n2 := 0) dX2_pass_115 ml_RX2_73 mo_X2_fade mv_X2_fade rfl (tX2_fade d e20 hN18 k0) k0 (okN hN18 k0 (by decide)).1 (okN hN18 k0 (by decide)).2 cq_2 (by decide) rfl rfl (Nat.le_of_ble_eq_true rfl) (by decide) (by decide) (fun v ν hp => ?_) (fun i ν hp => nrm hp.1)
      obtain ⟨rfl, rfl, hN22, hb23⟩ := QEl hp
      show J _ _ _ _ 118 _ ([]) _ _ _ _
      refine J.aload_n (pc := 118) dX2_pass_118 rfl 0 rfl ?_
      obtain ⟨a24, e25, h⟩ := bnd h
      have k26 : (kd a24).1 = 19 := gR_k e25
      refine J.fR (pc := 119) dX2_pass_119 fl_RX2_12 k0 (okN hN22 k0 (by decide)) rfl e25 ?_
      refine J.dup (pc := 122) dX2_pass_122 rfl ?_
      refine J.fI (pc := 123) dX2_pass_123 fl_RX2_76 k26 (okN hN22 k26 (by decide)) (Or.inl rfl) ?_
      refine J.iconst (pc := 126) dX2_pass_126 ic_1 ?_
      refine J.iadd (pc := 127) dX2_pass_127 ?_
      obtain ⟨μ27, e28, h⟩ := bnd h
      have hN29 : μ27.1 = NN := smN e28 hN22
      refine J.qI (pc := 128) dX2_pass_128 fl_RX2_76 k26 (okN hN22 k26 (by decide)) rfl rfl e28 ?_
      cases h
      exact J.vret (pc := 131) dX2_pass_131 rfl ⟨rfl, rfl, hN29, trivial⟩
def fX2_pass (v0 : Nat) (v1 : Int32) (μ : Mem) : Option (Mem) :=
  (gR μ v0 1 15).bind fun a1 =>
  (gR μ v0 7 11).bind fun a4 =>
  (gR μ v0 0 19).bind fun a7 =>
  (fX5_lay a1 a4 a7 μ).bind fun μ11 =>
  (fX2_pass_17 fuel) v0 v1 (0 : Int32) μ11
set_option maxHeartbeats 4000000 in
theorem tX2_pass {ω : Wd} {l : Launch} (d : Nat) {v0 : Nat} {v1 : Int32} {μ : Mem} {res : Mem} (h : fX2_pass v0 v1 μ = some res) (hN : μ.1 = NN) (k0 : (kd v0).1 = 12) : Ct ω l mX2_pass (d + 4) [.ref v0, .int v1] μ 0 0 (PE (.inl none) res True) := by
  refine Ct.of pn_RX2 (Nat.le_of_ble_eq_true rfl) ?_
  show J ω l mX2_pass (d + 4) 0 [(0, .ref v0), (1, .int v1)] [] μ 0 0 _
  unfold fX2_pass at h
  refine J.aload_n (pc := 0) dX2_pass_0 rfl 0 rfl ?_
  obtain ⟨a1, e2, h⟩ := bnd h
  have k3 : (kd a1).1 = 15 := gR_k e2
  refine J.fR (pc := 1) dX2_pass_1 fl_RX2_21 k0 (okN hN k0 (by decide)) rfl e2 ?_
  refine J.aload_n (pc := 4) dX2_pass_4 rfl 0 rfl ?_
  obtain ⟨a4, e5, h⟩ := bnd h
  have k6 : (kd a4).1 = 11 := gR_k e5
  refine J.fR (pc := 5) dX2_pass_5 fl_RX2_42 k0 (okN hN k0 (by decide)) rfl e5 ?_
  refine J.aload_n (pc := 8) dX2_pass_8 rfl 0 rfl ?_
  obtain ⟨a7, e8, h⟩ := bnd h
  have k9 : (kd a7).1 = 19 := gR_k e8
  refine J.fR (pc := 9) dX2_pass_9 fl_RX2_12 k0 (okN hN k0 (by decide)) rfl e8 ?_
  obtain ⟨μ11, e10, h⟩ := bnd h
  refine J.callV (Y := mX2_pass) (Z := mX5_lay) (pc := 12) (st := []) (k2 := 0) (n2 := 0) dX2_pass_12 ml_RX2_53 mo_X5_lay mv_X5_lay rfl (tX5_lay (d + 3) e10 hN k3 k6 k9) k3 (okN hN k3 (by decide)).1 (okN hN k3 (by decide)).2 cq_5 (by decide) rfl rfl (Nat.le_of_ble_eq_true rfl) (by decide) (by decide) (fun v ν hp => ?_) (fun i ν hp => nrm hp.1)
  obtain ⟨rfl, rfl, hN12, hb13⟩ := QEl hp
  show J _ _ _ _ 15 _ ([]) _ _ _ _
  refine J.iconst (pc := 15) dX2_pass_15 ic_0 ?_
  refine J.istore_n (pc := 16) ([(2, .int (0 : Int32)), (0, .ref v0), (1, .int v1)]) dX2_pass_16 rfl (Nat.le_of_ble_eq_true rfl) rfl ?_
  refine J.pick [1, 2, 0] rfl ?_
  exact (tX2_pass_17 d fuel) v0 v1 (0 : Int32) μ11 h hN12 k0
def fX10_runAhead_17  : Nat → Nat → Int32 → Int32 → Mem → Option (Mem)
  | 0, _, _, _, _ => none
  | n + 1, v0, v1, v2, μ =>
    if v2 < v1 then
      (gR μ v0 14 12).bind fun a1 =>
      (fX2_pass a1 (1 : Int32) μ).bind fun μ5 =>
      (fX10_runAhead_17 n) v0 v1 (v2 + (1 : Int32)) μ5
    else
      some μ
set_option maxHeartbeats 4000000 in
theorem tX10_runAhead_17 {ω : Wd} {l : Launch} (d : Nat) {res : Mem} : ∀ n : Nat, ∀ (v0 : Nat) (v1 : Int32) (v2 : Int32) (μ : Mem), fX10_runAhead_17 n v0 v1 v2 μ = some res → μ.1 = NN → (kd v0).1 = 20 → J ω l mX10_runAhead (d + 5) 17 [(0, .ref v0), (1, .int v1), (2, .int v2)] [] μ 0 0 (PE (.inl none) res True) := by
  intro n
  induction n with
  | zero =>
    intro v0 v1 v2 μ h hN k0
    have h9 : (none : Option (Mem)) = some res := h
    cases h9
  | succ n ih =>
    intro v0 v1 v2 μ h hN k0
    unfold fX10_runAhead_17 at h
    refine J.iload_n (pc := 17) dX10_runAhead_17 rfl 2 rfl ?_
    refine J.iload_n (pc := 18) dX10_runAhead_18 rfl 1 rfl ?_
    rcases ifc h with ⟨hc, h⟩ | ⟨hc, h⟩
    · refine J.cge (pc := 19) (tgt := 36) dX10_runAhead_19 (by decide) (fun _ => ?_) (fun q => absurd hc q)
      refine J.aload_n (pc := 22) dX10_runAhead_22 rfl 0 rfl ?_
      obtain ⟨a1, e2, h⟩ := bnd h
      have k3 : (kd a1).1 = 12 := gR_k e2
      refine J.fR (pc := 23) dX10_runAhead_23 fl_RX10_79 k0 (okN hN k0 (by decide)) rfl e2 ?_
      refine J.iconst (pc := 26) dX10_runAhead_26 ic_1 ?_
      obtain ⟨μ5, e4, h⟩ := bnd h
      refine J.callV (Y := mX10_runAhead) (Z := mX2_pass) (pc := 27) (st := []) (k2 := 0) (n2 := 0) dX10_runAhead_27 ml_RX10_268 mo_X2_pass mv_X2_pass rfl (tX2_pass d e4 hN k3) k3 (okN hN k3 (by decide)).1 (okN hN k3 (by decide)).2 cq_2 (by decide) rfl rfl (Nat.le_of_ble_eq_true rfl) (by decide) (by decide) (fun v ν hp => ?_) (fun i ν hp => nrm hp.1)
      obtain ⟨rfl, rfl, hN6, hb7⟩ := QEl hp
      show J _ _ _ _ 30 _ ([]) _ _ _ _
      refine J.iinc (pc := 30) (j := 2) ([(2, .int (v2 + (1 : Int32))), (0, .ref v0), (1, .int v1)]) dX10_runAhead_30 rfl (iincv ic_1) (Nat.le_of_ble_eq_true rfl) rfl ?_
      refine J.goto (pc := 33) (tgt := 17) dX10_runAhead_33 (by decide) ?_
      refine J.pick [1, 2, 0] rfl ?_
      exact ih v0 v1 (v2 + (1 : Int32)) μ5 h hN6 k0
    · refine J.cge (pc := 19) (tgt := 36) dX10_runAhead_19 (by decide) (fun q => absurd q hc) (fun _ => ?_)
      cases h
      exact J.vret (pc := 36) dX10_runAhead_36 rfl ⟨rfl, rfl, hN, trivial⟩
def fX10_runAhead (v0 : Nat) (v1 : Int32) (μ : Mem) : Option (Mem) :=
  (gR μ v0 14 12).bind fun a1 =>
  (gR μ v0 4 11).bind fun a4 =>
  (gR μ v0 7 19).bind fun a7 =>
  (fX2_begin a1 a4 a7 μ).bind fun μ11 =>
  (fX10_runAhead_17 fuel) v0 v1 (0 : Int32) μ11
set_option maxHeartbeats 4000000 in
theorem tX10_runAhead {ω : Wd} {l : Launch} (d : Nat) {v0 : Nat} {v1 : Int32} {μ : Mem} {res : Mem} (h : fX10_runAhead v0 v1 μ = some res) (hN : μ.1 = NN) (k0 : (kd v0).1 = 20) : Ct ω l mX10_runAhead (d + 5) [.ref v0, .int v1] μ 0 0 (PE (.inl none) res True) := by
  refine Ct.of pn_RX10 (Nat.le_of_ble_eq_true rfl) ?_
  show J ω l mX10_runAhead (d + 5) 0 [(0, .ref v0), (1, .int v1)] [] μ 0 0 _
  unfold fX10_runAhead at h
  refine J.aload_n (pc := 0) dX10_runAhead_0 rfl 0 rfl ?_
  obtain ⟨a1, e2, h⟩ := bnd h
  have k3 : (kd a1).1 = 12 := gR_k e2
  refine J.fR (pc := 1) dX10_runAhead_1 fl_RX10_79 k0 (okN hN k0 (by decide)) rfl e2 ?_
  refine J.aload_n (pc := 4) dX10_runAhead_4 rfl 0 rfl ?_
  obtain ⟨a4, e5, h⟩ := bnd h
  have k6 : (kd a4).1 = 11 := gR_k e5
  refine J.fR (pc := 5) dX10_runAhead_5 fl_RX10_26 k0 (okN hN k0 (by decide)) rfl e5 ?_
  refine J.aload_n (pc := 8) dX10_runAhead_8 rfl 0 rfl ?_
  obtain ⟨a7, e8, h⟩ := bnd h
  have k9 : (kd a7).1 = 19 := gR_k e8
  refine J.fR (pc := 9) dX10_runAhead_9 fl_RX10_45 k0 (okN hN k0 (by decide)) rfl e8 ?_
  obtain ⟨μ11, e10, h⟩ := bnd h
  refine J.callV (Y := mX10_runAhead) (Z := mX2_begin) (pc := 12) (st := []) (k2 := 0) (n2 := 0) dX10_runAhead_12 ml_RX10_264 mo_X2_begin mv_X2_begin rfl (tX2_begin (d + 2) e10 hN k3 k6 k9) k3 (okN hN k3 (by decide)).1 (okN hN k3 (by decide)).2 cq_2 (by decide) rfl rfl (Nat.le_of_ble_eq_true rfl) (by decide) (by decide) (fun v ν hp => ?_) (fun i ν hp => nrm hp.1)
  obtain ⟨rfl, rfl, hN12, hb13⟩ := QEl hp
  show J _ _ _ _ 15 _ ([]) _ _ _ _
  refine J.iconst (pc := 15) dX10_runAhead_15 ic_0 ?_
  refine J.istore_n (pc := 16) ([(2, .int (0 : Int32)), (0, .ref v0), (1, .int v1)]) dX10_runAhead_16 rfl (Nat.le_of_ble_eq_true rfl) rfl ?_
  refine J.pick [1, 2, 0] rfl ?_
  exact (tX10_runAhead_17 d fuel) v0 v1 (0 : Int32) μ11 h hN12 k0
def fX9_thickestPlace_6 (μ : Mem) : Nat → Nat → Int32 → Int32 → Int32 → Option (Int32)
  | 0, _, _, _, _ => none
  | n + 1, v0, v1, v2, v3 =>
    if v3 < (48 : Int32) then
      (gR μ v0 3 0).bind fun a1 =>
      (ldI μ a1 v3).bind fun x4 =>
      if v2 < x4 then
        (gR μ v0 3 0).bind fun a6 =>
        (ldI μ a6 v3).bind fun x9 =>
        (fX9_thickestPlace_6 μ n) v0 v3 x9 (v3 + (1 : Int32))
      else
        (fX9_thickestPlace_6 μ n) v0 v1 v2 (v3 + (1 : Int32))
    else
      some v1
set_option maxHeartbeats 4000000 in
theorem tX9_thickestPlace_6 {ω : Wd} {l : Launch} (d : Nat) {μ : Mem} (hN : μ.1 = NN) {res : Int32} : ∀ n : Nat, ∀ (v0 : Nat) (v1 : Int32) (v2 : Int32) (v3 : Int32), fX9_thickestPlace_6 μ n v0 v1 v2 v3 = some res → (kd v0).1 = 19 → J ω l mX9_thickestPlace d 6 [(0, .ref v0), (1, .int v1), (2, .int v2), (3, .int v3)] [] μ 0 0 (PE (.inl (some (.int res))) μ True) := by
  intro n
  induction n with
  | zero =>
    intro v0 v1 v2 v3 h k0
    have h9 : (none : Option (Int32)) = some res := h
    cases h9
  | succ n ih =>
    intro v0 v1 v2 v3 h k0
    unfold fX9_thickestPlace_6 at h
    refine J.iload_n (pc := 6) dX9_thickestPlace_6 rfl 3 rfl ?_
    refine J.bipush (pc := 7) dX9_thickestPlace_7 ib_48 ?_
    rcases ifc h with ⟨hc, h⟩ | ⟨hc, h⟩
    · refine J.cge (pc := 9) (tgt := 37) dX9_thickestPlace_9 (by decide) (fun _ => ?_) (fun q => absurd hc q)
      refine J.aload_n (pc := 12) dX9_thickestPlace_12 rfl 0 rfl ?_
      obtain ⟨a1, e2, h⟩ := bnd h
      have k3 : (kd a1).1 = 0 := gR_k e2
      refine J.fR (pc := 13) dX9_thickestPlace_13 fl_RX9_22 k0 (okN hN k0 (by decide)) rfl e2 ?_
      refine J.iload_n (pc := 16) dX9_thickestPlace_16 rfl 3 rfl ?_
      obtain ⟨x4, e5, h⟩ := bnd h
      refine J.aI (pc := 17) dX9_thickestPlace_17 k3 (okN hN k3 (by decide)) e5 ?_
      refine J.iload_n (pc := 18) dX9_thickestPlace_18 rfl 2 rfl ?_
      rcases ifc h with ⟨hc, h⟩ | ⟨hc, h⟩
      · refine J.cle (pc := 19) (tgt := 31) dX9_thickestPlace_19 (by decide) (fun _ => ?_) (fun q => absurd hc q)
        refine J.aload_n (pc := 22) dX9_thickestPlace_22 rfl 0 rfl ?_
        obtain ⟨a6, e7, h⟩ := bnd h
        have k8 : (kd a6).1 = 0 := gR_k e7
        refine J.fR (pc := 23) dX9_thickestPlace_23 fl_RX9_22 k0 (okN hN k0 (by decide)) rfl e7 ?_
        refine J.iload_n (pc := 26) dX9_thickestPlace_26 rfl 3 rfl ?_
        obtain ⟨x9, e10, h⟩ := bnd h
        refine J.aI (pc := 27) dX9_thickestPlace_27 k8 (okN hN k8 (by decide)) e10 ?_
        refine J.istore_n (pc := 28) ([(2, .int x9), (0, .ref v0), (1, .int v1), (3, .int v3)]) dX9_thickestPlace_28 rfl (Nat.le_of_ble_eq_true rfl) rfl ?_
        refine J.iload_n (pc := 29) dX9_thickestPlace_29 rfl 3 rfl ?_
        refine J.istore_n (pc := 30) ([(1, .int v3), (2, .int x9), (0, .ref v0), (3, .int v3)]) dX9_thickestPlace_30 rfl (Nat.le_of_ble_eq_true rfl) rfl ?_
        refine J.iinc (pc := 31) (j := 3) ([(3, .int (v3 + (1 : Int32))), (1, .int v3), (2, .int x9), (0, .ref v0)]) dX9_thickestPlace_31 rfl (iincv ic_1) (Nat.le_of_ble_eq_true rfl) rfl ?_
        refine J.goto (pc := 34) (tgt := 6) dX9_thickestPlace_34 (by decide) ?_
        refine J.pick [3, 1, 2, 0] rfl ?_
        exact ih v0 v3 x9 (v3 + (1 : Int32)) h k0
      · refine J.cle (pc := 19) (tgt := 31) dX9_thickestPlace_19 (by decide) (fun q => absurd q hc) (fun _ => ?_)
        refine J.iinc (pc := 31) (j := 3) ([(3, .int (v3 + (1 : Int32))), (0, .ref v0), (1, .int v1), (2, .int v2)]) dX9_thickestPlace_31 rfl (iincv ic_1) (Nat.le_of_ble_eq_true rfl) rfl ?_
        refine J.goto (pc := 34) (tgt := 6) dX9_thickestPlace_34 (by decide) ?_
        refine J.pick [1, 2, 3, 0] rfl ?_
        exact ih v0 v1 v2 (v3 + (1 : Int32)) h k0
    · refine J.cge (pc := 9) (tgt := 37) dX9_thickestPlace_9 (by decide) (fun q => absurd q hc) (fun _ => ?_)
      refine J.iload_n (pc := 37) dX9_thickestPlace_37 rfl 1 rfl ?_
      cases h
      exact J.iret (pc := 38) dX9_thickestPlace_38 rfl ⟨rfl, rfl, hN, trivial⟩
def fX9_thickestPlace (v0 : Nat) (μ : Mem) : Option (Int32) :=
  (fX9_thickestPlace_6 μ fuel) v0 (-1 : Int32) (0 : Int32) (0 : Int32)
set_option maxHeartbeats 4000000 in
theorem tX9_thickestPlace {ω : Wd} {l : Launch} (d : Nat) {v0 : Nat} {μ : Mem} {res : Int32} (h : fX9_thickestPlace v0 μ = some res) (hN : μ.1 = NN) (k0 : (kd v0).1 = 19) : Ct ω l mX9_thickestPlace d [.ref v0] μ 0 0 (PE (.inl (some (.int res))) μ True) := by
  refine Ct.of pn_RX9 (Nat.le_of_ble_eq_true rfl) ?_
  show J ω l mX9_thickestPlace d 0 [(0, .ref v0)] [] μ 0 0 _
  unfold fX9_thickestPlace at h
  refine J.iconst (pc := 0) dX9_thickestPlace_0 ic_m1 ?_
  refine J.istore_n (pc := 1) ([(1, .int (-1 : Int32)), (0, .ref v0)]) dX9_thickestPlace_1 rfl (Nat.le_of_ble_eq_true rfl) rfl ?_
  refine J.iconst (pc := 2) dX9_thickestPlace_2 ic_0 ?_
  refine J.istore_n (pc := 3) ([(2, .int (0 : Int32)), (1, .int (-1 : Int32)), (0, .ref v0)]) dX9_thickestPlace_3 rfl (Nat.le_of_ble_eq_true rfl) rfl ?_
  refine J.iconst (pc := 4) dX9_thickestPlace_4 ic_0 ?_
  refine J.istore_n (pc := 5) ([(3, .int (0 : Int32)), (2, .int (0 : Int32)), (1, .int (-1 : Int32)), (0, .ref v0)]) dX9_thickestPlace_5 rfl (Nat.le_of_ble_eq_true rfl) rfl ?_
  refine J.pick [3, 2, 1, 0] rfl ?_
  exact (tX9_thickestPlace_6 d hN fuel) v0 (-1 : Int32) (0 : Int32) (0 : Int32) h k0
def fX10_ahead (v0 : Nat) (v1 : Int32) (v2 : Int32) (μ : Mem) : Option ((Int32 ⊕ Nat) × Mem) :=
  (fX10_needWhat v0 v2 (2 : Int32)).bind fun
  | .inl _ =>
    (fX10_needWithin v0 v1 (0 : Int32) (60 : Int32)).bind fun
    | .inl _ =>
      (fX10_runAhead v0 v1 μ).bind fun μ8 =>
      if v2 = 0 then
        (gR μ8 v0 4 11).bind fun a11 =>
        (gR μ8 v0 14 12).bind fun a14 =>
        some (.inl ((((1 : Int32) <<< ((μ8.2.1 a11 1) &&& 31)) - (1 : Int32)) &&& ((μ8.2.1 a14 5) ^^^ (-1 : Int32))), μ8)
      else
        (gR μ8 v0 14 12).bind fun a17 =>
        (gR μ8 a17 0 19).bind fun a20 =>
        (fX9_thickestPlace a20 μ8).bind fun r24 =>
        some (.inl (fX10_outside r24), μ8)
    | .inr i30 =>
      some (.inr i30, μ)
  | .inr i31 =>
    some (.inr i31, μ)
set_option maxHeartbeats 4000000 in
theorem tX10_ahead {ω : Wd} {l : Launch} (d : Nat) {v0 : Nat} {v1 : Int32} {v2 : Int32} {μ : Mem} {res : (Int32 ⊕ Nat) × Mem} (h : fX10_ahead v0 v1 v2 μ = some res) (hN : μ.1 = NN) (k0 : (kd v0).1 = 20) : Ct ω l mX10_ahead (d + 9) [.ref v0, .int v1, .int v2] μ 2 12 (PE (oI res.1) res.2 True) := by
  refine Ct.of pn_RX10 (Nat.le_of_ble_eq_true rfl) ?_
  show J ω l mX10_ahead (d + 9) 0 [(0, .ref v0), (1, .int v1), (2, .int v2)] [] μ 2 12 _
  unfold fX10_ahead at h
  refine J.aload_n (pc := 0) dX10_ahead_0 rfl 0 rfl ?_
  refine J.iload_n (pc := 1) dX10_ahead_1 rfl 2 rfl ?_
  refine J.iconst (pc := 2) dX10_ahead_2 ic_2 ?_
  obtain ⟨q, e1, h⟩ := bnd h
  rcases q with u | i31
  · try dsimp only at h
    refine J.callV (Y := mX10_ahead) (Z := mX10_needWhat) (pc := 3) (st := []) (k2 := 1) (n2 := 6) dX10_ahead_3 ml_RX10_140 mo_X10_needWhat mv_X10_needWhat rfl (tX10_needWhat d e1 hN k0) k0 (okN hN k0 (by decide)).1 (okN hN k0 (by decide)).2 cq_10 (by decide) rfl rfl (Nat.le_of_ble_eq_true rfl) (by decide) (by decide) (fun v ν hp => ?_) (fun i ν hp => nrm hp.1)
    obtain ⟨rfl, rfl, hN2, hb3⟩ := QEl hp
    show J _ _ _ _ 6 _ ([]) _ _ _ _
    refine J.aload_n (pc := 6) dX10_ahead_6 rfl 0 rfl ?_
    refine J.iload_n (pc := 7) dX10_ahead_7 rfl 1 rfl ?_
    refine J.iconst (pc := 8) dX10_ahead_8 ic_0 ?_
    refine J.bipush (pc := 9) dX10_ahead_9 ib_60 ?_
    obtain ⟨q, e4, h⟩ := bnd h
    rcases q with u | i30
    · try dsimp only at h
      refine J.callV (Y := mX10_ahead) (Z := mX10_needWithin) (pc := 11) (st := []) (k2 := 0) (n2 := 0) dX10_ahead_11 ml_RX10_260 mo_X10_needWithin mv_X10_needWithin rfl (tX10_needWithin d e4 hN2 k0) k0 (okN hN2 k0 (by decide)).1 (okN hN2 k0 (by decide)).2 cq_10 (by decide) rfl rfl (Nat.le_of_ble_eq_true rfl) (by decide) (by decide) (fun v ν hp => ?_) (fun i ν hp => nrm hp.1)
      obtain ⟨rfl, rfl, hN5, hb6⟩ := QEl hp
      show J _ _ _ _ 14 _ ([]) _ _ _ _
      refine J.aload_n (pc := 14) dX10_ahead_14 rfl 0 rfl ?_
      refine J.iload_n (pc := 15) dX10_ahead_15 rfl 1 rfl ?_
      obtain ⟨μ8, e7, h⟩ := bnd h
      refine J.callV (Y := mX10_ahead) (Z := mX10_runAhead) (pc := 16) (st := []) (k2 := 0) (n2 := 0) dX10_ahead_16 ml_RX10_239 mo_X10_runAhead mv_X10_runAhead rfl (tX10_runAhead (d + 3) e7 hN5 k0) k0 (okN hN5 k0 (by decide)).1 (okN hN5 k0 (by decide)).2 cq_10 (by decide) rfl rfl (Nat.le_of_ble_eq_true rfl) (by decide) (by decide) (fun v ν hp => ?_) (fun i ν hp => nrm hp.1)
      obtain ⟨rfl, rfl, hN9, hb10⟩ := QEl hp
      show J _ _ _ _ 19 _ ([]) _ _ _ _
      refine J.iload_n (pc := 19) dX10_ahead_19 rfl 2 rfl ?_
      rcases ifc h with ⟨hc, h⟩ | ⟨hc, h⟩
      · refine J.zne (pc := 20) (tgt := 45) dX10_ahead_20 (by decide) (fun _ => ?_) (fun q => absurd hc q)
        refine J.iconst (pc := 23) dX10_ahead_23 ic_1 ?_
        refine J.aload_n (pc := 24) dX10_ahead_24 rfl 0 rfl ?_
        obtain ⟨a11, e12, h⟩ := bnd h
        have k13 : (kd a11).1 = 11 := gR_k e12
        refine J.fR (pc := 25) dX10_ahead_25 fl_RX10_26 k0 (okN hN9 k0 (by decide)) rfl e12 ?_
        refine J.fI (pc := 28) dX10_ahead_28 fl_RX10_147 k13 (okN hN9 k13 (by decide)) (Or.inl rfl) ?_
        refine J.ishl (pc := 31) dX10_ahead_31 ?_
        refine J.iconst (pc := 32) dX10_ahead_32 ic_1 ?_
        refine J.isub (pc := 33) dX10_ahead_33 ?_
        refine J.aload_n (pc := 34) dX10_ahead_34 rfl 0 rfl ?_
        obtain ⟨a14, e15, h⟩ := bnd h
        have k16 : (kd a14).1 = 12 := gR_k e15
        refine J.fR (pc := 35) dX10_ahead_35 fl_RX10_79 k0 (okN hN9 k0 (by decide)) rfl e15 ?_
        refine J.fI (pc := 38) dX10_ahead_38 fl_RX10_281 k16 (okN hN9 k16 (by decide)) (Or.inl rfl) ?_
        refine J.iconst (pc := 41) dX10_ahead_41 ic_m1 ?_
        refine J.ixor (pc := 42) dX10_ahead_42 ?_
        refine J.iand (pc := 43) dX10_ahead_43 ?_
        cases h
        exact J.iret (pc := 44) dX10_ahead_44 rfl ⟨rfl, rfl, hN9, trivial⟩
      · refine J.zne (pc := 20) (tgt := 45) dX10_ahead_20 (by decide) (fun q => absurd q hc) (fun _ => ?_)
        refine J.aload_n (pc := 45) dX10_ahead_45 rfl 0 rfl ?_
        obtain ⟨a17, e18, h⟩ := bnd h
        have k19 : (kd a17).1 = 12 := gR_k e18
        refine J.fR (pc := 46) dX10_ahead_46 fl_RX10_79 k0 (okN hN9 k0 (by decide)) rfl e18 ?_
        obtain ⟨a20, e21, h⟩ := bnd h
        have k22 : (kd a20).1 = 19 := gR_k e21
        refine J.fR (pc := 49) dX10_ahead_49 fl_RX10_242 k19 (okN hN9 k19 (by decide)) rfl e21 ?_
        obtain ⟨r24, e23, h⟩ := bnd h
        refine J.callV (Y := mX10_ahead) (Z := mX9_thickestPlace) (pc := 52) (st := []) (k2 := 0) (n2 := 0) dX10_ahead_52 ml_RX10_284 mo_X9_thickestPlace mv_X9_thickestPlace rfl (tX9_thickestPlace (d + 8) e23 hN9 k22) k22 (okN hN9 k22 (by decide)).1 (okN hN9 k22 (by decide)).2 cq_9 (by decide) rfl rfl (Nat.le_of_ble_eq_true rfl) (by decide) (by decide) (fun v ν hp => ?_) (fun i ν hp => nrm hp.1)
        obtain ⟨rfl, rfl, hN25, hb26⟩ := QEl hp
        show J _ _ _ _ 55 _ ([.int r24]) _ _ _ _
        refine J.callS (Y := mX10_ahead) (Z := mX10_outside) (pc := 55) (st := []) (k2 := 0) (n2 := 0) dX10_ahead_55 ml_RX10_214 mo_X10_outside ms_X10_outside rfl (tX10_outside (d + 8) r24 μ8 hN25 ) rfl rfl (Nat.le_of_ble_eq_true rfl) (by decide) (by decide) (fun v ν hp => ?_) (fun i ν hp => nrm hp.1)
        obtain ⟨rfl, rfl, hN28, hb29⟩ := QEl hp
        show J _ _ _ _ 58 _ ([.int (fX10_outside r24)]) _ _ _ _
        cases h
        exact J.iret (pc := 58) dX10_ahead_58 rfl ⟨rfl, rfl, hN28, trivial⟩
    · try dsimp only at h
      refine J.callV (Y := mX10_ahead) (Z := mX10_needWithin) (pc := 11) (st := []) (k2 := 0) (n2 := 0) dX10_ahead_11 ml_RX10_260 mo_X10_needWithin mv_X10_needWithin rfl (tX10_needWithin d e4 hN2 k0) k0 (okN hN2 k0 (by decide)).1 (okN hN2 k0 (by decide)).2 cq_10 (by decide) rfl rfl (Nat.le_of_ble_eq_true rfl) (by decide) (by decide) (fun v ν hp => nlm hp.1) (fun i ν hp => ?_)
      obtain ⟨rfl, rfl, hN9, -⟩ := QEr hp
      cases h
      exact JX.out rfl ⟨rfl, rfl, hN9, trivial⟩
  · try dsimp only at h
    refine J.callV (Y := mX10_ahead) (Z := mX10_needWhat) (pc := 3) (st := []) (k2 := 1) (n2 := 6) dX10_ahead_3 ml_RX10_140 mo_X10_needWhat mv_X10_needWhat rfl (tX10_needWhat d e1 hN k0) k0 (okN hN k0 (by decide)).1 (okN hN k0 (by decide)).2 cq_10 (by decide) rfl rfl (Nat.le_of_ble_eq_true rfl) (by decide) (by decide) (fun v ν hp => nlm hp.1) (fun i ν hp => ?_)
    obtain ⟨rfl, rfl, hN9, -⟩ := QEr hp
    cases h
    exact JX.out rfl ⟨rfl, rfl, hN9, trivial⟩
def fL_ahead (v0 : Nat) (v1 : Int32) (v2 : Int32) (v3 : Nat) (μ : Mem) : Option (Int32 × Mem) :=
  (fX10_ahead v0 v1 v2 μ).bind fun
  | (.inl r3, μ2) =>
    (stL μ2 v3 (0 : Int32) (r3.toInt64)).bind fun μ6 =>
    some ((0 : Int32), μ6)
  | (.inr i9, μ2) =>
    if i9 = 0 then some ((1 : Int32), μ2) else
    if i9 = 1 then some ((2 : Int32), μ2) else
    none
set_option maxHeartbeats 4000000 in
theorem tL_ahead {ω : Wd} {l : Launch} (d : Nat) {v0 : Nat} {v1 : Int32} {v2 : Int32} {v3 : Nat} {μ : Mem} {res : Int32 × Mem} (h : fL_ahead v0 v1 v2 v3 μ = some res) (hN : μ.1 = NN) (k0 : (kd v0).1 = 20) (k3 : (kd v3).1 = 1) : Ct ω l mL_ahead (d + 10) [.ref v0, .int v1, .int v2, .ref v3] μ 2 12 (PE (.inl (some (.int res.1))) res.2 True) := by
  refine Ct.of pn_RL (Nat.le_of_ble_eq_true rfl) ?_
  show J ω l mL_ahead (d + 10) 0 [(0, .ref v0), (1, .int v1), (2, .int v2), (3, .ref v3)] [] μ 2 12 _
  unfold fL_ahead at h
  refine J.aload_n (pc := 0) dL_ahead_0 rfl 3 rfl ?_
  refine J.iconst (pc := 1) dL_ahead_1 ic_0 ?_
  refine J.aload_n (pc := 2) dL_ahead_2 rfl 0 rfl ?_
  refine J.iload_n (pc := 3) dL_ahead_3 rfl 1 rfl ?_
  refine J.iload_n (pc := 4) dL_ahead_4 rfl 2 rfl ?_
  obtain ⟨⟨q, μ2⟩, e1, h⟩ := bnd h
  rcases q with r3 | i9
  · try dsimp only at h
    refine J.callV (Y := mL_ahead) (Z := mX10_ahead) (pc := 5) (st := [.int (0 : Int32), .ref v3]) (k2 := 0) (n2 := 0) dL_ahead_5 ml_RL_95 mo_X10_ahead mv_X10_ahead rfl (tX10_ahead d e1 hN k0) k0 (okN hN k0 (by decide)).1 (okN hN k0 (by decide)).2 cq_10 (by decide) rfl rfl (Nat.le_of_ble_eq_true rfl) (by decide) (by decide) (fun v ν hp => ?_) (fun i ν hp => nrm hp.1)
    obtain ⟨rfl, rfl, hN4, hb5⟩ := QEl hp
    show J _ _ _ _ 8 _ ([.int r3, .int (0 : Int32), .ref v3]) _ _ _ _
    refine J.i2l (pc := 8) dL_ahead_8 ?_
    obtain ⟨μ6, e7, h⟩ := bnd h
    have hN8 : μ6.1 = NN := stL_N e7 hN4
    refine J.wL (pc := 9) dL_ahead_9 k3 (okN hN4 k3 (by decide)) e7 ?_
    refine J.goto (pc := 10) (tgt := 21) dL_ahead_10 (by decide) ?_
    refine J.iconst (pc := 21) dL_ahead_21 ic_0 ?_
    cases h
    exact J.iret (pc := 22) dL_ahead_22 rfl ⟨rfl, rfl, hN8, trivial⟩
  · try dsimp only at h
    refine J.callV (Y := mL_ahead) (Z := mX10_ahead) (pc := 5) (st := [.int (0 : Int32), .ref v3]) (k2 := 0) (n2 := 0) dL_ahead_5 ml_RL_95 mo_X10_ahead mv_X10_ahead rfl (tX10_ahead d e1 hN k0) k0 (okN hN k0 (by decide)).1 (okN hN k0 (by decide)).2 cq_10 (by decide) rfl rfl (Nat.le_of_ble_eq_true rfl) (by decide) (by decide) (fun v ν hp => nlm hp.1) (fun i ν hp => ?_)
    obtain ⟨rfl, rfl, hN9, -⟩ := QEr hp
    rcases ifc h with ⟨hc, h⟩ | ⟨hc, h⟩
    · subst hc
      cases h
      exact JX.catch1 (i := 0) (by decide) rfl rfl (Nat.le_of_ble_eq_true rfl) (Nat.le_of_ble_eq_true rfl) (Or.inl ⟨4, Nat.le_of_ble_eq_true rfl, rfl, dL_ahead_13⟩) dL_ahead_15 ic_1 dL_ahead_16 rfl ⟨rfl, rfl, hN9, trivial⟩
    rcases ifc h with ⟨hc, h⟩ | ⟨hc, h⟩
    · subst hc
      cases h
      exact JX.catch2 rfl rfl (Nat.le_of_ble_eq_true rfl) (Nat.le_of_ble_eq_true rfl) (Or.inl ⟨4, Nat.le_of_ble_eq_true rfl, rfl, dL_ahead_17⟩) dL_ahead_19 ic_2 dL_ahead_20 rfl ⟨rfl, rfl, hN9, trivial⟩
    cases h
def fX10_isLit (v0 : Int32) (v1 : Int32) : Int32 :=
  if (((v0.toUInt32 >>> (v1.toUInt32 &&& Int32.toUInt32 31)).toInt32) &&& (1 : Int32)) = 0 then
    (0 : Int32)
  else
    (1 : Int32)
set_option maxHeartbeats 4000000 in
theorem tX10_isLit {ω : Wd} {l : Launch} (d : Nat) (v0 : Int32) (v1 : Int32) (μ : Mem) (hN : μ.1 = NN) : Ct ω l mX10_isLit d [.int v0, .int v1] μ 0 0 (PE (.inl (some (.int (fX10_isLit v0 v1)))) μ (isB (fX10_isLit v0 v1))) := by
  refine Ct.of pn_RX10 (Nat.le_of_ble_eq_true rfl) ?_
  show J ω l mX10_isLit d 0 [(0, .int v0), (1, .int v1)] [] μ 0 0 _
  generalize h : fX10_isLit v0 v1 = res
  unfold fX10_isLit at h
  refine J.iload_n (pc := 0) dX10_isLit_0 rfl 0 rfl ?_
  refine J.iload_n (pc := 1) dX10_isLit_1 rfl 1 rfl ?_
  refine J.iushr (pc := 2) dX10_isLit_2 ?_
  refine J.iconst (pc := 3) dX10_isLit_3 ic_1 ?_
  refine J.iand (pc := 4) dX10_isLit_4 ?_
  rcases ifc h with ⟨hc, h⟩ | ⟨hc, h⟩
  · refine J.zeq (pc := 5) (tgt := 12) dX10_isLit_5 (by decide) (fun _ => ?_) (fun q => absurd hc q)
    refine J.iconst (pc := 12) dX10_isLit_12 ic_0 ?_
    cases h
    exact J.zret (pc := 13) dX10_isLit_13 rfl (narB (Or.inl rfl)) ⟨rfl, rfl, hN, (Or.inl rfl)⟩
  · refine J.zeq (pc := 5) (tgt := 12) dX10_isLit_5 (by decide) (fun q => absurd q hc) (fun _ => ?_)
    refine J.iconst (pc := 8) dX10_isLit_8 ic_1 ?_
    refine J.goto (pc := 9) (tgt := 13) dX10_isLit_9 (by decide) ?_
    cases h
    exact J.zret (pc := 13) dX10_isLit_13 rfl (narB (Or.inr rfl)) ⟨rfl, rfl, hN, (Or.inr rfl)⟩
def fX10_hasComeBy_18  : Nat → Nat → Int32 → Int32 → Int32 → Int32 → Mem → Option (Int32 × Mem)
  | 0, _, _, _, _, _, _ => none
  | n + 1, v0, v1, v2, v3, v4, μ =>
    if v4 < v3 then
      (gR μ v0 14 12).bind fun a1 =>
      (fX2_pass a1 (fX10_isLit v2 v4) μ).bind fun μ8 =>
      (fX10_hasComeBy_18 n) v0 v1 v2 v3 (v4 + (1 : Int32)) μ8
    else
      (gR μ v0 14 12).bind fun a11 =>
      (gR μ a11 0 19).bind fun a14 =>
      (gR μ a14 5 0).bind fun a17 =>
      (ldI μ a17 v1).bind fun x20 =>
      if x20 = (-1 : Int32) then
        some ((1 : Int32), μ)
      else
        some ((0 : Int32), μ)
set_option maxHeartbeats 4000000 in
theorem tX10_hasComeBy_18 {ω : Wd} {l : Launch} (d : Nat) {res : Int32 × Mem} : ∀ n : Nat, ∀ (v0 : Nat) (v1 : Int32) (v2 : Int32) (v3 : Int32) (v4 : Int32) (μ : Mem), fX10_hasComeBy_18 n v0 v1 v2 v3 v4 μ = some res → μ.1 = NN → (kd v0).1 = 20 → J ω l mX10_hasComeBy (d + 5) 18 [(0, .ref v0), (1, .int v1), (2, .int v2), (3, .int v3), (4, .int v4)] [] μ 0 0 (PE (.inl (some (.int res.1))) res.2 (isB res.1)) := by
  intro n
  induction n with
  | zero =>
    intro v0 v1 v2 v3 v4 μ h hN k0
    have h9 : (none : Option (Int32 × Mem)) = some res := h
    cases h9
  | succ n ih =>
    intro v0 v1 v2 v3 v4 μ h hN k0
    unfold fX10_hasComeBy_18 at h
    refine J.iload (pc := 18) dX10_hasComeBy_18 4 rfl ?_
    refine J.iload_n (pc := 20) dX10_hasComeBy_20 rfl 3 rfl ?_
    rcases ifc h with ⟨hc, h⟩ | ⟨hc, h⟩
    · refine J.cge (pc := 21) (tgt := 43) dX10_hasComeBy_21 (by decide) (fun _ => ?_) (fun q => absurd hc q)
      refine J.aload_n (pc := 24) dX10_hasComeBy_24 rfl 0 rfl ?_
      obtain ⟨a1, e2, h⟩ := bnd h
      have k3 : (kd a1).1 = 12 := gR_k e2
      refine J.fR (pc := 25) dX10_hasComeBy_25 fl_RX10_79 k0 (okN hN k0 (by decide)) rfl e2 ?_
      refine J.iload_n (pc := 28) dX10_hasComeBy_28 rfl 2 rfl ?_
      refine J.iload (pc := 29) dX10_hasComeBy_29 4 rfl ?_
      refine J.callS (Y := mX10_hasComeBy) (Z := mX10_isLit) (pc := 31) (st := [.ref a1]) (k2 := 0) (n2 := 0) dX10_hasComeBy_31 ml_RX10_366 mo_X10_isLit ms_X10_isLit rfl (tX10_isLit (d + 4) v2 v4 μ hN ) rfl rfl (Nat.le_of_ble_eq_true rfl) (by decide) (by decide) (fun v ν hp => ?_) (fun i ν hp => nrm hp.1)
      obtain ⟨rfl, rfl, hN5, hb6⟩ := QEl hp
      show J _ _ _ _ 34 _ ([.int (fX10_isLit v2 v4), .ref a1]) _ _ _ _
      obtain ⟨μ8, e7, h⟩ := bnd h
      refine J.callV (Y := mX10_hasComeBy) (Z := mX2_pass) (pc := 34) (st := []) (k2 := 0) (n2 := 0) dX10_hasComeBy_34 ml_RX10_268 mo_X2_pass mv_X2_pass rfl (tX2_pass d e7 hN5 k3) k3 (okN hN5 k3 (by decide)).1 (okN hN5 k3 (by decide)).2 cq_2 (by decide) rfl rfl (Nat.le_of_ble_eq_true rfl) (by decide) (by decide) (fun v ν hp => ?_) (fun i ν hp => nrm hp.1)
      obtain ⟨rfl, rfl, hN9, hb10⟩ := QEl hp
      show J _ _ _ _ 37 _ ([]) _ _ _ _
      refine J.iinc (pc := 37) (j := 4) ([(4, .int (v4 + (1 : Int32))), (0, .ref v0), (1, .int v1), (2, .int v2), (3, .int v3)]) dX10_hasComeBy_37 rfl (iincv ic_1) (Nat.le_of_ble_eq_true rfl) rfl ?_
      refine J.goto (pc := 40) (tgt := 18) dX10_hasComeBy_40 (by decide) ?_
      refine J.pick [1, 2, 3, 4, 0] rfl ?_
      exact ih v0 v1 v2 v3 (v4 + (1 : Int32)) μ8 h hN9 k0
    · refine J.cge (pc := 21) (tgt := 43) dX10_hasComeBy_21 (by decide) (fun q => absurd q hc) (fun _ => ?_)
      refine J.aload_n (pc := 43) dX10_hasComeBy_43 rfl 0 rfl ?_
      obtain ⟨a11, e12, h⟩ := bnd h
      have k13 : (kd a11).1 = 12 := gR_k e12
      refine J.fR (pc := 44) dX10_hasComeBy_44 fl_RX10_79 k0 (okN hN k0 (by decide)) rfl e12 ?_
      obtain ⟨a14, e15, h⟩ := bnd h
      have k16 : (kd a14).1 = 19 := gR_k e15
      refine J.fR (pc := 47) dX10_hasComeBy_47 fl_RX10_242 k13 (okN hN k13 (by decide)) rfl e15 ?_
      obtain ⟨a17, e18, h⟩ := bnd h
      have k19 : (kd a17).1 = 0 := gR_k e18
      refine J.fR (pc := 50) dX10_hasComeBy_50 fl_RX10_220 k16 (okN hN k16 (by decide)) rfl e18 ?_
      refine J.iload_n (pc := 53) dX10_hasComeBy_53 rfl 1 rfl ?_
      obtain ⟨x20, e21, h⟩ := bnd h
      refine J.aI (pc := 54) dX10_hasComeBy_54 k19 (okN hN k19 (by decide)) e21 ?_
      refine J.iconst (pc := 55) dX10_hasComeBy_55 ic_m1 ?_
      rcases ifc h with ⟨hc, h⟩ | ⟨hc, h⟩
      · refine J.cne (pc := 56) (tgt := 63) dX10_hasComeBy_56 (by decide) (fun _ => ?_) (fun q => absurd hc q)
        refine J.iconst (pc := 59) dX10_hasComeBy_59 ic_1 ?_
        refine J.goto (pc := 60) (tgt := 64) dX10_hasComeBy_60 (by decide) ?_
        cases h
        exact J.zret (pc := 64) dX10_hasComeBy_64 rfl (narB (Or.inr rfl)) ⟨rfl, rfl, hN, (Or.inr rfl)⟩
      · refine J.cne (pc := 56) (tgt := 63) dX10_hasComeBy_56 (by decide) (fun q => absurd q hc) (fun _ => ?_)
        refine J.iconst (pc := 63) dX10_hasComeBy_63 ic_0 ?_
        cases h
        exact J.zret (pc := 64) dX10_hasComeBy_64 rfl (narB (Or.inl rfl)) ⟨rfl, rfl, hN, (Or.inl rfl)⟩
def fX10_hasComeBy (v0 : Nat) (v1 : Int32) (v2 : Int32) (v3 : Int32) (μ : Mem) : Option (Int32 × Mem) :=
  (gR μ v0 14 12).bind fun a1 =>
  (gR μ v0 4 11).bind fun a4 =>
  (gR μ v0 7 19).bind fun a7 =>
  (fX2_begin a1 a4 a7 μ).bind fun μ11 =>
  (fX10_hasComeBy_18 fuel) v0 v1 v2 v3 (0 : Int32) μ11
set_option maxHeartbeats 4000000 in
theorem tX10_hasComeBy {ω : Wd} {l : Launch} (d : Nat) {v0 : Nat} {v1 : Int32} {v2 : Int32} {v3 : Int32} {μ : Mem} {res : Int32 × Mem} (h : fX10_hasComeBy v0 v1 v2 v3 μ = some res) (hN : μ.1 = NN) (k0 : (kd v0).1 = 20) : Ct ω l mX10_hasComeBy (d + 5) [.ref v0, .int v1, .int v2, .int v3] μ 0 0 (PE (.inl (some (.int res.1))) res.2 (isB res.1)) := by
  refine Ct.of pn_RX10 (Nat.le_of_ble_eq_true rfl) ?_
  show J ω l mX10_hasComeBy (d + 5) 0 [(0, .ref v0), (1, .int v1), (2, .int v2), (3, .int v3)] [] μ 0 0 _
  unfold fX10_hasComeBy at h
  refine J.aload_n (pc := 0) dX10_hasComeBy_0 rfl 0 rfl ?_
  obtain ⟨a1, e2, h⟩ := bnd h
  have k3 : (kd a1).1 = 12 := gR_k e2
  refine J.fR (pc := 1) dX10_hasComeBy_1 fl_RX10_79 k0 (okN hN k0 (by decide)) rfl e2 ?_
  refine J.aload_n (pc := 4) dX10_hasComeBy_4 rfl 0 rfl ?_
  obtain ⟨a4, e5, h⟩ := bnd h
  have k6 : (kd a4).1 = 11 := gR_k e5
  refine J.fR (pc := 5) dX10_hasComeBy_5 fl_RX10_26 k0 (okN hN k0 (by decide)) rfl e5 ?_
  refine J.aload_n (pc := 8) dX10_hasComeBy_8 rfl 0 rfl ?_
  obtain ⟨a7, e8, h⟩ := bnd h
  have k9 : (kd a7).1 = 19 := gR_k e8
  refine J.fR (pc := 9) dX10_hasComeBy_9 fl_RX10_45 k0 (okN hN k0 (by decide)) rfl e8 ?_
  obtain ⟨μ11, e10, h⟩ := bnd h
  refine J.callV (Y := mX10_hasComeBy) (Z := mX2_begin) (pc := 12) (st := []) (k2 := 0) (n2 := 0) dX10_hasComeBy_12 ml_RX10_264 mo_X2_begin mv_X2_begin rfl (tX2_begin (d + 2) e10 hN k3 k6 k9) k3 (okN hN k3 (by decide)).1 (okN hN k3 (by decide)).2 cq_2 (by decide) rfl rfl (Nat.le_of_ble_eq_true rfl) (by decide) (by decide) (fun v ν hp => ?_) (fun i ν hp => nrm hp.1)
  obtain ⟨rfl, rfl, hN12, hb13⟩ := QEl hp
  show J _ _ _ _ 15 _ ([]) _ _ _ _
  refine J.iconst (pc := 15) dX10_hasComeBy_15 ic_0 ?_
  refine J.istore (pc := 16) ([(4, .int (0 : Int32)), (0, .ref v0), (1, .int v1), (2, .int v2), (3, .int v3)]) dX10_hasComeBy_16 (Nat.le_of_ble_eq_true rfl) rfl ?_
  refine J.pick [1, 2, 3, 4, 0] rfl ?_
  exact (tX10_hasComeBy_18 d fuel) v0 v1 v2 v3 (0 : Int32) μ11 h hN12 k0
