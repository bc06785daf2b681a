def fX6_readRule (v0 : Nat) (v1 : Nat) (v2 : Nat) (μ : Mem) : Option (Mem) :=
  if (fX7_isTold v1 μ) = 0 then
    (fX6_advance v0 μ).bind fun μ5 =>
    (some (sR μ5 v0 9 (some v1))).bind fun μ8 =>
    (some (sR μ8 v0 10 (some (10000 + v2)))).bind fun μ11 =>
    (fX6_readExprN v0 (0 : Int32) μ11).bind fun μ15 =>
    some μ15
  else
    (fX6_refuse v0 (5 : Int32) μ).bind fun μ19 =>
    some μ19
set_option maxHeartbeats 4000000 in
theorem tX6_readRule {ω : Wd} {l : Launch} (d : Nat) {v0 : Nat} {v1 : Nat} {v2 : Nat} {μ : Mem} {res : Mem} (h : fX6_readRule v0 v1 v2 μ = some res) (hN : μ.1 = NN) (k0 : (kd v0).1 = 16) (k1 : (kd v1).1 = 17) (k2 : v2 < 15) : Ct ω l mX6_readRule (d + 69) [.ref v0, .ref v1, .ref (10000 + v2)] μ 0 0 (PE (.inl none) res True) := by
  refine Ct.of pn_RX6 (Nat.le_of_ble_eq_true rfl) ?_
  show J ω l mX6_readRule (d + 69) 0 [(0, .ref v0), (1, .ref v1), (2, .ref (10000 + v2))] [] μ 0 0 _
  unfold fX6_readRule at h
  refine J.aload_n (pc := 0) dX6_readRule_0 rfl 1 rfl ?_
  refine J.callV (Y := mX6_readRule) (Z := mX7_isTold) (pc := 1) (st := []) (k2 := 0) (n2 := 0) dX6_readRule_1 ml_RX6_188 mo_X7_isTold mv_X7_isTold rfl (tX7_isTold (d + 68) v1 μ hN k1) k1 (okN hN k1 (by decide)).1 (okN hN k1 (by decide)).2 cq_7 (by decide) rfl rfl (Nat.le_of_ble_eq_true rfl) (by decide) (by decide) (fun v ν hp => ?_) (fun i ν hp => nrm hp.1)
  obtain ⟨rfl, rfl, hN2, hb3⟩ := QEl hp
  show J _ _ _ _ 4 _ ([.int (fX7_isTold v1 μ)]) _ _ _ _
  rcases ifc h with ⟨hc, h⟩ | ⟨hc, h⟩
  · refine J.zeq (pc := 4) (tgt := 13) dX6_readRule_4 (by decide) (fun _ => ?_) (fun q => absurd hc q)
    refine J.aload_n (pc := 13) dX6_readRule_13 rfl 0 rfl ?_
    obtain ⟨μ5, e4, h⟩ := bnd h
    refine J.callV (Y := mX6_readRule) (Z := mX6_advance) (pc := 14) (st := []) (k2 := 0) (n2 := 0) dX6_readRule_14 ml_RX6_65 mo_X6_advance mv_X6_advance rfl (tX6_advance (d + 63) e4 hN2 k0) k0 (okN hN2 k0 (by decide)).1 (okN hN2 k0 (by decide)).2 cq_6 (by decide) rfl rfl (Nat.le_of_ble_eq_true rfl) (by decide) (by decide) (fun v ν hp => ?_) (fun i ν hp => nrm hp.1)
    obtain ⟨rfl, rfl, hN6, hb7⟩ := QEl hp
    show J _ _ _ _ 17 _ ([]) _ _ _ _
    refine J.aload_n (pc := 17) dX6_readRule_17 rfl 0 rfl ?_
    refine J.aload_n (pc := 18) dX6_readRule_18 rfl 1 rfl ?_
    obtain ⟨μ8, e9, h⟩ := bnd h
    have hN10 : μ8.1 = NN := smN e9 hN6
    refine J.qR (pc := 19) dX6_readRule_19 fl_RX6_53 k0 (okN hN6 k0 (by decide)) rfl rfl e9 ?_
    refine J.aload_n (pc := 22) dX6_readRule_22 rfl 0 rfl ?_
    refine J.aload_n (pc := 23) dX6_readRule_23 rfl 2 rfl ?_
    obtain ⟨μ11, e12, h⟩ := bnd h
    have hN13 : μ11.1 = NN := smN e12 hN10
    refine J.qR (pc := 24) dX6_readRule_24 fl_RX6_39 k0 (okN hN10 k0 (by decide)) rfl rfl e12 ?_
    refine J.aload_n (pc := 27) dX6_readRule_27 rfl 0 rfl ?_
    refine J.iconst (pc := 28) dX6_readRule_28 ic_0 ?_
    obtain ⟨μ15, e14, h⟩ := bnd h
    refine J.callV (Y := mX6_readRule) (Z := mX6_readExpr) (pc := 29) (st := []) (k2 := 0) (n2 := 0) dX6_readRule_29 ml_RX6_194 mo_X6_readExpr mv_X6_readExpr rfl (tX6_readExprN d e14 hN13 k0) k0 (okN hN13 k0 (by decide)).1 (okN hN13 k0 (by decide)).2 cq_6 (by decide) rfl rfl (Nat.le_of_ble_eq_true rfl) (by decide) (by decide) (fun v ν hp => ?_) (fun i ν hp => nrm hp.1)
    obtain ⟨rfl, rfl, hN16, hb17⟩ := QEl hp
    show J _ _ _ _ 32 _ ([]) _ _ _ _
    cases h
    exact J.vret (pc := 32) dX6_readRule_32 rfl ⟨rfl, rfl, hN16, trivial⟩
  · refine J.zeq (pc := 4) (tgt := 13) dX6_readRule_4 (by decide) (fun q => absurd q hc) (fun _ => ?_)
    refine J.aload_n (pc := 7) dX6_readRule_7 rfl 0 rfl ?_
    refine J.iconst (pc := 8) dX6_readRule_8 ic_5 ?_
    obtain ⟨μ19, e18, h⟩ := bnd h
    refine J.callV (Y := mX6_readRule) (Z := mX6_refuse) (pc := 9) (st := []) (k2 := 0) (n2 := 0) dX6_readRule_9 ml_RX6_109 mo_X6_refuse mv_X6_refuse rfl (tX6_refuse (d + 68) e18 hN2 k0) k0 (okN hN2 k0 (by decide)).1 (okN hN2 k0 (by decide)).2 cq_6 (by decide) rfl rfl (Nat.le_of_ble_eq_true rfl) (by decide) (by decide) (fun v ν hp => ?_) (fun i ν hp => nrm hp.1)
    obtain ⟨rfl, rfl, hN20, hb21⟩ := QEl hp
    show J _ _ _ _ 12 _ ([]) _ _ _ _
    cases h
    exact J.vret (pc := 12) dX6_readRule_12 rfl ⟨rfl, rfl, hN20, trivial⟩
def fX6_readStile (v0 : Nat) (μ : Mem) : Option (Mem) :=
  (fX6_advance v0 μ).bind fun μ2 =>
  (gR μ2 v0 8 11).bind fun a5 =>
  (fX6_numberBelow v0 ((μ2.2.1 a5 0) - (1 : Int32)) (3 : Int32) μ2).bind fun (r10, μ9) =>
  if (μ9.2.1 v0 0) = 0 then
    (fX6_advance v0 μ9).bind fun μ14 =>
    (gR μ14 v0 8 11).bind fun a17 =>
    (gR μ14 a17 3 0).bind fun a20 =>
    (ldI μ14 a20 r10).bind fun x23 =>
    (gR μ14 v0 8 11).bind fun a25 =>
    (gR μ14 a25 3 0).bind fun a28 =>
    (ldI μ14 a28 (r10 + (1 : Int32))).bind fun x31 =>
    (fX6_numberBelow v0 (mnI x23 x31) (3 : Int32) μ14).bind fun (r35, μ34) =>
    (gR μ34 v0 8 11).bind fun a41 =>
    (gR μ34 a41 7 19).bind fun a44 =>
    if ((μ34.2.2.1 a44 2) &&& (fX10_bit (((8 : Int32) * r10) + r35))) = (0 : Int64) then
      if (μ34.2.1 v0 0) = 0 then
        (gR μ34 v0 8 11).bind fun a47 =>
        (gR μ34 a47 7 19).bind fun a50 =>
        (some (sL μ34 a50 2 ((μ34.2.2.1 a50 2) ||| (fX10_bit (((8 : Int32) * r10) + r35))))).bind fun μ53 =>
        (fX6_advance v0 μ53).bind fun μ57 =>
        some μ57
      else
        some μ34
    else
      (fX6_refuse v0 (4 : Int32) μ34).bind fun μ61 =>
      if (μ61.2.1 v0 0) = 0 then
        (gR μ61 v0 8 11).bind fun a64 =>
        (gR μ61 a64 7 19).bind fun a67 =>
        (some (sL μ61 a67 2 ((μ61.2.2.1 a67 2) ||| (fX10_bit (((8 : Int32) * r10) + r35))))).bind fun μ70 =>
        (fX6_advance v0 μ70).bind fun μ74 =>
        some μ74
      else
        some μ61
  else
    some μ9
set_option maxHeartbeats 4000000 in
theorem tX6_readStile {ω : Wd} {l : Launch} (d : Nat) {v0 : Nat} {μ : Mem} {res : Mem} (h : fX6_readStile v0 μ = some res) (hN : μ.1 = NN) (k0 : (kd v0).1 = 16) : Ct ω l mX6_readStile (d + 6) [.ref v0] μ 0 0 (PE (.inl none) res True) := by
  refine Ct.of pn_RX6 (Nat.le_of_ble_eq_true rfl) ?_
  show J ω l mX6_readStile (d + 6) 0 [(0, .ref v0)] [] μ 0 0 _
  unfold fX6_readStile at h
  refine J.aload_n (pc := 0) dX6_readStile_0 rfl 0 rfl ?_
  obtain ⟨μ2, e1, h⟩ := bnd h
  refine J.callV (Y := mX6_readStile) (Z := mX6_advance) (pc := 1) (st := []) (k2 := 0) (n2 := 0) dX6_readStile_1 ml_RX6_65 mo_X6_advance mv_X6_advance rfl (tX6_advance d e1 hN k0) k0 (okN hN k0 (by decide)).1 (okN hN k0 (by decide)).2 cq_6 (by decide) rfl rfl (Nat.le_of_ble_eq_true rfl) (by decide) (by decide) (fun v ν hp => ?_) (fun i ν hp => nrm hp.1)
  obtain ⟨rfl, rfl, hN3, hb4⟩ := QEl hp
  show J _ _ _ _ 4 _ ([]) _ _ _ _
  refine J.aload_n (pc := 4) dX6_readStile_4 rfl 0 rfl ?_
  refine J.aload_n (pc := 5) dX6_readStile_5 rfl 0 rfl ?_
  obtain ⟨a5, e6, h⟩ := bnd h
  have k7 : (kd a5).1 = 11 := gR_k e6
  refine J.fR (pc := 6) dX6_readStile_6 fl_RX6_43 k0 (okN hN3 k0 (by decide)) rfl e6 ?_
  refine J.fI (pc := 9) dX6_readStile_9 fl_RX6_140 k7 (okN hN3 k7 (by decide)) (Or.inl rfl) ?_
  refine J.iconst (pc := 12) dX6_readStile_12 ic_1 ?_
  refine J.isub (pc := 13) dX6_readStile_13 ?_
  refine J.iconst (pc := 14) dX6_readStile_14 ic_3 ?_
  obtain ⟨⟨r10, μ9⟩, e8, h⟩ := bnd h
  try dsimp only at h
  refine J.callV (Y := mX6_readStile) (Z := mX6_numberBelow) (pc := 15) (st := []) (k2 := 0) (n2 := 0) dX6_readStile_15 ml_RX6_143 mo_X6_numberBelow mv_X6_numberBelow rfl (tX6_numberBelow (d + 4) e8 hN3 k0) k0 (okN hN3 k0 (by decide)).1 (okN hN3 k0 (by decide)).2 cq_6 (by decide) rfl rfl (Nat.le_of_ble_eq_true rfl) (by decide) (by decide) (fun v ν hp => ?_) (fun i ν hp => nrm hp.1)
  obtain ⟨rfl, rfl, hN11, hb12⟩ := QEl hp
  show J _ _ _ _ 18 _ ([.int r10]) _ _ _ _
  refine J.istore_n (pc := 18) ([(1, .int r10), (0, .ref v0)]) dX6_readStile_18 rfl (Nat.le_of_ble_eq_true rfl) rfl ?_
  refine J.aload_n (pc := 19) dX6_readStile_19 rfl 1 rfl ?_
  refine J.fI (pc := 20) dX6_readStile_20 fl_RX6_9 k0 (okN hN11 k0 (by decide)) (Or.inl rfl) ?_
  rcases ifc h with ⟨hc, h⟩ | ⟨hc, h⟩
  · refine J.zeq (pc := 23) (tgt := 27) dX6_readStile_23 (by decide) (fun _ => ?_) (fun q => absurd hc q)
    refine J.aload_n (pc := 27) dX6_readStile_27 rfl 1 rfl ?_
    obtain ⟨μ14, e13, h⟩ := bnd h
    refine J.callV (Y := mX6_readStile) (Z := mX6_advance) (pc := 28) (st := []) (k2 := 0) (n2 := 0) dX6_readStile_28 ml_RX6_65 mo_X6_advance mv_X6_advance rfl (tX6_advance d e13 hN11 k0) k0 (okN hN11 k0 (by decide)).1 (okN hN11 k0 (by decide)).2 cq_6 (by decide) rfl rfl (Nat.le_of_ble_eq_true rfl) (by decide) (by decide) (fun v ν hp => ?_) (fun i ν hp => nrm hp.1)
    obtain ⟨rfl, rfl, hN15, hb16⟩ := QEl hp
    show J _ _ _ _ 31 _ ([]) _ _ _ _
    refine J.aload_n (pc := 31) dX6_readStile_31 rfl 1 rfl ?_
    refine J.aload_n (pc := 32) dX6_readStile_32 rfl 1 rfl ?_
    obtain ⟨a17, e18, h⟩ := bnd h
    have k19 : (kd a17).1 = 11 := gR_k e18
    refine J.fR (pc := 33) dX6_readStile_33 fl_RX6_43 k0 (okN hN15 k0 (by decide)) rfl e18 ?_
    obtain ⟨a20, e21, h⟩ := bnd h
    have k22 : (kd a20).1 = 0 := gR_k e21
    refine J.fR (pc := 36) dX6_readStile_36 fl_RX6_150 k19 (okN hN15 k19 (by decide)) rfl e21 ?_
    refine J.iload_n (pc := 39) dX6_readStile_39 rfl 0 rfl ?_
    obtain ⟨x23, e24, h⟩ := bnd h
    refine J.aI (pc := 40) dX6_readStile_40 k22 (okN hN15 k22 (by decide)) e24 ?_
    refine J.aload_n (pc := 41) dX6_readStile_41 rfl 1 rfl ?_
    obtain ⟨a25, e26, h⟩ := bnd h
    have k27 : (kd a25).1 = 11 := gR_k e26
    refine J.fR (pc := 42) dX6_readStile_42 fl_RX6_43 k0 (okN hN15 k0 (by decide)) rfl e26 ?_
    obtain ⟨a28, e29, h⟩ := bnd h
    have k30 : (kd a28).1 = 0 := gR_k e29
    refine J.fR (pc := 45) dX6_readStile_45 fl_RX6_150 k27 (okN hN15 k27 (by decide)) rfl e29 ?_
    refine J.iload_n (pc := 48) dX6_readStile_48 rfl 0 rfl ?_
    refine J.iconst (pc := 49) dX6_readStile_49 ic_1 ?_
    refine J.iadd (pc := 50) dX6_readStile_50 ?_
    obtain ⟨x31, e32, h⟩ := bnd h
    refine J.aI (pc := 51) dX6_readStile_51 k30 (okN hN15 k30 (by decide)) e32 ?_
    refine J.mmin (pc := 52) dX6_readStile_52 ml_RX6_56 (Nat.le_of_ble_eq_true rfl) ?_
    refine J.iconst (pc := 55) dX6_readStile_55 ic_3 ?_
    obtain ⟨⟨r35, μ34⟩, e33, h⟩ := bnd h
    try dsimp only at h
    refine J.callV (Y := mX6_readStile) (Z := mX6_numberBelow) (pc := 56) (st := []) (k2 := 0) (n2 := 0) dX6_readStile_56 ml_RX6_143 mo_X6_numberBelow mv_X6_numberBelow rfl (tX6_numberBelow (d + 4) e33 hN15 k0) k0 (okN hN15 k0 (by decide)).1 (okN hN15 k0 (by decide)).2 cq_6 (by decide) rfl rfl (Nat.le_of_ble_eq_true rfl) (by decide) (by decide) (fun v ν hp => ?_) (fun i ν hp => nrm hp.1)
    obtain ⟨rfl, rfl, hN36, hb37⟩ := QEl hp
    show J _ _ _ _ 59 _ ([.int r35]) _ _ _ _
    refine J.istore_n (pc := 59) ([(2, .int r35), (1, .int r10), (0, .ref v0)]) dX6_readStile_59 rfl (Nat.le_of_ble_eq_true rfl) rfl ?_
    refine J.bipush (pc := 60) dX6_readStile_60 ib_8 ?_
    refine J.iload_n (pc := 62) dX6_readStile_62 rfl 1 rfl ?_
    refine J.imul (pc := 63) dX6_readStile_63 ?_
    refine J.iload_n (pc := 64) dX6_readStile_64 rfl 0 rfl ?_
    refine J.iadd (pc := 65) dX6_readStile_65 ?_
    refine J.callSN (Y := mX6_readStile) (Z := mX10_bit) (pc := 66) (st := []) (k2 := 0) (n2 := 0) dX6_readStile_66 ml_RX6_153 mo_X10_bit ms_X10_bit rfl (tX10_bit (d + 5) (((8 : Int32) * r10) + r35) μ34 hN36 ) (fun i ν hp => nrm hp.1) rfl rfl (Nat.le_of_ble_eq_true rfl) (by decide) (by decide) (fun v ν hp => ?_)
    obtain ⟨rfl, rfl, hN39, hb40⟩ := QEl hp
    show J _ _ _ _ 69 _ ([.long (fX10_bit (((8 : Int32) * r10) + r35))]) _ _ _ _
    refine J.lstore_n (pc := 69) ([(3, .long (fX10_bit (((8 : Int32) * r10) + r35))), (2, .int r35), (1, .int r10), (0, .ref v0)]) dX6_readStile_69 rfl (Nat.le_of_ble_eq_true rfl) rfl ?_
    refine J.aload_n (pc := 70) dX6_readStile_70 rfl 3 rfl ?_
    obtain ⟨a41, e42, h⟩ := bnd h
    have k43 : (kd a41).1 = 11 := gR_k e42
    refine J.fR (pc := 71) dX6_readStile_71 fl_RX6_43 k0 (okN hN39 k0 (by decide)) rfl e42 ?_
    obtain ⟨a44, e45, h⟩ := bnd h
    have k46 : (kd a44).1 = 19 := gR_k e45
    refine J.fR (pc := 74) dX6_readStile_74 fl_RX6_157 k43 (okN hN39 k43 (by decide)) rfl e45 ?_
    refine J.fL (pc := 77) dX6_readStile_77 fl_RX6_161 k46 (okN hN39 k46 (by decide)) rfl ?_
    refine J.lload_n (pc := 80) dX6_readStile_80 rfl 0 rfl ?_
    refine J.land (pc := 81) dX6_readStile_81 ?_
    refine J.lconst (pc := 82) dX6_readStile_82 lc_0 ?_
    rcases ifc h with ⟨hc, h⟩ | ⟨hc, h⟩
    · refine J.meq (pc := 83) (tgt := 92) dX6_readStile_83 dX6_readStile_84 (by decide) (fun _ => ?_) (fun q => absurd hc q)
      refine J.aload_n (pc := 92) dX6_readStile_92 rfl 3 rfl ?_
      refine J.fI (pc := 93) dX6_readStile_93 fl_RX6_9 k0 (okN hN39 k0 (by decide)) (Or.inl rfl) ?_
      rcases ifc h with ⟨hc, h⟩ | ⟨hc, h⟩
      · refine J.zne (pc := 96) (tgt := 119) dX6_readStile_96 (by decide) (fun _ => ?_) (fun q => absurd hc q)
        refine J.aload_n (pc := 99) dX6_readStile_99 rfl 3 rfl ?_
        obtain ⟨a47, e48, h⟩ := bnd h
        have k49 : (kd a47).1 = 11 := gR_k e48
        refine J.fR (pc := 100) dX6_readStile_100 fl_RX6_43 k0 (okN hN39 k0 (by decide)) rfl e48 ?_
        obtain ⟨a50, e51, h⟩ := bnd h
        have k52 : (kd a50).1 = 19 := gR_k e51
        refine J.fR (pc := 103) dX6_readStile_103 fl_RX6_157 k49 (okN hN39 k49 (by decide)) rfl e51 ?_
        refine J.dup (pc := 106) dX6_readStile_106 rfl ?_
        refine J.fL (pc := 107) dX6_readStile_107 fl_RX6_161 k52 (okN hN39 k52 (by decide)) rfl ?_
        refine J.lload_n (pc := 110) dX6_readStile_110 rfl 0 rfl ?_
        refine J.lor (pc := 111) dX6_readStile_111 ?_
        obtain ⟨μ53, e54, h⟩ := bnd h
        have hN55 : μ53.1 = NN := smN e54 hN39
        refine J.qL (pc := 112) dX6_readStile_112 fl_RX6_161 k52 (okN hN39 k52 (by decide)) rfl rfl e54 ?_
        refine J.aload_n (pc := 115) dX6_readStile_115 rfl 3 rfl ?_
        obtain ⟨μ57, e56, h⟩ := bnd h
        refine J.callV (Y := mX6_readStile) (Z := mX6_advance) (pc := 116) (st := []) (k2 := 0) (n2 := 0) dX6_readStile_116 ml_RX6_65 mo_X6_advance mv_X6_advance rfl (tX6_advance d e56 hN55 k0) k0 (okN hN55 k0 (by decide)).1 (okN hN55 k0 (by decide)).2 cq_6 (by decide) rfl rfl (Nat.le_of_ble_eq_true rfl) (by decide) (by decide) (fun v ν hp => ?_) (fun i ν hp => nrm hp.1)
        obtain ⟨rfl, rfl, hN58, hb59⟩ := QEl hp
        show J _ _ _ _ 119 _ ([]) _ _ _ _
        cases h
        exact J.vret (pc := 119) dX6_readStile_119 rfl ⟨rfl, rfl, hN58, trivial⟩
      · refine J.zne (pc := 96) (tgt := 119) dX6_readStile_96 (by decide) (fun q => absurd q hc) (fun _ => ?_)
        cases h
        exact J.vret (pc := 119) dX6_readStile_119 rfl ⟨rfl, rfl, hN39, trivial⟩
    · refine J.meq (pc := 83) (tgt := 92) dX6_readStile_83 dX6_readStile_84 (by decide) (fun q => absurd q hc) (fun _ => ?_)
      refine J.aload_n (pc := 87) dX6_readStile_87 rfl 3 rfl ?_
      refine J.iconst (pc := 88) dX6_readStile_88 ic_4 ?_
      obtain ⟨μ61, e60, h⟩ := bnd h
      refine J.callV (Y := mX6_readStile) (Z := mX6_refuse) (pc := 89) (st := []) (k2 := 0) (n2 := 0) dX6_readStile_89 ml_RX6_109 mo_X6_refuse mv_X6_refuse rfl (tX6_refuse (d + 5) e60 hN39 k0) k0 (okN hN39 k0 (by decide)).1 (okN hN39 k0 (by decide)).2 cq_6 (by decide) rfl rfl (Nat.le_of_ble_eq_true rfl) (by decide) (by decide) (fun v ν hp => ?_) (fun i ν hp => nrm hp.1)
      obtain ⟨rfl, rfl, hN62, hb63⟩ := QEl hp
      show J _ _ _ _ 92 _ ([]) _ _ _ _
      refine J.aload_n (pc := 92) dX6_readStile_92 rfl 3 rfl ?_
      refine J.fI (pc := 93) dX6_readStile_93 fl_RX6_9 k0 (okN hN62 k0 (by decide)) (Or.inl rfl) ?_
      rcases ifc h with ⟨hc, h⟩ | ⟨hc, h⟩
      · refine J.zne (pc := 96) (tgt := 119) dX6_readStile_96 (by decide) (fun _ => ?_) (fun q => absurd hc q)
        refine J.aload_n (pc := 99) dX6_readStile_99 rfl 3 rfl ?_
        obtain ⟨a64, e65, h⟩ := bnd h
        have k66 : (kd a64).1 = 11 := gR_k e65
        refine J.fR (pc := 100) dX6_readStile_100 fl_RX6_43 k0 (okN hN62 k0 (by decide)) rfl e65 ?_
        obtain ⟨a67, e68, h⟩ := bnd h
        have k69 : (kd a67).1 = 19 := gR_k e68
        refine J.fR (pc := 103) dX6_readStile_103 fl_RX6_157 k66 (okN hN62 k66 (by decide)) rfl e68 ?_
        refine J.dup (pc := 106) dX6_readStile_106 rfl ?_
        refine J.fL (pc := 107) dX6_readStile_107 fl_RX6_161 k69 (okN hN62 k69 (by decide)) rfl ?_
        refine J.lload_n (pc := 110) dX6_readStile_110 rfl 0 rfl ?_
        refine J.lor (pc := 111) dX6_readStile_111 ?_
        obtain ⟨μ70, e71, h⟩ := bnd h
        have hN72 : μ70.1 = NN := smN e71 hN62
        refine J.qL (pc := 112) dX6_readStile_112 fl_RX6_161 k69 (okN hN62 k69 (by decide)) rfl rfl e71 ?_
        refine J.aload_n (pc := 115) dX6_readStile_115 rfl 3 rfl ?_
        obtain ⟨μ74, e73, h⟩ := bnd h
        refine J.callV (Y := mX6_readStile) (Z := mX6_advance) (pc := 116) (st := []) (k2 := 0) (n2 := 0) dX6_readStile_116 ml_RX6_65 mo_X6_advance mv_X6_advance rfl (tX6_advance d e73 hN72 k0) k0 (okN hN72 k0 (by decide)).1 (okN hN72 k0 (by decide)).2 cq_6 (by decide) rfl rfl (Nat.le_of_ble_eq_true rfl) (by decide) (by decide) (fun v ν hp => ?_) (fun i ν hp => nrm hp.1)
        obtain ⟨rfl, rfl, hN75, hb76⟩ := QEl hp
        show J _ _ _ _ 119 _ ([]) _ _ _ _
        cases h
        exact J.vret (pc := 119) dX6_readStile_119 rfl ⟨rfl, rfl, hN75, trivial⟩
      · refine J.zne (pc := 96) (tgt := 119) dX6_readStile_96 (by decide) (fun q => absurd q hc) (fun _ => ?_)
        cases h
        exact J.vret (pc := 119) dX6_readStile_119 rfl ⟨rfl, rfl, hN62, trivial⟩
  · refine J.zeq (pc := 23) (tgt := 27) dX6_readStile_23 (by decide) (fun q => absurd q hc) (fun _ => ?_)
    cases h
    exact J.vret (pc := 26) dX6_readStile_26 rfl ⟨rfl, rfl, hN11, trivial⟩
def fX6_readLine (v0 : Nat) (μ : Mem) : Option (Mem) :=
  (fX6_wordOf v0 3 μ).bind fun r2 =>
  if r2 = (0 : Int32) then
    (fX6_readDeed v0 μ).bind fun μ6 =>
    (fX6_pass v0 (59 : Int32) μ6).bind fun μ10 =>
    some μ10
  else
  if r2 = (1 : Int32) then
    (fX6_readStile v0 μ).bind fun μ14 =>
    (fX6_pass v0 (59 : Int32) μ14).bind fun μ18 =>
    some μ18
  else
  if r2 = (2 : Int32) then
    (fX6_readPerson v0 μ).bind fun μ22 =>
    (fX6_pass v0 (59 : Int32) μ22).bind fun μ26 =>
    some μ26
  else
  if r2 = (3 : Int32) then
    (gR μ v0 8 11).bind fun a29 =>
    (gR μ a29 5 17).bind fun a32 =>
    (fX6_readRule v0 a32 0 μ).bind fun μ36 =>
    (fX6_pass v0 (59 : Int32) μ36).bind fun μ40 =>
    some μ40
  else
  if r2 = (4 : Int32) then
    (gR μ v0 8 11).bind fun a43 =>
    (gR μ a43 6 17).bind fun a46 =>
    (fX6_readRule v0 a46 8 μ).bind fun μ50 =>
    (fX6_pass v0 (59 : Int32) μ50).bind fun μ54 =>
    some μ54
  else
  (fX6_refuse v0 (1 : Int32) μ).bind fun μ58 =>
  (fX6_pass v0 (59 : Int32) μ58).bind fun μ62 =>
  some μ62
set_option maxHeartbeats 4000000 in
theorem tX6_readLine {ω : Wd} {l : Launch} (d : Nat) {v0 : Nat} {μ : Mem} {res : Mem} (h : fX6_readLine v0 μ = some res) (hN : μ.1 = NN) (k0 : (kd v0).1 = 16) : Ct ω l mX6_readLine (d + 70) [.ref v0] μ 0 0 (PE (.inl none) res True) := by
  refine Ct.of pn_RX6 (Nat.le_of_ble_eq_true rfl) ?_
  show J ω l mX6_readLine (d + 70) 0 [(0, .ref v0)] [] μ 0 0 _
  unfold fX6_readLine at h
  refine J.aload_n (pc := 0) dX6_readLine_0 rfl 0 rfl ?_
  refine J.ldcS (pc := 1) (i := 3) dX6_readLine_1 rfl ?_
  obtain ⟨r2, e1, h⟩ := bnd h
  refine J.callV (Y := mX6_readLine) (Z := mX6_wordOf) (pc := 3) (st := []) (k2 := 0) (n2 := 0) dX6_readLine_3 ml_RX6_115 mo_X6_wordOf mv_X6_wordOf rfl (tX6_wordOf (d + 64) e1 hN k0 (by decide)) k0 (okN hN k0 (by decide)).1 (okN hN k0 (by decide)).2 cq_6 (by decide) rfl rfl (Nat.le_of_ble_eq_true rfl) (by decide) (by decide) (fun v ν hp => ?_) (fun i ν hp => nrm hp.1)
  obtain ⟨rfl, rfl, hN3, hb4⟩ := QEl hp
  show J _ _ _ _ 6 _ ([.int r2]) _ _ _ _
  rcases ifc h with ⟨hc, h⟩ | ⟨ns65, h⟩
  · refine J.tableIn (pc := 6) (off := 34) (tgt := 40) dX6_readLine_6 (by rw [hc]; decide) (by rw [hc]; decide) (by rw [hc]; decide) (by decide) ?_
    refine J.aload_n (pc := 40) dX6_readLine_40 rfl 0 rfl ?_
    obtain ⟨μ6, e5, h⟩ := bnd h
    refine J.callV (Y := mX6_readLine) (Z := mX6_readDeed) (pc := 41) (st := []) (k2 := 0) (n2 := 0) dX6_readLine_41 ml_RX6_119 mo_X6_readDeed mv_X6_readDeed rfl (tX6_readDeed (d + 63) e5 hN3 k0) k0 (okN hN3 k0 (by decide)).1 (okN hN3 k0 (by decide)).2 cq_6 (by decide) rfl rfl (Nat.le_of_ble_eq_true rfl) (by decide) (by decide) (fun v ν hp => ?_) (fun i ν hp => nrm hp.1)
    obtain ⟨rfl, rfl, hN7, hb8⟩ := QEl hp
    show J _ _ _ _ 44 _ ([]) _ _ _ _
    refine J.goto (pc := 44) (tgt := 98) dX6_readLine_44 (by decide) ?_
    refine J.aload_n (pc := 98) dX6_readLine_98 rfl 0 rfl ?_
    refine J.bipush (pc := 99) dX6_readLine_99 ib_59 ?_
    obtain ⟨μ10, e9, h⟩ := bnd h
    refine J.callV (Y := mX6_readLine) (Z := mX6_pass) (pc := 101) (st := []) (k2 := 0) (n2 := 0) dX6_readLine_101 ml_RX6_137 mo_X6_pass mv_X6_pass rfl (tX6_pass (d + 63) e9 hN7 k0) k0 (okN hN7 k0 (by decide)).1 (okN hN7 k0 (by decide)).2 cq_6 (by decide) rfl rfl (Nat.le_of_ble_eq_true rfl) (by decide) (by decide) (fun v ν hp => ?_) (fun i ν hp => nrm hp.1)
    obtain ⟨rfl, rfl, hN11, hb12⟩ := QEl hp
    show J _ _ _ _ 104 _ ([]) _ _ _ _
    cases h
    exact J.vret (pc := 104) dX6_readLine_104 rfl ⟨rfl, rfl, hN11, trivial⟩
  rcases ifc h with ⟨hc, h⟩ | ⟨ns66, h⟩
  · refine J.tableIn (pc := 6) (off := 41) (tgt := 47) dX6_readLine_6 (by rw [hc]; decide) (by rw [hc]; decide) (by rw [hc]; decide) (by decide) ?_
    refine J.aload_n (pc := 47) dX6_readLine_47 rfl 0 rfl ?_
    obtain ⟨μ14, e13, h⟩ := bnd h
    refine J.callV (Y := mX6_readLine) (Z := mX6_readStile) (pc := 48) (st := []) (k2 := 0) (n2 := 0) dX6_readLine_48 ml_RX6_122 mo_X6_readStile mv_X6_readStile rfl (tX6_readStile (d + 63) e13 hN3 k0) k0 (okN hN3 k0 (by decide)).1 (okN hN3 k0 (by decide)).2 cq_6 (by decide) rfl rfl (Nat.le_of_ble_eq_true rfl) (by decide) (by decide) (fun v ν hp => ?_) (fun i ν hp => nrm hp.1)
    obtain ⟨rfl, rfl, hN15, hb16⟩ := QEl hp
    show J _ _ _ _ 51 _ ([]) _ _ _ _
    refine J.goto (pc := 51) (tgt := 98) dX6_readLine_51 (by decide) ?_
    refine J.aload_n (pc := 98) dX6_readLine_98 rfl 0 rfl ?_
    refine J.bipush (pc := 99) dX6_readLine_99 ib_59 ?_
    obtain ⟨μ18, e17, h⟩ := bnd h
    refine J.callV (Y := mX6_readLine) (Z := mX6_pass) (pc := 101) (st := []) (k2 := 0) (n2 := 0) dX6_readLine_101 ml_RX6_137 mo_X6_pass mv_X6_pass rfl (tX6_pass (d + 63) e17 hN15 k0) k0 (okN hN15 k0 (by decide)).1 (okN hN15 k0 (by decide)).2 cq_6 (by decide) rfl rfl (Nat.le_of_ble_eq_true rfl) (by decide) (by decide) (fun v ν hp => ?_) (fun i ν hp => nrm hp.1)
    obtain ⟨rfl, rfl, hN19, hb20⟩ := QEl hp
    show J _ _ _ _ 104 _ ([]) _ _ _ _
    cases h
    exact J.vret (pc := 104) dX6_readLine_104 rfl ⟨rfl, rfl, hN19, trivial⟩
  rcases ifc h with ⟨hc, h⟩ | ⟨ns67, h⟩
  · refine J.tableIn (pc := 6) (off := 48) (tgt := 54) dX6_readLine_6 (by rw [hc]; decide) (by rw [hc]; decide) (by rw [hc]; decide) (by decide) ?_
    refine J.aload_n (pc := 54) dX6_readLine_54 rfl 0 rfl ?_
    obtain ⟨μ22, e21, h⟩ := bnd h
    refine J.callV (Y := mX6_readLine) (Z := mX6_readPerson) (pc := 55) (st := []) (k2 := 0) (n2 := 0) dX6_readLine_55 ml_RX6_125 mo_X6_readPerson mv_X6_readPerson rfl (tX6_readPerson (d + 62) e21 hN3 k0) k0 (okN hN3 k0 (by decide)).1 (okN hN3 k0 (by decide)).2 cq_6 (by decide) rfl rfl (Nat.le_of_ble_eq_true rfl) (by decide) (by decide) (fun v ν hp => ?_) (fun i ν hp => nrm hp.1)
    obtain ⟨rfl, rfl, hN23, hb24⟩ := QEl hp
    show J _ _ _ _ 58 _ ([]) _ _ _ _
    refine J.goto (pc := 58) (tgt := 98) dX6_readLine_58 (by decide) ?_
    refine J.aload_n (pc := 98) dX6_readLine_98 rfl 0 rfl ?_
    refine J.bipush (pc := 99) dX6_readLine_99 ib_59 ?_
    obtain ⟨μ26, e25, h⟩ := bnd h
    refine J.callV (Y := mX6_readLine) (Z := mX6_pass) (pc := 101) (st := []) (k2 := 0) (n2 := 0) dX6_readLine_101 ml_RX6_137 mo_X6_pass mv_X6_pass rfl (tX6_pass (d + 63) e25 hN23 k0) k0 (okN hN23 k0 (by decide)).1 (okN hN23 k0 (by decide)).2 cq_6 (by decide) rfl rfl (Nat.le_of_ble_eq_true rfl) (by decide) (by decide) (fun v ν hp => ?_) (fun i ν hp => nrm hp.1)
    obtain ⟨rfl, rfl, hN27, hb28⟩ := QEl hp
    show J _ _ _ _ 104 _ ([]) _ _ _ _
    cases h
    exact J.vret (pc := 104) dX6_readLine_104 rfl ⟨rfl, rfl, hN27, trivial⟩
  rcases ifc h with ⟨hc, h⟩ | ⟨ns68, h⟩
  · refine J.tableIn (pc := 6) (off := 55) (tgt := 61) dX6_readLine_6 (by rw [hc]; decide) (by rw [hc]; decide) (by rw [hc]; decide) (by decide) ?_
    refine J.aload_n (pc := 61) dX6_readLine_61 rfl 0 rfl ?_
    refine J.aload_n (pc := 62) dX6_readLine_62 rfl 0 rfl ?_
    obtain ⟨a29, e30, h⟩ := bnd h
    have k31 : (kd a29).1 = 11 := gR_k e30
    refine J.fR (pc := 63) dX6_readLine_63 fl_RX6_43 k0 (okN hN3 k0 (by decide)) rfl e30 ?_
    obtain ⟨a32, e33, h⟩ := bnd h
    have k34 : (kd a32).1 = 17 := gR_k e33
    refine J.fR (pc := 66) dX6_readLine_66 fl_RX6_47 k31 (okN hN3 k31 (by decide)) rfl e33 ?_
    refine J.ldcS (pc := 69) (i := 0) dX6_readLine_69 rfl ?_
    obtain ⟨μ36, e35, h⟩ := bnd h
    refine J.callV (Y := mX6_readLine) (Z := mX6_readRule) (pc := 71) (st := []) (k2 := 0) (n2 := 0) dX6_readLine_71 ml_RX6_128 mo_X6_readRule mv_X6_readRule rfl (tX6_readRule d e35 hN3 k0 k34 (by decide)) k0 (okN hN3 k0 (by decide)).1 (okN hN3 k0 (by decide)).2 cq_6 (by decide) rfl rfl (Nat.le_of_ble_eq_true rfl) (by decide) (by decide) (fun v ν hp => ?_) (fun i ν hp => nrm hp.1)
    obtain ⟨rfl, rfl, hN37, hb38⟩ := QEl hp
    show J _ _ _ _ 74 _ ([]) _ _ _ _
    refine J.goto (pc := 74) (tgt := 98) dX6_readLine_74 (by decide) ?_
    refine J.aload_n (pc := 98) dX6_readLine_98 rfl 0 rfl ?_
    refine J.bipush (pc := 99) dX6_readLine_99 ib_59 ?_
    obtain ⟨μ40, e39, h⟩ := bnd h
    refine J.callV (Y := mX6_readLine) (Z := mX6_pass) (pc := 101) (st := []) (k2 := 0) (n2 := 0) dX6_readLine_101 ml_RX6_137 mo_X6_pass mv_X6_pass rfl (tX6_pass (d + 63) e39 hN37 k0) k0 (okN hN37 k0 (by decide)).1 (okN hN37 k0 (by decide)).2 cq_6 (by decide) rfl rfl (Nat.le_of_ble_eq_true rfl) (by decide) (by decide) (fun v ν hp => ?_) (fun i ν hp => nrm hp.1)
    obtain ⟨rfl, rfl, hN41, hb42⟩ := QEl hp
    show J _ _ _ _ 104 _ ([]) _ _ _ _
    cases h
    exact J.vret (pc := 104) dX6_readLine_104 rfl ⟨rfl, rfl, hN41, trivial⟩
  rcases ifc h with ⟨hc, h⟩ | ⟨ns69, h⟩
  · refine J.tableIn (pc := 6) (off := 71) (tgt := 77) dX6_readLine_6 (by rw [hc]; decide) (by rw [hc]; decide) (by rw [hc]; decide) (by decide) ?_
    refine J.aload_n (pc := 77) dX6_readLine_77 rfl 0 rfl ?_
    refine J.aload_n (pc := 78) dX6_readLine_78 rfl 0 rfl ?_
    obtain ⟨a43, e44, h⟩ := bnd h
    have k45 : (kd a43).1 = 11 := gR_k e44
    refine J.fR (pc := 79) dX6_readLine_79 fl_RX6_43 k0 (okN hN3 k0 (by decide)) rfl e44 ?_
    obtain ⟨a46, e47, h⟩ := bnd h
    have k48 : (kd a46).1 = 17 := gR_k e47
    refine J.fR (pc := 82) dX6_readLine_82 fl_RX6_132 k45 (okN hN3 k45 (by decide)) rfl e47 ?_
    refine J.ldcS (pc := 85) (i := 8) dX6_readLine_85 rfl ?_
    obtain ⟨μ50, e49, h⟩ := bnd h
    refine J.callV (Y := mX6_readLine) (Z := mX6_readRule) (pc := 87) (st := []) (k2 := 0) (n2 := 0) dX6_readLine_87 ml_RX6_128 mo_X6_readRule mv_X6_readRule rfl (tX6_readRule d e49 hN3 k0 k48 (by decide)) k0 (okN hN3 k0 (by decide)).1 (okN hN3 k0 (by decide)).2 cq_6 (by decide) rfl rfl (Nat.le_of_ble_eq_true rfl) (by decide) (by decide) (fun v ν hp => ?_) (fun i ν hp => nrm hp.1)
    obtain ⟨rfl, rfl, hN51, hb52⟩ := QEl hp
    show J _ _ _ _ 90 _ ([]) _ _ _ _
    refine J.goto (pc := 90) (tgt := 98) dX6_readLine_90 (by decide) ?_
    refine J.aload_n (pc := 98) dX6_readLine_98 rfl 0 rfl ?_
    refine J.bipush (pc := 99) dX6_readLine_99 ib_59 ?_
    obtain ⟨μ54, e53, h⟩ := bnd h
    refine J.callV (Y := mX6_readLine) (Z := mX6_pass) (pc := 101) (st := []) (k2 := 0) (n2 := 0) dX6_readLine_101 ml_RX6_137 mo_X6_pass mv_X6_pass rfl (tX6_pass (d + 63) e53 hN51 k0) k0 (okN hN51 k0 (by decide)).1 (okN hN51 k0 (by decide)).2 cq_6 (by decide) rfl rfl (Nat.le_of_ble_eq_true rfl) (by decide) (by decide) (fun v ν hp => ?_) (fun i ν hp => nrm hp.1)
    obtain ⟨rfl, rfl, hN55, hb56⟩ := QEl hp
    show J _ _ _ _ 104 _ ([]) _ _ _ _
    cases h
    exact J.vret (pc := 104) dX6_readLine_104 rfl ⟨rfl, rfl, hN55, trivial⟩
  refine J.tableOut (pc := 6) (tgt := 93) dX6_readLine_6 (sw_out (vs := [(0 : Int32), (1 : Int32), (2 : Int32), (3 : Int32), (4 : Int32)]) (List.forall_mem_cons.mpr ⟨ns65, (List.forall_mem_cons.mpr ⟨ns66, (List.forall_mem_cons.mpr ⟨ns67, (List.forall_mem_cons.mpr ⟨ns68, (List.forall_mem_cons.mpr ⟨ns69, (fun _ q => nomatch q)⟩)⟩)⟩)⟩)⟩) (sw_hv (by decide))) (by decide) ?_
  refine J.aload_n (pc := 93) dX6_readLine_93 rfl 0 rfl ?_
  refine J.iconst (pc := 94) dX6_readLine_94 ic_1 ?_
  obtain ⟨μ58, e57, h⟩ := bnd h
  refine J.callV (Y := mX6_readLine) (Z := mX6_refuse) (pc := 95) (st := []) (k2 := 0) (n2 := 0) dX6_readLine_95 ml_RX6_109 mo_X6_refuse mv_X6_refuse rfl (tX6_refuse (d + 69) e57 hN3 k0) k0 (okN hN3 k0 (by decide)).1 (okN hN3 k0 (by decide)).2 cq_6 (by decide) rfl rfl (Nat.le_of_ble_eq_true rfl) (by decide) (by decide) (fun v ν hp => ?_) (fun i ν hp => nrm hp.1)
  obtain ⟨rfl, rfl, hN59, hb60⟩ := QEl hp
  show J _ _ _ _ 98 _ ([]) _ _ _ _
  refine J.aload_n (pc := 98) dX6_readLine_98 rfl 0 rfl ?_
  refine J.bipush (pc := 99) dX6_readLine_99 ib_59 ?_
  obtain ⟨μ62, e61, h⟩ := bnd h
  refine J.callV (Y := mX6_readLine) (Z := mX6_pass) (pc := 101) (st := []) (k2 := 0) (n2 := 0) dX6_readLine_101 ml_RX6_137 mo_X6_pass mv_X6_pass rfl (tX6_pass (d + 63) e61 hN59 k0) k0 (okN hN59 k0 (by decide)).1 (okN hN59 k0 (by decide)).2 cq_6 (by decide) rfl rfl (Nat.le_of_ble_eq_true rfl) (by decide) (by decide) (fun v ν hp => ?_) (fun i ν hp => nrm hp.1)
  obtain ⟨rfl, rfl, hN63, hb64⟩ := QEl hp
  show J _ _ _ _ 104 _ ([]) _ _ _ _
  cases h
  exact J.vret (pc := 104) dX6_readLine_104 rfl ⟨rfl, rfl, hN63, trivial⟩
def fX6_read_49  : Nat → Nat → Int32 → Mem → Option (Int32 × Mem)
  | 0, _, _, _ => none
  | n + 1, v0, v4, μ =>
    if v4 < (700 : Int32) then
      if (μ.2.1 v0 0) = 0 then
        if (μ.2.1 v0 6) = (259 : Int32) then
          some ((μ.2.1 v0 0), μ)
        else
          (fX6_readLine v0 μ).bind fun μ2 =>
          (fX6_read_49 n) v0 (v4 + (1 : Int32)) μ2
      else
        some ((μ.2.1 v0 0), μ)
    else
      some ((μ.2.1 v0 0), μ)
set_option maxHeartbeats 4000000 in
theorem tX6_read_49 {ω : Wd} {l : Launch} (d : Nat) {res : Int32 × Mem} : ∀ n : Nat, ∀ (v0 : Nat) (v4 : Int32) (μ : Mem), fX6_read_49 n v0 v4 μ = some res → μ.1 = NN → (kd v0).1 = 16 → J ω l mX6_read (d + 71) 49 [(0, .ref v0), (4, .int v4)] [] μ 0 0 (PE (.inl (some (.int res.1))) res.2 True) := by
  intro n
  induction n with
  | zero =>
    intro v0 v4 μ h hN k0
    have h9 : (none : Option (Int32 × Mem)) = some res := h
    cases h9
  | succ n ih =>
    intro v0 v4 μ h hN k0
    unfold fX6_read_49 at h
    refine J.iload (pc := 49) dX6_read_49 1 rfl ?_
    refine J.sipush (pc := 51) dX6_read_51 is_700 ?_
    rcases ifc h with ⟨hc, h⟩ | ⟨hc, h⟩
    · refine J.cge (pc := 54) (tgt := 84) dX6_read_54 (by decide) (fun _ => ?_) (fun q => absurd hc q)
      refine J.aload_n (pc := 57) dX6_read_57 rfl 0 rfl ?_
      refine J.fI (pc := 58) dX6_read_58 fl_RX6_9 k0 (okN hN k0 (by decide)) (Or.inl rfl) ?_
      rcases ifc h with ⟨hc, h⟩ | ⟨hc, h⟩
      · refine J.zne (pc := 61) (tgt := 84) dX6_read_61 (by decide) (fun _ => ?_) (fun q => absurd hc q)
        refine J.aload_n (pc := 64) dX6_read_64 rfl 0 rfl ?_
        refine J.fI (pc := 65) dX6_read_65 fl_RX6_31 k0 (okN hN k0 (by decide)) (Or.inl rfl) ?_
        refine J.sipush (pc := 68) dX6_read_68 is_259 ?_
        rcases ifc h with ⟨hc, h⟩ | ⟨hc, h⟩
        · refine J.ceq (pc := 71) (tgt := 84) dX6_read_71 (by decide) (fun _ => ?_) (fun q => absurd hc q)
          refine J.aload_n (pc := 84) dX6_read_84 rfl 0 rfl ?_
          refine J.fI (pc := 85) dX6_read_85 fl_RX6_9 k0 (okN hN k0 (by decide)) (Or.inl rfl) ?_
          cases h
          exact J.iret (pc := 88) dX6_read_88 rfl ⟨rfl, rfl, hN, trivial⟩
        · refine J.ceq (pc := 71) (tgt := 84) dX6_read_71 (by decide) (fun q => absurd q hc) (fun _ => ?_)
          refine J.aload_n (pc := 74) dX6_read_74 rfl 0 rfl ?_
          obtain ⟨μ2, e1, h⟩ := bnd h
          refine J.callV (Y := mX6_read) (Z := mX6_readLine) (pc := 75) (st := []) (k2 := 0) (n2 := 0) dX6_read_75 ml_RX6_68 mo_X6_readLine mv_X6_readLine rfl (tX6_readLine d e1 hN k0) k0 (okN hN k0 (by decide)).1 (okN hN k0 (by decide)).2 cq_6 (by decide) rfl rfl (Nat.le_of_ble_eq_true rfl) (by decide) (by decide) (fun v ν hp => ?_) (fun i ν hp => nrm hp.1)
          obtain ⟨rfl, rfl, hN3, hb4⟩ := QEl hp
          show J _ _ _ _ 78 _ ([]) _ _ _ _
          refine J.iinc (pc := 78) (j := 1) ([(4, .int (v4 + (1 : Int32))), (0, .ref v0)]) dX6_read_78 rfl (iincv ic_1) (Nat.le_of_ble_eq_true rfl) rfl ?_
          refine J.goto (pc := 81) (tgt := 49) dX6_read_81 (by decide) ?_
          refine J.pick [1, 0] rfl ?_
          exact ih v0 (v4 + (1 : Int32)) μ2 h hN3 k0
      · refine J.zne (pc := 61) (tgt := 84) dX6_read_61 (by decide) (fun q => absurd q hc) (fun _ => ?_)
        refine J.aload_n (pc := 84) dX6_read_84 rfl 0 rfl ?_
        refine J.fI (pc := 85) dX6_read_85 fl_RX6_9 k0 (okN hN k0 (by decide)) (Or.inl rfl) ?_
        cases h
        exact J.iret (pc := 88) dX6_read_88 rfl ⟨rfl, rfl, hN, trivial⟩
    · refine J.cge (pc := 54) (tgt := 84) dX6_read_54 (by decide) (fun q => absurd q hc) (fun _ => ?_)
      refine J.aload_n (pc := 84) dX6_read_84 rfl 0 rfl ?_
      refine J.fI (pc := 85) dX6_read_85 fl_RX6_9 k0 (okN hN k0 (by decide)) (Or.inl rfl) ?_
      cases h
      exact J.iret (pc := 88) dX6_read_88 rfl ⟨rfl, rfl, hN, trivial⟩
def fX6_read (v0 : Nat) (v1 : Nat) (v2 : Int32) (v3 : Nat) (μ : Mem) : Option (Int32 × Mem) :=
  (some (sR μ v0 2 (some v1))).bind fun μ1 =>
  (some (sI μ1 v0 3 (mnI v2 (Int32.ofNat (kd v1).2)))).bind fun μ4 =>
  (some (sI μ4 v0 5 (0 : Int32))).bind fun μ7 =>
  (some (sI μ7 v0 0 (0 : Int32))).bind fun μ10 =>
  (some (sI μ10 v0 1 (-1 : Int32))).bind fun μ13 =>
  (some (sR μ13 v0 8 (some v3))).bind fun μ16 =>
  (gR μ16 v0 8 11).bind fun a19 =>
  (fX1_empty a19 μ16).bind fun μ23 =>
  (fX6_advance v0 μ23).bind fun μ27 =>
  (fX6_read_49 fuel) v0 (0 : Int32) μ27
set_option maxHeartbeats 4000000 in
theorem tX6_read {ω : Wd} {l : Launch} (d : Nat) {v0 : Nat} {v1 : Nat} {v2 : Int32} {v3 : Nat} {μ : Mem} {res : Int32 × Mem} (h : fX6_read v0 v1 v2 v3 μ = some res) (hN : μ.1 = NN) (k0 : (kd v0).1 = 16) (k1 : (kd v1).1 = 0) (k3 : (kd v3).1 = 11) : Ct ω l mX6_read (d + 71) [.ref v0, .ref v1, .int v2, .ref v3] μ 0 0 (PE (.inl (some (.int res.1))) res.2 True) := by
  refine Ct.of pn_RX6 (Nat.le_of_ble_eq_true rfl) ?_
  show J ω l mX6_read (d + 71) 0 [(0, .ref v0), (1, .ref v1), (2, .int v2), (3, .ref v3)] [] μ 0 0 _
  unfold fX6_read at h
  refine J.aload_n (pc := 0) dX6_read_0 rfl 0 rfl ?_
  refine J.aload_n (pc := 1) dX6_read_1 rfl 1 rfl ?_
  obtain ⟨μ1, e2, h⟩ := bnd h
  have hN3 : μ1.1 = NN := smN e2 hN
  refine J.qR (pc := 2) dX6_read_2 fl_RX6_18 k0 (okN hN k0 (by decide)) rfl rfl e2 ?_
  refine J.aload_n (pc := 5) dX6_read_5 rfl 0 rfl ?_
  refine J.iload_n (pc := 6) dX6_read_6 rfl 2 rfl ?_
  refine J.aload_n (pc := 7) dX6_read_7 rfl 1 rfl ?_
  refine J.len (pc := 8) dX6_read_8 k1 (okN hN3 k1 (by decide)) ?_
  refine J.mmin (pc := 9) dX6_read_9 ml_RX6_56 (Nat.le_of_ble_eq_true rfl) ?_
  obtain ⟨μ4, e5, h⟩ := bnd h
  have hN6 : μ4.1 = NN := smN e5 hN3
  refine J.qI (pc := 12) dX6_read_12 fl_RX6_22 k0 (okN hN3 k0 (by decide)) rfl rfl e5 ?_
  refine J.aload_n (pc := 15) dX6_read_15 rfl 0 rfl ?_
  refine J.iconst (pc := 16) dX6_read_16 ic_0 ?_
  obtain ⟨μ7, e8, h⟩ := bnd h
  have hN9 : μ7.1 = NN := smN e8 hN6
  refine J.qI (pc := 17) dX6_read_17 fl_RX6_28 k0 (okN hN6 k0 (by decide)) rfl rfl e8 ?_
  refine J.aload_n (pc := 20) dX6_read_20 rfl 0 rfl ?_
  refine J.iconst (pc := 21) dX6_read_21 ic_0 ?_
  obtain ⟨μ10, e11, h⟩ := bnd h
  have hN12 : μ10.1 = NN := smN e11 hN9
  refine J.qI (pc := 22) dX6_read_22 fl_RX6_9 k0 (okN hN9 k0 (by decide)) rfl rfl e11 ?_
  refine J.aload_n (pc := 25) dX6_read_25 rfl 0 rfl ?_
  refine J.iconst (pc := 26) dX6_read_26 ic_m1 ?_
  obtain ⟨μ13, e14, h⟩ := bnd h
  have hN15 : μ13.1 = NN := smN e14 hN12
  refine J.qI (pc := 27) dX6_read_27 fl_RX6_15 k0 (okN hN12 k0 (by decide)) rfl rfl e14 ?_
  refine J.aload_n (pc := 30) dX6_read_30 rfl 0 rfl ?_
  refine J.aload_n (pc := 31) dX6_read_31 rfl 3 rfl ?_
  obtain ⟨μ16, e17, h⟩ := bnd h
  have hN18 : μ16.1 = NN := smN e17 hN15
  refine J.qR (pc := 32) dX6_read_32 fl_RX6_43 k0 (okN hN15 k0 (by decide)) rfl rfl e17 ?_
  refine J.aload_n (pc := 35) dX6_read_35 rfl 0 rfl ?_
  obtain ⟨a19, e20, h⟩ := bnd h
  have k21 : (kd a19).1 = 11 := gR_k e20
  refine J.fR (pc := 36) dX6_read_36 fl_RX6_43 k0 (okN hN18 k0 (by decide)) rfl e20 ?_
  obtain ⟨μ23, e22, h⟩ := bnd h
  refine J.callV (Y := mX6_read) (Z := mX1_empty) (pc := 39) (st := []) (k2 := 0) (n2 := 0) dX6_read_39 ml_RX6_62 mo_X1_empty mv_X1_empty rfl (tX1_empty (d + 69) e22 hN18 k21) k21 (okN hN18 k21 (by decide)).1 (okN hN18 k21 (by decide)).2 cq_1 (by decide) rfl rfl (Nat.le_of_ble_eq_true rfl) (by decide) (by decide) (fun v ν hp => ?_) (fun i ν hp => nrm hp.1)
  obtain ⟨rfl, rfl, hN24, hb25⟩ := QEl hp
  show J _ _ _ _ 42 _ ([]) _ _ _ _
  refine J.aload_n (pc := 42) dX6_read_42 rfl 0 rfl ?_
  obtain ⟨μ27, e26, h⟩ := bnd h
  refine J.callV (Y := mX6_read) (Z := mX6_advance) (pc := 43) (st := []) (k2 := 0) (n2 := 0) dX6_read_43 ml_RX6_65 mo_X6_advance mv_X6_advance rfl (tX6_advance (d + 65) e26 hN24 k0) k0 (okN hN24 k0 (by decide)).1 (okN hN24 k0 (by decide)).2 cq_6 (by decide) rfl rfl (Nat.le_of_ble_eq_true rfl) (by decide) (by decide) (fun v ν hp => ?_) (fun i ν hp => nrm hp.1)
  obtain ⟨rfl, rfl, hN28, hb29⟩ := QEl hp
  show J _ _ _ _ 46 _ ([]) _ _ _ _
  refine J.iconst (pc := 46) dX6_read_46 ic_0 ?_
  refine J.istore (pc := 47) ([(4, .int (0 : Int32)), (0, .ref v0), (1, .ref v1), (2, .int v2), (3, .ref v3)]) dX6_read_47 (Nat.le_of_ble_eq_true rfl) rfl ?_
  refine J.pick [1, 0] rfl ?_
  exact (tX6_read_49 d fuel) v0 (0 : Int32) μ27 h hN28 k0
def fX8_drop (v0 : Nat) (μ : Mem) : Option (Mem) :=
  (some (sI μ v0 0 (0 : Int32))).bind fun μ1 =>
  some μ1
set_option maxHeartbeats 4000000 in
theorem tX8_drop {ω : Wd} {l : Launch} (d : Nat) {v0 : Nat} {μ : Mem} {res : Mem} (h : fX8_drop v0 μ = some res) (hN : μ.1 = NN) (k0 : (kd v0).1 = 18) : Ct ω l mX8_drop d [.ref v0] μ 0 0 (PE (.inl none) res True) := by
  refine Ct.of pn_RX8 (Nat.le_of_ble_eq_true rfl) ?_
  show J ω l mX8_drop d 0 [(0, .ref v0)] [] μ 0 0 _
  unfold fX8_drop at h
  refine J.aload_n (pc := 0) dX8_drop_0 rfl 0 rfl ?_
  refine J.iconst (pc := 1) dX8_drop_1 ic_0 ?_
  obtain ⟨μ1, e2, h⟩ := bnd h
  have hN3 : μ1.1 = NN := smN e2 hN
  refine J.qI (pc := 2) dX8_drop_2 fl_RX8_9 k0 (okN hN k0 (by decide)) rfl rfl e2 ?_
  cases h
  exact J.vret (pc := 5) dX8_drop_5 rfl ⟨rfl, rfl, hN3, trivial⟩
def fX10_cellar (v0 : Nat) (v1 : Int32) (μ : Mem) : Option ((Int32 ⊕ Nat) × Mem) :=
  if v1 < 0 then
    some (.inr 1, μ)
  else
    if (μ.2.1 v0 1) < v1 then
      some (.inr 1, μ)
    else
      (gR μ v0 6 16).bind fun a1 =>
      (gR μ v0 0 0).bind fun a4 =>
      (gR μ v0 5 11).bind fun a7 =>
      (fX6_read a1 a4 v1 a7 μ).bind fun (r12, μ11) =>
      (some (sI μ11 v0 1 (0 : Int32))).bind fun μ15 =>
      (gR μ15 v0 6 16).bind fun a18 =>
      (some (sI μ15 v0 2 (μ15.2.1 a18 1))).bind fun μ21 =>
      if r12 = 0 then
        (gR μ21 v0 4 11).bind fun a24 =>
        (gR μ21 v0 5 11).bind fun a27 =>
        (some (sR μ21 v0 4 (some a27))).bind fun μ30 =>
        (some (sR μ30 v0 5 (some a24))).bind fun μ33 =>
        (gR μ33 v0 7 19).bind fun a36 =>
        (gR μ33 v0 4 11).bind fun a39 =>
        (gR μ33 a39 7 19).bind fun a42 =>
        (fX9_copyFrom a36 a42 μ33).bind fun μ46 =>
        (gR μ46 v0 8 10).bind fun a49 =>
        (fX0_drop a49 μ46).bind fun μ53 =>
        (gR μ53 v0 9 18).bind fun a56 =>
        (fX8_drop a56 μ53).bind fun μ60 =>
        (some (sI μ60 v0 10 (0 : Int32))).bind fun μ63 =>
        some (.inl (0 : Int32), μ63)
      else
        (gR μ21 v0 3 0).bind fun a66 =>
        (ldI μ21 a66 (0 : Int32)).bind fun x69 =>
        (stI μ21 a66 (0 : Int32) (x69 + (1 : Int32))).bind fun μ71 =>
        some (.inl r12, μ71)
set_option maxHeartbeats 4000000 in
theorem tX10_cellar {ω : Wd} {l : Launch} (d : Nat) {v0 : Nat} {v1 : Int32} {μ : Mem} {res : (Int32 ⊕ Nat) × Mem} (h : fX10_cellar v0 v1 μ = some res) (hN : μ.1 = NN) (k0 : (kd v0).1 = 20) : Ct ω l mX10_cellar (d + 72) [.ref v0, .int v1] μ 1 6 (PE (oI res.1) res.2 True) := by
  refine Ct.of pn_RX10 (Nat.le_of_ble_eq_true rfl) ?_
  show J ω l mX10_cellar (d + 72) 0 [(0, .ref v0), (1, .int v1)] [] μ 1 6 _
  unfold fX10_cellar at h
  refine J.iload_n (pc := 0) dX10_cellar_0 rfl 1 rfl ?_
  rcases ifc h with ⟨hc, h⟩ | ⟨hc, h⟩
  · refine J.zlt (pc := 1) (tgt := 12) dX10_cellar_1 (by decide) (fun _ => ?_) (fun q => absurd hc q)
    cases h
    exact J.throwA (pc := 12) (j := 1) rfl rfl hN dX10_cellar_12 dX10_cellar_15 dX10_cellar_16 dX10_cellar_18 dX10_cellar_21 rfl (Nat.le_of_ble_eq_true rfl) (Nat.le_of_ble_eq_true rfl) ⟨rfl, rfl, hN, trivial⟩
  · refine J.zlt (pc := 1) (tgt := 12) dX10_cellar_1 (by decide) (fun q => absurd q hc) (fun _ => ?_)
    refine J.iload_n (pc := 4) dX10_cellar_4 rfl 1 rfl ?_
    refine J.aload_n (pc := 5) dX10_cellar_5 rfl 0 rfl ?_
    refine J.fI (pc := 6) dX10_cellar_6 fl_RX10_13 k0 (okN hN k0 (by decide)) (Or.inl rfl) ?_
    rcases ifc h with ⟨hc, h⟩ | ⟨hc, h⟩
    · refine J.cle (pc := 9) (tgt := 22) dX10_cellar_9 (by decide) (fun _ => ?_) (fun q => absurd hc q)
      cases h
      exact J.throwA (pc := 12) (j := 1) rfl rfl hN dX10_cellar_12 dX10_cellar_15 dX10_cellar_16 dX10_cellar_18 dX10_cellar_21 rfl (Nat.le_of_ble_eq_true rfl) (Nat.le_of_ble_eq_true rfl) ⟨rfl, rfl, hN, trivial⟩
    · refine J.cle (pc := 9) (tgt := 22) dX10_cellar_9 (by decide) (fun q => absurd q hc) (fun _ => ?_)
      refine J.aload_n (pc := 22) dX10_cellar_22 rfl 0 rfl ?_
      obtain ⟨a1, e2, h⟩ := bnd h
      have k3 : (kd a1).1 = 16 := gR_k e2
      refine J.fR (pc := 23) dX10_cellar_23 fl_RX10_38 k0 (okN hN k0 (by decide)) rfl e2 ?_
      refine J.aload_n (pc := 26) dX10_cellar_26 rfl 0 rfl ?_
      obtain ⟨a4, e5, h⟩ := bnd h
      have k6 : (kd a4).1 = 0 := gR_k e5
      refine J.fR (pc := 27) dX10_cellar_27 fl_RX10_9 k0 (okN hN k0 (by decide)) rfl e5 ?_
      refine J.iload_n (pc := 30) dX10_cellar_30 rfl 1 rfl ?_
      refine J.aload_n (pc := 31) dX10_cellar_31 rfl 0 rfl ?_
      obtain ⟨a7, e8, h⟩ := bnd h
      have k9 : (kd a7).1 = 11 := gR_k e8
      refine J.fR (pc := 32) dX10_cellar_32 fl_RX10_30 k0 (okN hN k0 (by decide)) rfl e8 ?_
      obtain ⟨⟨r12, μ11⟩, e10, h⟩ := bnd h
      try dsimp only at h
      refine J.callV (Y := mX10_cellar) (Z := mX6_read) (pc := 35) (st := []) (k2 := 1) (n2 := 6) dX10_cellar_35 ml_RX10_124 mo_X6_read mv_X6_read rfl (tX6_read d e10 hN k3 k6 k9) k3 (okN hN k3 (by decide)).1 (okN hN k3 (by decide)).2 cq_6 (by decide) rfl rfl (Nat.le_of_ble_eq_true rfl) (by decide) (by decide) (fun v ν hp => ?_) (fun i ν hp => nrm hp.1)
      obtain ⟨rfl, rfl, hN13, hb14⟩ := QEl hp
      show J _ _ _ _ 38 _ ([.int r12]) _ _ _ _
      refine J.istore_n (pc := 38) ([(2, .int r12), (0, .ref v0), (1, .int v1)]) dX10_cellar_38 rfl (Nat.le_of_ble_eq_true rfl) rfl ?_
      refine J.aload_n (pc := 39) dX10_cellar_39 rfl 1 rfl ?_
      refine J.iconst (pc := 40) dX10_cellar_40 ic_0 ?_
      obtain ⟨μ15, e16, h⟩ := bnd h
      have hN17 : μ15.1 = NN := smN e16 hN13
      refine J.qI (pc := 41) dX10_cellar_41 fl_RX10_13 k0 (okN hN13 k0 (by decide)) rfl rfl e16 ?_
      refine J.aload_n (pc := 44) dX10_cellar_44 rfl 1 rfl ?_
      refine J.aload_n (pc := 45) dX10_cellar_45 rfl 1 rfl ?_
      obtain ⟨a18, e19, h⟩ := bnd h
      have k20 : (kd a18).1 = 16 := gR_k e19
      refine J.fR (pc := 46) dX10_cellar_46 fl_RX10_38 k0 (okN hN17 k0 (by decide)) rfl e19 ?_
      refine J.fI (pc := 49) dX10_cellar_49 fl_RX10_128 k20 (okN hN17 k20 (by decide)) (Or.inl rfl) ?_
      obtain ⟨μ21, e22, h⟩ := bnd h
      have hN23 : μ21.1 = NN := smN e22 hN17
      refine J.qI (pc := 52) dX10_cellar_52 fl_RX10_17 k0 (okN hN17 k0 (by decide)) rfl rfl e22 ?_
      refine J.iload_n (pc := 55) dX10_cellar_55 rfl 0 rfl ?_
      rcases ifc h with ⟨hc, h⟩ | ⟨hc, h⟩
      · refine J.zeq (pc := 56) (tgt := 71) dX10_cellar_56 (by decide) (fun _ => ?_) (fun q => absurd hc q)
        refine J.aload_n (pc := 71) dX10_cellar_71 rfl 1 rfl ?_
        obtain ⟨a24, e25, h⟩ := bnd h
        have k26 : (kd a24).1 = 11 := gR_k e25
        refine J.fR (pc := 72) dX10_cellar_72 fl_RX10_26 k0 (okN hN23 k0 (by decide)) rfl e25 ?_
        refine J.astore_n (pc := 75) ([(3, .ref a24), (2, .int r12), (0, .ref v0), (1, .int v1)]) dX10_cellar_75 rfl (Nat.le_of_ble_eq_true rfl) rfl ?_
        refine J.aload_n (pc := 76) dX10_cellar_76 rfl 2 rfl ?_
        refine J.aload_n (pc := 77) dX10_cellar_77 rfl 2 rfl ?_
        obtain ⟨a27, e28, h⟩ := bnd h
        have k29 : (kd a27).1 = 11 := gR_k e28
        refine J.fR (pc := 78) dX10_cellar_78 fl_RX10_30 k0 (okN hN23 k0 (by decide)) rfl e28 ?_
        obtain ⟨μ30, e31, h⟩ := bnd h
        have hN32 : μ30.1 = NN := smN e31 hN23
        refine J.qR (pc := 81) dX10_cellar_81 fl_RX10_26 k0 (okN hN23 k0 (by decide)) rfl rfl e31 ?_
        refine J.aload_n (pc := 84) dX10_cellar_84 rfl 2 rfl ?_
        refine J.aload_n (pc := 85) dX10_cellar_85 rfl 0 rfl ?_
        obtain ⟨μ33, e34, h⟩ := bnd h
        have hN35 : μ33.1 = NN := smN e34 hN32
        refine J.qR (pc := 86) dX10_cellar_86 fl_RX10_30 k0 (okN hN32 k0 (by decide)) rfl rfl e34 ?_
        refine J.aload_n (pc := 89) dX10_cellar_89 rfl 2 rfl ?_
        obtain ⟨a36, e37, h⟩ := bnd h
        have k38 : (kd a36).1 = 19 := gR_k e37
        refine J.fR (pc := 90) dX10_cellar_90 fl_RX10_45 k0 (okN hN35 k0 (by decide)) rfl e37 ?_
        refine J.aload_n (pc := 93) dX10_cellar_93 rfl 2 rfl ?_
        obtain ⟨a39, e40, h⟩ := bnd h
        have k41 : (kd a39).1 = 11 := gR_k e40
        refine J.fR (pc := 94) dX10_cellar_94 fl_RX10_26 k0 (okN hN35 k0 (by decide)) rfl e40 ?_
        obtain ⟨a42, e43, h⟩ := bnd h
        have k44 : (kd a42).1 = 19 := gR_k e43
        refine J.fR (pc := 97) dX10_cellar_97 fl_RX10_129 k41 (okN hN35 k41 (by decide)) rfl e43 ?_
        obtain ⟨μ46, e45, h⟩ := bnd h
        refine J.callV (Y := mX10_cellar) (Z := mX9_copyFrom) (pc := 100) (st := []) (k2 := 1) (n2 := 6) dX10_cellar_100 ml_RX10_132 mo_X9_copyFrom mv_X9_copyFrom rfl (tX9_copyFrom (d + 70) e45 hN35 k38 k44) k38 (okN hN35 k38 (by decide)).1 (okN hN35 k38 (by decide)).2 cq_9 (by decide) rfl rfl (Nat.le_of_ble_eq_true rfl) (by decide) (by decide) (fun v ν hp => ?_) (fun i ν hp => nrm hp.1)
        obtain ⟨rfl, rfl, hN47, hb48⟩ := QEl hp
        show J _ _ _ _ 103 _ ([]) _ _ _ _
        refine J.aload_n (pc := 103) dX10_cellar_103 rfl 2 rfl ?_
        obtain ⟨a49, e50, h⟩ := bnd h
        have k51 : (kd a49).1 = 10 := gR_k e50
        refine J.fR (pc := 104) dX10_cellar_104 fl_RX10_52 k0 (okN hN47 k0 (by decide)) rfl e50 ?_
        obtain ⟨μ53, e52, h⟩ := bnd h
        refine J.callV (Y := mX10_cellar) (Z := mX0_drop) (pc := 107) (st := []) (k2 := 1) (n2 := 6) dX10_cellar_107 ml_RX10_136 mo_X0_drop mv_X0_drop rfl (tX0_drop (d + 71) e52 hN47 k51) k51 (okN hN47 k51 (by decide)).1 (okN hN47 k51 (by decide)).2 cq_0 (by decide) rfl rfl (Nat.le_of_ble_eq_true rfl) (by decide) (by decide) (fun v ν hp => ?_) (fun i ν hp => nrm hp.1)
        obtain ⟨rfl, rfl, hN54, hb55⟩ := QEl hp
        show J _ _ _ _ 110 _ ([]) _ _ _ _
        refine J.aload_n (pc := 110) dX10_cellar_110 rfl 2 rfl ?_
        obtain ⟨a56, e57, h⟩ := bnd h
        have k58 : (kd a56).1 = 18 := gR_k e57
        refine J.fR (pc := 111) dX10_cellar_111 fl_RX10_59 k0 (okN hN54 k0 (by decide)) rfl e57 ?_
        obtain ⟨μ60, e59, h⟩ := bnd h
        refine J.callV (Y := mX10_cellar) (Z := mX8_drop) (pc := 114) (st := []) (k2 := 1) (n2 := 6) dX10_cellar_114 ml_RX10_139 mo_X8_drop mv_X8_drop rfl (tX8_drop (d + 71) e59 hN54 k58) k58 (okN hN54 k58 (by decide)).1 (okN hN54 k58 (by decide)).2 cq_8 (by decide) rfl rfl (Nat.le_of_ble_eq_true rfl) (by decide) (by decide) (fun v ν hp => ?_) (fun i ν hp => nrm hp.1)
        obtain ⟨rfl, rfl, hN61, hb62⟩ := QEl hp
        show J _ _ _ _ 117 _ ([]) _ _ _ _
        refine J.aload_n (pc := 117) dX10_cellar_117 rfl 2 rfl ?_
        refine J.iconst (pc := 118) dX10_cellar_118 ic_0 ?_
        obtain ⟨μ63, e64, h⟩ := bnd h
        have hN65 : μ63.1 = NN := smN e64 hN61
        refine J.qZ (pc := 119) dX10_cellar_119 fl_RX10_63 k0 (okN hN61 k0 (by decide)) rfl rfl (Or.inl rfl) e64 ?_
        refine J.iconst (pc := 122) dX10_cellar_122 ic_0 ?_
        cases h
        exact J.iret (pc := 123) dX10_cellar_123 rfl ⟨rfl, rfl, hN65, trivial⟩
      · refine J.zeq (pc := 56) (tgt := 71) dX10_cellar_56 (by decide) (fun q => absurd q hc) (fun _ => ?_)
        refine J.aload_n (pc := 59) dX10_cellar_59 rfl 1 rfl ?_
        obtain ⟨a66, e67, h⟩ := bnd h
        have k68 : (kd a66).1 = 0 := gR_k e67
        refine J.fR (pc := 60) dX10_cellar_60 fl_RX10_20 k0 (okN hN23 k0 (by decide)) rfl e67 ?_
        refine J.iconst (pc := 63) dX10_cellar_63 ic_0 ?_
        refine J.dup2 (pc := 64) dX10_cellar_64 rfl rfl ?_
        obtain ⟨x69, e70, h⟩ := bnd h
        refine J.aI (pc := 65) dX10_cellar_65 k68 (okN hN23 k68 (by decide)) e70 ?_
        refine J.iconst (pc := 66) dX10_cellar_66 ic_1 ?_
        refine J.iadd (pc := 67) dX10_cellar_67 ?_
        obtain ⟨μ71, e72, h⟩ := bnd h
        have hN73 : μ71.1 = NN := stI_N e72 hN23
        refine J.wI (pc := 68) dX10_cellar_68 k68 (okN hN23 k68 (by decide)) e72 ?_
        refine J.iload_n (pc := 69) dX10_cellar_69 rfl 0 rfl ?_
        cases h
        exact J.iret (pc := 70) dX10_cellar_70 rfl ⟨rfl, rfl, hN73, trivial⟩
def fL_cellar (v0 : Nat) (v1 : Int32) (v2 : Nat) (μ : Mem) : Option (Int32 × Mem) :=
  (fX10_cellar v0 v1 μ).bind fun
  | (.inl r3, μ2) =>
    (stL μ2 v2 (0 : Int32) (r3.toInt64)).bind fun μ6 =>
    some ((0 : Int32), μ6)
  | (.inr i9, μ2) =>
    if i9 = 1 then some ((1 : Int32), μ2) else
    none
set_option maxHeartbeats 4000000 in
theorem tL_cellar {ω : Wd} {l : Launch} (d : Nat) {v0 : Nat} {v1 : Int32} {v2 : Nat} {μ : Mem} {res : Int32 × Mem} (h : fL_cellar v0 v1 v2 μ = some res) (hN : μ.1 = NN) (k0 : (kd v0).1 = 20) (k2 : (kd v2).1 = 1) : Ct ω l mL_cellar (d + 73) [.ref v0, .int v1, .ref v2] μ 1 6 (PE (.inl (some (.int res.1))) res.2 True) := by
  refine Ct.of pn_RL (Nat.le_of_ble_eq_true rfl) ?_
  show J ω l mL_cellar (d + 73) 0 [(0, .ref v0), (1, .int v1), (2, .ref v2)] [] μ 1 6 _
  unfold fL_cellar at h
  refine J.aload_n (pc := 0) dL_cellar_0 rfl 2 rfl ?_
  refine J.iconst (pc := 1) dL_cellar_1 ic_0 ?_
  refine J.aload_n (pc := 2) dL_cellar_2 rfl 0 rfl ?_
  refine J.iload_n (pc := 3) dL_cellar_3 rfl 1 rfl ?_
  obtain ⟨⟨q, μ2⟩, e1, h⟩ := bnd h
  rcases q with r3 | i9
  · try dsimp only at h
    refine J.callV (Y := mL_cellar) (Z := mX10_cellar) (pc := 4) (st := [.int (0 : Int32), .ref v2]) (k2 := 0) (n2 := 0) dL_cellar_4 ml_RL_7 mo_X10_cellar mv_X10_cellar rfl (tX10_cellar d e1 hN k0) k0 (okN hN k0 (by decide)).1 (okN hN k0 (by decide)).2 cq_10 (by decide) rfl rfl (Nat.le_of_ble_eq_true rfl) (by decide) (by decide) (fun v ν hp => ?_) (fun i ν hp => nrm hp.1)
    obtain ⟨rfl, rfl, hN4, hb5⟩ := QEl hp
    show J _ _ _ _ 7 _ ([.int r3, .int (0 : Int32), .ref v2]) _ _ _ _
    refine J.i2l (pc := 7) dL_cellar_7 ?_
    obtain ⟨μ6, e7, h⟩ := bnd h
    have hN8 : μ6.1 = NN := stL_N e7 hN4
    refine J.wL (pc := 8) dL_cellar_8 k2 (okN hN4 k2 (by decide)) e7 ?_
    refine J.goto (pc := 9) (tgt := 15) dL_cellar_9 (by decide) ?_
    refine J.iconst (pc := 15) dL_cellar_15 ic_0 ?_
    cases h
    exact J.iret (pc := 16) dL_cellar_16 rfl ⟨rfl, rfl, hN8, trivial⟩
  · try dsimp only at h
    refine J.callV (Y := mL_cellar) (Z := mX10_cellar) (pc := 4) (st := [.int (0 : Int32), .ref v2]) (k2 := 0) (n2 := 0) dL_cellar_4 ml_RL_7 mo_X10_cellar mv_X10_cellar rfl (tX10_cellar d e1 hN k0) k0 (okN hN k0 (by decide)).1 (okN hN k0 (by decide)).2 cq_10 (by decide) rfl rfl (Nat.le_of_ble_eq_true rfl) (by decide) (by decide) (fun v ν hp => nlm hp.1) (fun i ν hp => ?_)
    obtain ⟨rfl, rfl, hN9, -⟩ := QEr hp
    rcases ifc h with ⟨hc, h⟩ | ⟨hc, h⟩
    · subst hc
      cases h
      exact JX.catch1 (i := 1) (by decide) rfl rfl (Nat.le_of_ble_eq_true rfl) (Nat.le_of_ble_eq_true rfl) (Or.inr ⟨3, Nat.le_of_ble_eq_true rfl, rfl, dL_cellar_12⟩) dL_cellar_13 ic_1 dL_cellar_14 rfl ⟨rfl, rfl, hN9, trivial⟩
    cases h
def fX10_inside (v0 : Nat) (v1 : Int32) (μ : Mem) : Option ((Int32 ⊕ Nat)) :=
  if v1 < 0 then
    some (.inr 0)
  else
    (gR μ v0 4 11).bind fun a1 =>
    if (v1 / (10 : Int32)) < (μ.2.1 a1 0) then
      (gR μ v0 4 11).bind fun a4 =>
      (gR μ a4 3 0).bind fun a7 =>
      (ldI μ a7 (v1 / (10 : Int32))).bind fun x10 =>
      if (v1 - v1 / (10 : Int32) * (10 : Int32)) < x10 then
        some (.inl (((v1 / (10 : Int32)) * (8 : Int32)) + (v1 - v1 / (10 : Int32) * (10 : Int32))))
      else
        some (.inr 0)
    else
      some (.inr 0)
set_option maxHeartbeats 4000000 in
theorem tX10_inside {ω : Wd} {l : Launch} (d : Nat) {v0 : Nat} {v1 : Int32} {μ : Mem} {res : (Int32 ⊕ Nat)} (h : fX10_inside v0 v1 μ = some res) (hN : μ.1 = NN) (k0 : (kd v0).1 = 20) : Ct ω l mX10_inside (d + 8) [.ref v0, .int v1] μ 1 6 (PE (oI res) μ True) := by
  refine Ct.of pn_RX10 (Nat.le_of_ble_eq_true rfl) ?_
  show J ω l mX10_inside (d + 8) 0 [(0, .ref v0), (1, .int v1)] [] μ 1 6 _
  unfold fX10_inside at h
  refine J.iload_n (pc := 0) dX10_inside_0 rfl 1 rfl ?_
  rcases ifc h with ⟨hc, h⟩ | ⟨hc, h⟩
  · refine J.zlt (pc := 1) (tgt := 37) dX10_inside_1 (by decide) (fun _ => ?_) (fun q => absurd hc q)
    cases h
    exact J.throwN (pc := 37) (j := 12) rfl rfl hN dX10_inside_37 dX10_inside_40 dX10_inside_41 dX10_inside_44 dX10_inside_47 rfl (Nat.le_of_ble_eq_true rfl) (Nat.le_of_ble_eq_true rfl) ⟨rfl, rfl, hN, trivial⟩
  · refine J.zlt (pc := 1) (tgt := 37) dX10_inside_1 (by decide) (fun q => absurd q hc) (fun _ => ?_)
    refine J.iload_n (pc := 4) dX10_inside_4 rfl 1 rfl ?_
    refine J.bipush (pc := 5) dX10_inside_5 ib_10 ?_
    refine J.idiv (pc := 7) dX10_inside_7 (by decide) ?_
    refine J.aload_n (pc := 8) dX10_inside_8 rfl 0 rfl ?_
    obtain ⟨a1, e2, h⟩ := bnd h
    have k3 : (kd a1).1 = 11 := gR_k e2
    refine J.fR (pc := 9) dX10_inside_9 fl_RX10_26 k0 (okN hN k0 (by decide)) rfl e2 ?_
    refine J.fI (pc := 12) dX10_inside_12 fl_RX10_144 k3 (okN hN k3 (by decide)) (Or.inl rfl) ?_
    rcases ifc h with ⟨hc, h⟩ | ⟨hc, h⟩
    · refine J.cge (pc := 15) (tgt := 37) dX10_inside_15 (by decide) (fun _ => ?_) (fun q => absurd hc q)
      refine J.iload_n (pc := 18) dX10_inside_18 rfl 1 rfl ?_
      refine J.bipush (pc := 19) dX10_inside_19 ib_10 ?_
      refine J.irem (pc := 21) dX10_inside_21 (by decide) ?_
      refine J.aload_n (pc := 22) dX10_inside_22 rfl 0 rfl ?_
      obtain ⟨a4, e5, h⟩ := bnd h
      have k6 : (kd a4).1 = 11 := gR_k e5
      refine J.fR (pc := 23) dX10_inside_23 fl_RX10_26 k0 (okN hN k0 (by decide)) rfl e5 ?_
      obtain ⟨a7, e8, h⟩ := bnd h
      have k9 : (kd a7).1 = 0 := gR_k e8
      refine J.fR (pc := 26) dX10_inside_26 fl_RX10_188 k6 (okN hN k6 (by decide)) rfl e8 ?_
      refine J.iload_n (pc := 29) dX10_inside_29 rfl 1 rfl ?_
      refine J.bipush (pc := 30) dX10_inside_30 ib_10 ?_
      refine J.idiv (pc := 32) dX10_inside_32 (by decide) ?_
      obtain ⟨x10, e11, h⟩ := bnd h
      refine J.aI (pc := 33) dX10_inside_33 k9 (okN hN k9 (by decide)) e11 ?_
      rcases ifc h with ⟨hc, h⟩ | ⟨hc, h⟩
      · refine J.clt (pc := 34) (tgt := 48) dX10_inside_34 (by decide) (fun _ => ?_) (fun q => absurd hc q)
        refine J.iload_n (pc := 48) dX10_inside_48 rfl 1 rfl ?_
        refine J.bipush (pc := 49) dX10_inside_49 ib_10 ?_
        refine J.idiv (pc := 51) dX10_inside_51 (by decide) ?_
        refine J.bipush (pc := 52) dX10_inside_52 ib_8 ?_
        refine J.imul (pc := 54) dX10_inside_54 ?_
        refine J.iload_n (pc := 55) dX10_inside_55 rfl 1 rfl ?_
        refine J.bipush (pc := 56) dX10_inside_56 ib_10 ?_
        refine J.irem (pc := 58) dX10_inside_58 (by decide) ?_
        refine J.iadd (pc := 59) dX10_inside_59 ?_
        cases h
        exact J.iret (pc := 60) dX10_inside_60 rfl ⟨rfl, rfl, hN, trivial⟩
      · refine J.clt (pc := 34) (tgt := 48) dX10_inside_34 (by decide) (fun q => absurd q hc) (fun _ => ?_)
        cases h
        exact J.throwN (pc := 37) (j := 12) rfl rfl hN dX10_inside_37 dX10_inside_40 dX10_inside_41 dX10_inside_44 dX10_inside_47 rfl (Nat.le_of_ble_eq_true rfl) (Nat.le_of_ble_eq_true rfl) ⟨rfl, rfl, hN, trivial⟩
    · refine J.cge (pc := 15) (tgt := 37) dX10_inside_15 (by decide) (fun q => absurd q hc) (fun _ => ?_)
      cases h
      exact J.throwN (pc := 37) (j := 12) rfl rfl hN dX10_inside_37 dX10_inside_40 dX10_inside_41 dX10_inside_44 dX10_inside_47 rfl (Nat.le_of_ble_eq_true rfl) (Nat.le_of_ble_eq_true rfl) ⟨rfl, rfl, hN, trivial⟩
def fX10_clear_23  : Nat → Nat → Int32 → Int32 → Mem → Option ((Int32 ⊕ Nat) × Mem)
  | 0, _, _, _, _ => none
  | n + 1, v0, v2, v3, μ =>
    if (60 : Int32) < v3 then
      some (.inl (-1 : Int32), μ)
    else
      (gR μ v0 14 12).bind fun a1 =>
      (gR μ a1 0 19).bind fun a4 =>
      (gR μ a4 3 0).bind fun a7 =>
      (ldI μ a7 v2).bind fun x10 =>
      if x10 = 0 then
        some (.inl v3, μ)
      else
        (gR μ v0 14 12).bind fun a12 =>
        (fX2_pass a12 (1 : Int32) μ).bind fun μ16 =>
        (fX10_clear_23 n) v0 v2 (v3 + (1 : Int32)) μ16
set_option maxHeartbeats 4000000 in
theorem tX10_clear_23 {ω : Wd} {l : Launch} (d : Nat) {res : (Int32 ⊕ Nat) × Mem} : ∀ n : Nat, ∀ (v0 : Nat) (v2 : Int32) (v3 : Int32) (μ : Mem), fX10_clear_23 n v0 v2 v3 μ = some res → μ.1 = NN → (kd v0).1 = 20 → J ω l mX10_clear (d + 9) 23 [(0, .ref v0), (2, .int v2), (3, .int v3)] [] μ 0 0 (PE (oI res.1) res.2 True) := by
  intro n
  induction n with
  | zero =>
    intro v0 v2 v3 μ h hN k0
    have h9 : (none : Option ((Int32 ⊕ Nat) × Mem)) = some res := h
    cases h9
  | succ n ih =>
    intro v0 v2 v3 μ h hN k0
    unfold fX10_clear_23 at h
    refine J.iload_n (pc := 23) dX10_clear_23 rfl 2 rfl ?_
    refine J.bipush (pc := 24) dX10_clear_24 ib_60 ?_
    rcases ifc h with ⟨hc, h⟩ | ⟨hc, h⟩
    · refine J.cgt (pc := 26) (tgt := 60) dX10_clear_26 (by decide) (fun _ => ?_) (fun q => absurd hc q)
      refine J.iconst (pc := 60) dX10_clear_60 ic_m1 ?_
      cases h
      exact J.iret (pc := 61) dX10_clear_61 rfl ⟨rfl, rfl, hN, trivial⟩
    · refine J.cgt (pc := 26) (tgt := 60) dX10_clear_26 (by decide) (fun q => absurd q hc) (fun _ => ?_)
      refine J.aload_n (pc := 29) dX10_clear_29 rfl 0 rfl ?_
      obtain ⟨a1, e2, h⟩ := bnd h
      have k3 : (kd a1).1 = 12 := gR_k e2
      refine J.fR (pc := 30) dX10_clear_30 fl_RX10_79 k0 (okN hN k0 (by decide)) rfl e2 ?_
      obtain ⟨a4, e5, h⟩ := bnd h
      have k6 : (kd a4).1 = 19 := gR_k e5
      refine J.fR (pc := 33) dX10_clear_33 fl_RX10_242 k3 (okN hN k3 (by decide)) rfl e5 ?_
      obtain ⟨a7, e8, h⟩ := bnd h
      have k9 : (kd a7).1 = 0 := gR_k e8
      refine J.fR (pc := 36) dX10_clear_36 fl_RX10_205 k6 (okN hN k6 (by decide)) rfl e8 ?_
      refine J.iload_n (pc := 39) dX10_clear_39 rfl 1 rfl ?_
      obtain ⟨x10, e11, h⟩ := bnd h
      refine J.aI (pc := 40) dX10_clear_40 k9 (okN hN k9 (by decide)) e11 ?_
      rcases ifc h with ⟨hc, h⟩ | ⟨hc, h⟩
      · refine J.zne (pc := 41) (tgt := 46) dX10_clear_41 (by decide) (fun _ => ?_) (fun q => absurd hc q)
        refine J.iload_n (pc := 44) dX10_clear_44 rfl 2 rfl ?_
        cases h
        exact J.iret (pc := 45) dX10_clear_45 rfl ⟨rfl, rfl, hN, trivial⟩
      · refine J.zne (pc := 41) (tgt := 46) dX10_clear_41 (by decide) (fun q => absurd q hc) (fun _ => ?_)
        refine J.aload_n (pc := 46) dX10_clear_46 rfl 0 rfl ?_
        obtain ⟨a12, e13, h⟩ := bnd h
        have k14 : (kd a12).1 = 12 := gR_k e13
        refine J.fR (pc := 47) dX10_clear_47 fl_RX10_79 k0 (okN hN k0 (by decide)) rfl e13 ?_
        refine J.iconst (pc := 50) dX10_clear_50 ic_1 ?_
        obtain ⟨μ16, e15, h⟩ := bnd h
        refine J.callV (Y := mX10_clear) (Z := mX2_pass) (pc := 51) (st := []) (k2 := 0) (n2 := 0) dX10_clear_51 ml_RX10_268 mo_X2_pass mv_X2_pass rfl (tX2_pass (d + 4) e15 hN k14) k14 (okN hN k14 (by decide)).1 (okN hN k14 (by decide)).2 cq_2 (by decide) rfl rfl (Nat.le_of_ble_eq_true rfl) (by decide) (by decide) (fun v ν hp => ?_) (fun i ν hp => nrm hp.1)
        obtain ⟨rfl, rfl, hN17, hb18⟩ := QEl hp
        show J _ _ _ _ 54 _ ([]) _ _ _ _
        refine J.iinc (pc := 54) (j := 2) ([(3, .int (v3 + (1 : Int32))), (0, .ref v0), (2, .int v2)]) dX10_clear_54 rfl (iincv ic_1) (Nat.le_of_ble_eq_true rfl) rfl ?_
        refine J.goto (pc := 57) (tgt := 23) dX10_clear_57 (by decide) ?_
        refine J.pick [1, 2, 0] rfl ?_
        exact ih v0 v2 (v3 + (1 : Int32)) μ16 h hN17 k0
def fX10_clear (v0 : Nat) (v1 : Int32) (μ : Mem) : Option ((Int32 ⊕ Nat) × Mem) :=
  (fX10_inside v0 v1 μ).bind fun
  | .inl r2 =>
    (gR μ v0 14 12).bind fun a5 =>
    (gR μ v0 4 11).bind fun a8 =>
    (gR μ v0 7 19).bind fun a11 =>
    (fX2_begin a5 a8 a11 μ).bind fun μ15 =>
    (fX10_clear_23 fuel) v0 r2 (0 : Int32) μ15
  | .inr i18 =>
    some (.inr i18, μ)
set_option maxHeartbeats 4000000 in
theorem tX10_clear {ω : Wd} {l : Launch} (d : Nat) {v0 : Nat} {v1 : Int32} {μ : Mem} {res : (Int32 ⊕ Nat) × Mem} (h : fX10_clear v0 v1 μ = some res) (hN : μ.1 = NN) (k0 : (kd v0).1 = 20) : Ct ω l mX10_clear (d + 9) [.ref v0, .int v1] μ 1 6 (PE (oI res.1) res.2 True) := by
  refine Ct.of pn_RX10 (Nat.le_of_ble_eq_true rfl) ?_
  show J ω l mX10_clear (d + 9) 0 [(0, .ref v0), (1, .int v1)] [] μ 1 6 _
  unfold fX10_clear at h
  refine J.aload_n (pc := 0) dX10_clear_0 rfl 0 rfl ?_
  refine J.iload_n (pc := 1) dX10_clear_1 rfl 1 rfl ?_
  obtain ⟨q, e1, h⟩ := bnd h
  rcases q with r2 | i18
  · try dsimp only at h
    refine J.callV (Y := mX10_clear) (Z := mX10_inside) (pc := 2) (st := []) (k2 := 0) (n2 := 0) dX10_clear_2 ml_RX10_233 mo_X10_inside mv_X10_inside rfl (tX10_inside d e1 hN k0) k0 (okN hN k0 (by decide)).1 (okN hN k0 (by decide)).2 cq_10 (by decide) rfl rfl (Nat.le_of_ble_eq_true rfl) (by decide) (by decide) (fun v ν hp => ?_) (fun i ν hp => nrm hp.1)
    obtain ⟨rfl, rfl, hN3, hb4⟩ := QEl hp
    show J _ _ _ _ 5 _ ([.int r2]) _ _ _ _
    refine J.istore_n (pc := 5) ([(2, .int r2), (0, .ref v0), (1, .int v1)]) dX10_clear_5 rfl (Nat.le_of_ble_eq_true rfl) rfl ?_
    refine J.aload_n (pc := 6) dX10_clear_6 rfl 1 rfl ?_
    obtain ⟨a5, e6, h⟩ := bnd h
    have k7 : (kd a5).1 = 12 := gR_k e6
    refine J.fR (pc := 7) dX10_clear_7 fl_RX10_79 k0 (okN hN3 k0 (by decide)) rfl e6 ?_
    refine J.aload_n (pc := 10) dX10_clear_10 rfl 1 rfl ?_
    obtain ⟨a8, e9, h⟩ := bnd h
    have k10 : (kd a8).1 = 11 := gR_k e9
    refine J.fR (pc := 11) dX10_clear_11 fl_RX10_26 k0 (okN hN3 k0 (by decide)) rfl e9 ?_
    refine J.aload_n (pc := 14) dX10_clear_14 rfl 1 rfl ?_
    obtain ⟨a11, e12, h⟩ := bnd h
    have k13 : (kd a11).1 = 19 := gR_k e12
    refine J.fR (pc := 15) dX10_clear_15 fl_RX10_45 k0 (okN hN3 k0 (by decide)) rfl e12 ?_
    obtain ⟨μ15, e14, h⟩ := bnd h
    refine J.callV (Y := mX10_clear) (Z := mX2_begin) (pc := 18) (st := []) (k2 := 0) (n2 := 0) dX10_clear_18 ml_RX10_264 mo_X2_begin mv_X2_begin rfl (tX2_begin (d + 6) e14 hN3 k7 k10 k13) k7 (okN hN3 k7 (by decide)).1 (okN hN3 k7 (by decide)).2 cq_2 (by decide) rfl rfl (Nat.le_of_ble_eq_true rfl) (by decide) (by decide) (fun v ν hp => ?_) (fun i ν hp => nrm hp.1)
    obtain ⟨rfl, rfl, hN16, hb17⟩ := QEl hp
    show J _ _ _ _ 21 _ ([]) _ _ _ _
    refine J.iconst (pc := 21) dX10_clear_21 ic_0 ?_
    refine J.istore_n (pc := 22) ([(3, .int (0 : Int32)), (2, .int r2), (0, .ref v0), (1, .int v1)]) dX10_clear_22 rfl (Nat.le_of_ble_eq_true rfl) rfl ?_
    refine J.pick [2, 1, 0] rfl ?_
    exact (tX10_clear_23 d fuel) v0 r2 (0 : Int32) μ15 h hN16 k0
  · try dsimp only at h
    refine J.callV (Y := mX10_clear) (Z := mX10_inside) (pc := 2) (st := []) (k2 := 0) (n2 := 0) dX10_clear_2 ml_RX10_233 mo_X10_inside mv_X10_inside rfl (tX10_inside d e1 hN k0) k0 (okN hN k0 (by decide)).1 (okN hN k0 (by decide)).2 cq_10 (by decide) rfl rfl (Nat.le_of_ble_eq_true rfl) (by decide) (by decide) (fun v ν hp => nlm hp.1) (fun i ν hp => ?_)
    obtain ⟨rfl, rfl, hN9, -⟩ := QEr hp
    cases h
    exact JX.out rfl ⟨rfl, rfl, hN9, trivial⟩
