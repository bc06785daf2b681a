def fX11_send (v0 : Nat) (v1 : Int32) (v2 : Int32) (μ : Mem) : Option (Int32 × Mem) :=
  (some (sI μ v0 0 (0 : Int32))).bind fun μ1 =>
  (fX11_isPerson v0 v1 μ1).bind fun (r6, μ5) =>
  if r6 = 0 then
    some ((0 : Int32), μ5)
  else
    if v2 = (-1 : Int32) then
      if (μ5.2.1 v0 0) = 0 then
        (gR μ5 v0 34 0).bind fun a9 =>
        (ldI μ5 a9 ((61 : Int32) + v1)).bind fun x12 =>
        if x12 = (-1 : Int32) then
          (fX11_refuses v0 (1 : Int32) μ5).bind fun (r16, μ15) =>
          some ((r16 - (1 : Int32)), μ15)
        else
          (fX11_keeps v0 μ5).bind fun μ20 =>
          (gR μ20 v0 34 0).bind fun a23 =>
          (stI μ20 a23 ((61 : Int32) + v1) (-1 : Int32)).bind fun μ26 =>
          some ((fX11_toldAs x12), μ26)
      else
        some ((0 : Int32), μ5)
    else
      (fX11_placeOf v0 v2 μ5).bind fun (r34, μ33) =>
      if (μ33.2.1 v0 0) = 0 then
        (gR μ33 v0 34 0).bind fun a37 =>
        (ldI μ33 a37 ((61 : Int32) + v1)).bind fun x40 =>
        if x40 = r34 then
          (fX11_refuses v0 (1 : Int32) μ33).bind fun (r44, μ43) =>
          some ((r44 - (1 : Int32)), μ43)
        else
          (fX11_keeps v0 μ33).bind fun μ48 =>
          (gR μ48 v0 34 0).bind fun a51 =>
          (stI μ48 a51 ((61 : Int32) + v1) r34).bind fun μ54 =>
          some ((fX11_toldAs x40), μ54)
      else
        some ((0 : Int32), μ33)
set_option maxHeartbeats 4000000 in
theorem tX11_send {ω : Wd} {l : Launch} (d : Nat) {v0 : Nat} {v1 : Int32} {v2 : Int32} {μ : Mem} {res : Int32 × Mem} (h : fX11_send v0 v1 v2 μ = some res) (hN : μ.1 = NN) (k0 : (kd v0).1 = 21) : Ct ω l mX11_send (d + 2) [.ref v0, .int v1, .int v2] μ 0 0 (PE (.inl (some (.int res.1))) res.2 True) := by
  refine Ct.of pn_RX11 (Nat.le_of_ble_eq_true rfl) ?_
  show J ω l mX11_send (d + 2) 0 [(0, .ref v0), (1, .int v1), (2, .int v2)] [] μ 0 0 _
  unfold fX11_send at h
  refine J.aload_n (pc := 0) dX11_send_0 rfl 0 rfl ?_
  refine J.iconst (pc := 1) dX11_send_1 ic_0 ?_
  obtain ⟨μ1, e2, h⟩ := bnd h
  have hN3 : μ1.1 = NN := smN e2 hN
  refine J.qI (pc := 2) dX11_send_2 fl_RX11_99 k0 (okN hN k0 (by decide)) rfl rfl e2 ?_
  refine J.aload_n (pc := 5) dX11_send_5 rfl 0 rfl ?_
  refine J.iload_n (pc := 6) dX11_send_6 rfl 1 rfl ?_
  obtain ⟨⟨r6, μ5⟩, e4, h⟩ := bnd h
  try dsimp only at h
  refine J.callV (Y := mX11_send) (Z := mX11_isPerson) (pc := 7) (st := []) (k2 := 0) (n2 := 0) dX11_send_7 ml_RX11_368 mo_X11_isPerson mv_X11_isPerson rfl (tX11_isPerson d e4 hN3 k0) k0 (okN hN3 k0 (by decide)).1 (okN hN3 k0 (by decide)).2 cq_11 (by decide) rfl rfl (Nat.le_of_ble_eq_true rfl) (by decide) (by decide) (fun v ν hp => ?_) (fun i ν hp => nrm hp.1)
  obtain ⟨rfl, rfl, hN7, hb8⟩ := QEl hp
  show J _ _ _ _ 10 _ ([.int r6]) _ _ _ _
  rcases ifc h with ⟨hc, h⟩ | ⟨hc, h⟩
  · refine J.zne (pc := 10) (tgt := 15) dX11_send_10 (by decide) (fun _ => ?_) (fun q => absurd hc q)
    refine J.iconst (pc := 13) dX11_send_13 ic_0 ?_
    cases h
    exact J.iret (pc := 14) dX11_send_14 rfl ⟨rfl, rfl, hN7, trivial⟩
  · refine J.zne (pc := 10) (tgt := 15) dX11_send_10 (by decide) (fun q => absurd q hc) (fun _ => ?_)
    refine J.iload_n (pc := 15) dX11_send_15 rfl 2 rfl ?_
    refine J.iconst (pc := 16) dX11_send_16 ic_m1 ?_
    rcases ifc h with ⟨hc, h⟩ | ⟨hc, h⟩
    · refine J.cne (pc := 17) (tgt := 24) dX11_send_17 (by decide) (fun _ => ?_) (fun q => absurd hc q)
      refine J.iconst (pc := 20) dX11_send_20 ic_m1 ?_
      refine J.goto (pc := 21) (tgt := 29) dX11_send_21 (by decide) ?_
      refine J.istore_n (pc := 29) ([(3, .int (-1 : Int32)), (0, .ref v0), (1, .int v1), (2, .int v2)]) dX11_send_29 rfl (Nat.le_of_ble_eq_true rfl) rfl ?_
      refine J.aload_n (pc := 30) dX11_send_30 rfl 1 rfl ?_
      refine J.fI (pc := 31) dX11_send_31 fl_RX11_99 k0 (okN hN7 k0 (by decide)) (Or.inl rfl) ?_
      rcases ifc h with ⟨hc, h⟩ | ⟨hc, h⟩
      · refine J.zeq (pc := 34) (tgt := 39) dX11_send_34 (by decide) (fun _ => ?_) (fun q => absurd hc q)
        refine J.aload_n (pc := 39) dX11_send_39 rfl 1 rfl ?_
        obtain ⟨a9, e10, h⟩ := bnd h
        have k11 : (kd a9).1 = 0 := gR_k e10
        refine J.fR (pc := 40) dX11_send_40 fl_RX11_48 k0 (okN hN7 k0 (by decide)) rfl e10 ?_
        refine J.bipush (pc := 43) dX11_send_43 ib_61 ?_
        refine J.iload_n (pc := 45) dX11_send_45 rfl 2 rfl ?_
        refine J.iadd (pc := 46) dX11_send_46 ?_
        obtain ⟨x12, e13, h⟩ := bnd h
        refine J.aI (pc := 47) dX11_send_47 k11 (okN hN7 k11 (by decide)) e13 ?_
        refine J.istore (pc := 48) ([(4, .int x12), (3, .int (-1 : Int32)), (0, .ref v0), (1, .int v1), (2, .int v2)]) dX11_send_48 (Nat.le_of_ble_eq_true rfl) rfl ?_
        refine J.iload (pc := 50) dX11_send_50 0 rfl ?_
        refine J.iload_n (pc := 52) dX11_send_52 rfl 1 rfl ?_
        rcases ifc h with ⟨hc, h⟩ | ⟨hc, h⟩
        · refine J.cne (pc := 53) (tgt := 64) dX11_send_53 (by decide) (fun _ => ?_) (fun q => absurd hc q)
          refine J.aload_n (pc := 56) dX11_send_56 rfl 2 rfl ?_
          refine J.iconst (pc := 57) dX11_send_57 ic_1 ?_
          obtain ⟨⟨r16, μ15⟩, e14, h⟩ := bnd h
          try dsimp only at h
          refine J.callV (Y := mX11_send) (Z := mX11_refuses) (pc := 58) (st := []) (k2 := 0) (n2 := 0) dX11_send_58 ml_RX11_383 mo_X11_refuses mv_X11_refuses rfl (tX11_refuses (d + 1) e14 hN7 k0) k0 (okN hN7 k0 (by decide)).1 (okN hN7 k0 (by decide)).2 cq_11 (by decide) rfl rfl (Nat.le_of_ble_eq_true rfl) (by decide) (by decide) (fun v ν hp => ?_) (fun i ν hp => nrm hp.1)
          obtain ⟨rfl, rfl, hN17, hb18⟩ := QEl hp
          show J _ _ _ _ 61 _ ([.int r16]) _ _ _ _
          refine J.iconst (pc := 61) dX11_send_61 ic_1 ?_
          refine J.isub (pc := 62) dX11_send_62 ?_
          cases h
          exact J.iret (pc := 63) dX11_send_63 rfl ⟨rfl, rfl, hN17, trivial⟩
        · refine J.cne (pc := 53) (tgt := 64) dX11_send_53 (by decide) (fun q => absurd q hc) (fun _ => ?_)
          refine J.aload_n (pc := 64) dX11_send_64 rfl 2 rfl ?_
          obtain ⟨μ20, e19, h⟩ := bnd h
          refine J.callV (Y := mX11_send) (Z := mX11_keeps) (pc := 65) (st := []) (k2 := 0) (n2 := 0) dX11_send_65 ml_RX11_386 mo_X11_keeps mv_X11_keeps rfl (tX11_keeps (d + 1) e19 hN7 k0) k0 (okN hN7 k0 (by decide)).1 (okN hN7 k0 (by decide)).2 cq_11 (by decide) rfl rfl (Nat.le_of_ble_eq_true rfl) (by decide) (by decide) (fun v ν hp => ?_) (fun i ν hp => nrm hp.1)
          obtain ⟨rfl, rfl, hN21, hb22⟩ := QEl hp
          show J _ _ _ _ 68 _ ([]) _ _ _ _
          refine J.aload_n (pc := 68) dX11_send_68 rfl 2 rfl ?_
          obtain ⟨a23, e24, h⟩ := bnd h
          have k25 : (kd a23).1 = 0 := gR_k e24
          refine J.fR (pc := 69) dX11_send_69 fl_RX11_48 k0 (okN hN21 k0 (by decide)) rfl e24 ?_
          refine J.bipush (pc := 72) dX11_send_72 ib_61 ?_
          refine J.iload_n (pc := 74) dX11_send_74 rfl 3 rfl ?_
          refine J.iadd (pc := 75) dX11_send_75 ?_
          refine J.iload_n (pc := 76) dX11_send_76 rfl 1 rfl ?_
          obtain ⟨μ26, e27, h⟩ := bnd h
          have hN28 : μ26.1 = NN := stI_N e27 hN21
          refine J.wI (pc := 77) dX11_send_77 k25 (okN hN21 k25 (by decide)) e27 ?_
          refine J.iload (pc := 78) dX11_send_78 0 rfl ?_
          refine J.callS (Y := mX11_send) (Z := mX11_toldAs) (pc := 80) (st := []) (k2 := 0) (n2 := 0) dX11_send_80 ml_RX11_371 mo_X11_toldAs ms_X11_toldAs rfl (tX11_toldAs (d + 1) x12 μ26 hN28 ) rfl rfl (Nat.le_of_ble_eq_true rfl) (by decide) (by decide) (fun v ν hp => ?_) (fun i ν hp => nrm hp.1)
          obtain ⟨rfl, rfl, hN30, hb31⟩ := QEl hp
          show J _ _ _ _ 83 _ ([.int (fX11_toldAs x12)]) _ _ _ _
          cases h
          exact J.iret (pc := 83) dX11_send_83 rfl ⟨rfl, rfl, hN30, trivial⟩
      · refine J.zeq (pc := 34) (tgt := 39) dX11_send_34 (by decide) (fun q => absurd q hc) (fun _ => ?_)
        refine J.iconst (pc := 37) dX11_send_37 ic_0 ?_
        cases h
        exact J.iret (pc := 38) dX11_send_38 rfl ⟨rfl, rfl, hN7, trivial⟩
    · refine J.cne (pc := 17) (tgt := 24) dX11_send_17 (by decide) (fun q => absurd q hc) (fun _ => ?_)
      refine J.aload_n (pc := 24) dX11_send_24 rfl 0 rfl ?_
      refine J.iload_n (pc := 25) dX11_send_25 rfl 2 rfl ?_
      obtain ⟨⟨r34, μ33⟩, e32, h⟩ := bnd h
      try dsimp only at h
      refine J.callV (Y := mX11_send) (Z := mX11_placeOf) (pc := 26) (st := []) (k2 := 0) (n2 := 0) dX11_send_26 ml_RX11_380 mo_X11_placeOf mv_X11_placeOf rfl (tX11_placeOf d e32 hN7 k0) k0 (okN hN7 k0 (by decide)).1 (okN hN7 k0 (by decide)).2 cq_11 (by decide) rfl rfl (Nat.le_of_ble_eq_true rfl) (by decide) (by decide) (fun v ν hp => ?_) (fun i ν hp => nrm hp.1)
      obtain ⟨rfl, rfl, hN35, hb36⟩ := QEl hp
      show J _ _ _ _ 29 _ ([.int r34]) _ _ _ _
      refine J.istore_n (pc := 29) ([(3, .int r34), (0, .ref v0), (1, .int v1), (2, .int v2)]) dX11_send_29 rfl (Nat.le_of_ble_eq_true rfl) rfl ?_
      refine J.aload_n (pc := 30) dX11_send_30 rfl 1 rfl ?_
      refine J.fI (pc := 31) dX11_send_31 fl_RX11_99 k0 (okN hN35 k0 (by decide)) (Or.inl rfl) ?_
      rcases ifc h with ⟨hc, h⟩ | ⟨hc, h⟩
      · refine J.zeq (pc := 34) (tgt := 39) dX11_send_34 (by decide) (fun _ => ?_) (fun q => absurd hc q)
        refine J.aload_n (pc := 39) dX11_send_39 rfl 1 rfl ?_
        obtain ⟨a37, e38, h⟩ := bnd h
        have k39 : (kd a37).1 = 0 := gR_k e38
        refine J.fR (pc := 40) dX11_send_40 fl_RX11_48 k0 (okN hN35 k0 (by decide)) rfl e38 ?_
        refine J.bipush (pc := 43) dX11_send_43 ib_61 ?_
        refine J.iload_n (pc := 45) dX11_send_45 rfl 2 rfl ?_
        refine J.iadd (pc := 46) dX11_send_46 ?_
        obtain ⟨x40, e41, h⟩ := bnd h
        refine J.aI (pc := 47) dX11_send_47 k39 (okN hN35 k39 (by decide)) e41 ?_
        refine J.istore (pc := 48) ([(4, .int x40), (3, .int r34), (0, .ref v0), (1, .int v1), (2, .int v2)]) dX11_send_48 (Nat.le_of_ble_eq_true rfl) rfl ?_
        refine J.iload (pc := 50) dX11_send_50 0 rfl ?_
        refine J.iload_n (pc := 52) dX11_send_52 rfl 1 rfl ?_
        rcases ifc h with ⟨hc, h⟩ | ⟨hc, h⟩
        · refine J.cne (pc := 53) (tgt := 64) dX11_send_53 (by decide) (fun _ => ?_) (fun q => absurd hc q)
          refine J.aload_n (pc := 56) dX11_send_56 rfl 2 rfl ?_
          refine J.iconst (pc := 57) dX11_send_57 ic_1 ?_
          obtain ⟨⟨r44, μ43⟩, e42, h⟩ := bnd h
          try dsimp only at h
          refine J.callV (Y := mX11_send) (Z := mX11_refuses) (pc := 58) (st := []) (k2 := 0) (n2 := 0) dX11_send_58 ml_RX11_383 mo_X11_refuses mv_X11_refuses rfl (tX11_refuses (d + 1) e42 hN35 k0) k0 (okN hN35 k0 (by decide)).1 (okN hN35 k0 (by decide)).2 cq_11 (by decide) rfl rfl (Nat.le_of_ble_eq_true rfl) (by decide) (by decide) (fun v ν hp => ?_) (fun i ν hp => nrm hp.1)
          obtain ⟨rfl, rfl, hN45, hb46⟩ := QEl hp
          show J _ _ _ _ 61 _ ([.int r44]) _ _ _ _
          refine J.iconst (pc := 61) dX11_send_61 ic_1 ?_
          refine J.isub (pc := 62) dX11_send_62 ?_
          cases h
          exact J.iret (pc := 63) dX11_send_63 rfl ⟨rfl, rfl, hN45, trivial⟩
        · refine J.cne (pc := 53) (tgt := 64) dX11_send_53 (by decide) (fun q => absurd q hc) (fun _ => ?_)
          refine J.aload_n (pc := 64) dX11_send_64 rfl 2 rfl ?_
          obtain ⟨μ48, e47, h⟩ := bnd h
          refine J.callV (Y := mX11_send) (Z := mX11_keeps) (pc := 65) (st := []) (k2 := 0) (n2 := 0) dX11_send_65 ml_RX11_386 mo_X11_keeps mv_X11_keeps rfl (tX11_keeps (d + 1) e47 hN35 k0) k0 (okN hN35 k0 (by decide)).1 (okN hN35 k0 (by decide)).2 cq_11 (by decide) rfl rfl (Nat.le_of_ble_eq_true rfl) (by decide) (by decide) (fun v ν hp => ?_) (fun i ν hp => nrm hp.1)
          obtain ⟨rfl, rfl, hN49, hb50⟩ := QEl hp
          show J _ _ _ _ 68 _ ([]) _ _ _ _
          refine J.aload_n (pc := 68) dX11_send_68 rfl 2 rfl ?_
          obtain ⟨a51, e52, h⟩ := bnd h
          have k53 : (kd a51).1 = 0 := gR_k e52
          refine J.fR (pc := 69) dX11_send_69 fl_RX11_48 k0 (okN hN49 k0 (by decide)) rfl e52 ?_
          refine J.bipush (pc := 72) dX11_send_72 ib_61 ?_
          refine J.iload_n (pc := 74) dX11_send_74 rfl 3 rfl ?_
          refine J.iadd (pc := 75) dX11_send_75 ?_
          refine J.iload_n (pc := 76) dX11_send_76 rfl 1 rfl ?_
          obtain ⟨μ54, e55, h⟩ := bnd h
          have hN56 : μ54.1 = NN := stI_N e55 hN49
          refine J.wI (pc := 77) dX11_send_77 k53 (okN hN49 k53 (by decide)) e55 ?_
          refine J.iload (pc := 78) dX11_send_78 0 rfl ?_
          refine J.callS (Y := mX11_send) (Z := mX11_toldAs) (pc := 80) (st := []) (k2 := 0) (n2 := 0) dX11_send_80 ml_RX11_371 mo_X11_toldAs ms_X11_toldAs rfl (tX11_toldAs (d + 1) x40 μ54 hN56 ) rfl rfl (Nat.le_of_ble_eq_true rfl) (by decide) (by decide) (fun v ν hp => ?_) (fun i ν hp => nrm hp.1)
          obtain ⟨rfl, rfl, hN58, hb59⟩ := QEl hp
          show J _ _ _ _ 83 _ ([.int (fX11_toldAs x40)]) _ _ _ _
          cases h
          exact J.iret (pc := 83) dX11_send_83 rfl ⟨rfl, rfl, hN58, trivial⟩
      · refine J.zeq (pc := 34) (tgt := 39) dX11_send_34 (by decide) (fun q => absurd q hc) (fun _ => ?_)
        refine J.iconst (pc := 37) dX11_send_37 ic_0 ?_
        cases h
        exact J.iret (pc := 38) dX11_send_38 rfl ⟨rfl, rfl, hN35, trivial⟩
def fX11_stile (v0 : Nat) (v1 : Int32) (v2 : Int32) (μ : Mem) : Option (Int32 × Mem) :=
  (some (sI μ v0 0 (0 : Int32))).bind fun μ1 =>
  (fX11_placeOf v0 v1 μ1).bind fun (r6, μ5) =>
  if r6 = (-1 : Int32) then
    some ((0 : Int32), μ5)
  else
    (gR μ5 v0 34 0).bind fun a9 =>
    (ldI μ5 a9 ((49 : Int32) + (r6 / (8 : Int32)))).bind fun x12 =>
    if ((x12 >>> ((r6 - r6 / (8 : Int32) * (8 : Int32)) &&& 31)) &&& (1 : Int32)) = (1 : Int32) then
      if (1 : Int32) = v2 then
        (fX11_refuses v0 (1 : Int32) μ5).bind fun (r16, μ15) =>
        if 0 < r16 then
          some ((1 : Int32), μ15)
        else
          some ((0 : Int32), μ15)
      else
        (fX11_isThere v0 (r6 + (8 : Int32)) μ5).bind fun r20 =>
        if r20 = 0 then
          (fX11_refuses v0 (1 : Int32) μ5).bind fun (r25, μ24) =>
          if 0 < r25 then
            some ((1 : Int32), μ24)
          else
            some ((0 : Int32), μ24)
        else
          (fX11_keeps v0 μ5).bind fun μ29 =>
          (gR μ29 v0 34 0).bind fun a32 =>
          (ldI μ29 a32 ((49 : Int32) + (r6 / (8 : Int32)))).bind fun x35 =>
          if v2 = 0 then
            (stI μ29 a32 ((49 : Int32) + (r6 / (8 : Int32))) (x35 + ((0 : Int32) - ((1 : Int32) <<< ((r6 - r6 / (8 : Int32) * (8 : Int32)) &&& 31))))).bind fun μ37 =>
            some ((1 : Int32), μ37)
          else
            (stI μ29 a32 ((49 : Int32) + (r6 / (8 : Int32))) (x35 + ((1 : Int32) <<< ((r6 - r6 / (8 : Int32) * (8 : Int32)) &&& 31)))).bind fun μ40 =>
            some ((1 : Int32), μ40)
    else
      if (0 : Int32) = v2 then
        (fX11_refuses v0 (1 : Int32) μ5).bind fun (r45, μ44) =>
        if 0 < r45 then
          some ((1 : Int32), μ44)
        else
          some ((0 : Int32), μ44)
      else
        (fX11_isThere v0 (r6 + (8 : Int32)) μ5).bind fun r49 =>
        if r49 = 0 then
          (fX11_refuses v0 (1 : Int32) μ5).bind fun (r54, μ53) =>
          if 0 < r54 then
            some ((1 : Int32), μ53)
          else
            some ((0 : Int32), μ53)
        else
          (fX11_keeps v0 μ5).bind fun μ58 =>
          (gR μ58 v0 34 0).bind fun a61 =>
          (ldI μ58 a61 ((49 : Int32) + (r6 / (8 : Int32)))).bind fun x64 =>
          if v2 = 0 then
            (stI μ58 a61 ((49 : Int32) + (r6 / (8 : Int32))) (x64 + ((0 : Int32) - ((1 : Int32) <<< ((r6 - r6 / (8 : Int32) * (8 : Int32)) &&& 31))))).bind fun μ66 =>
            some ((1 : Int32), μ66)
          else
            (stI μ58 a61 ((49 : Int32) + (r6 / (8 : Int32))) (x64 + ((1 : Int32) <<< ((r6 - r6 / (8 : Int32) * (8 : Int32)) &&& 31)))).bind fun μ69 =>
            some ((1 : Int32), μ69)
set_option maxHeartbeats 4000000 in
theorem tX11_stile {ω : Wd} {l : Launch} (d : Nat) {v0 : Nat} {v1 : Int32} {v2 : Int32} {μ : Mem} {res : Int32 × Mem} (h : fX11_stile v0 v1 v2 μ = some res) (hN : μ.1 = NN) (k0 : (kd v0).1 = 21) : Ct ω l mX11_stile (d + 2) [.ref v0, .int v1, .int v2] μ 0 0 (PE (.inl (some (.int res.1))) res.2 (isB res.1)) := by
  refine Ct.of pn_RX11 (Nat.le_of_ble_eq_true rfl) ?_
  show J ω l mX11_stile (d + 2) 0 [(0, .ref v0), (1, .int v1), (2, .int v2)] [] μ 0 0 _
  unfold fX11_stile at h
  refine J.aload_n (pc := 0) dX11_stile_0 rfl 0 rfl ?_
  refine J.iconst (pc := 1) dX11_stile_1 ic_0 ?_
  obtain ⟨μ1, e2, h⟩ := bnd h
  have hN3 : μ1.1 = NN := smN e2 hN
  refine J.qI (pc := 2) dX11_stile_2 fl_RX11_99 k0 (okN hN k0 (by decide)) rfl rfl e2 ?_
  refine J.aload_n (pc := 5) dX11_stile_5 rfl 0 rfl ?_
  refine J.iload_n (pc := 6) dX11_stile_6 rfl 1 rfl ?_
  obtain ⟨⟨r6, μ5⟩, e4, h⟩ := bnd h
  try dsimp only at h
  refine J.callV (Y := mX11_stile) (Z := mX11_placeOf) (pc := 7) (st := []) (k2 := 0) (n2 := 0) dX11_stile_7 ml_RX11_380 mo_X11_placeOf mv_X11_placeOf rfl (tX11_placeOf d e4 hN3 k0) k0 (okN hN3 k0 (by decide)).1 (okN hN3 k0 (by decide)).2 cq_11 (by decide) rfl rfl (Nat.le_of_ble_eq_true rfl) (by decide) (by decide) (fun v ν hp => ?_) (fun i ν hp => nrm hp.1)
  obtain ⟨rfl, rfl, hN7, hb8⟩ := QEl hp
  show J _ _ _ _ 10 _ ([.int r6]) _ _ _ _
  refine J.istore_n (pc := 10) ([(3, .int r6), (0, .ref v0), (1, .int v1), (2, .int v2)]) dX11_stile_10 rfl (Nat.le_of_ble_eq_true rfl) rfl ?_
  refine J.iload_n (pc := 11) dX11_stile_11 rfl 0 rfl ?_
  refine J.iconst (pc := 12) dX11_stile_12 ic_m1 ?_
  rcases ifc h with ⟨hc, h⟩ | ⟨hc, h⟩
  · refine J.cne (pc := 13) (tgt := 18) dX11_stile_13 (by decide) (fun _ => ?_) (fun q => absurd hc q)
    refine J.iconst (pc := 16) dX11_stile_16 ic_0 ?_
    cases h
    exact J.zret (pc := 17) dX11_stile_17 rfl (narB (Or.inl rfl)) ⟨rfl, rfl, hN7, (Or.inl rfl)⟩
  · refine J.cne (pc := 13) (tgt := 18) dX11_stile_13 (by decide) (fun q => absurd q hc) (fun _ => ?_)
    refine J.iload_n (pc := 18) dX11_stile_18 rfl 0 rfl ?_
    refine J.bipush (pc := 19) dX11_stile_19 ib_8 ?_
    refine J.idiv (pc := 21) dX11_stile_21 (by decide) ?_
    refine J.istore (pc := 22) ([(4, .int (r6 / (8 : Int32))), (3, .int r6), (0, .ref v0), (1, .int v1), (2, .int v2)]) dX11_stile_22 (Nat.le_of_ble_eq_true rfl) rfl ?_
    refine J.aload_n (pc := 24) dX11_stile_24 rfl 2 rfl ?_
    obtain ⟨a9, e10, h⟩ := bnd h
    have k11 : (kd a9).1 = 0 := gR_k e10
    refine J.fR (pc := 25) dX11_stile_25 fl_RX11_48 k0 (okN hN7 k0 (by decide)) rfl e10 ?_
    refine J.bipush (pc := 28) dX11_stile_28 ib_49 ?_
    refine J.iload (pc := 30) dX11_stile_30 0 rfl ?_
    refine J.iadd (pc := 32) dX11_stile_32 ?_
    obtain ⟨x12, e13, h⟩ := bnd h
    refine J.aI (pc := 33) dX11_stile_33 k11 (okN hN7 k11 (by decide)) e13 ?_
    refine J.iload_n (pc := 34) dX11_stile_34 rfl 1 rfl ?_
    refine J.bipush (pc := 35) dX11_stile_35 ib_8 ?_
    refine J.irem (pc := 37) dX11_stile_37 (by decide) ?_
    refine J.ishr (pc := 38) dX11_stile_38 ?_
    refine J.iconst (pc := 39) dX11_stile_39 ic_1 ?_
    refine J.iand (pc := 40) dX11_stile_40 ?_
    refine J.iconst (pc := 41) dX11_stile_41 ic_1 ?_
    rcases ifc h with ⟨hc, h⟩ | ⟨hc, h⟩
    · refine J.cne (pc := 42) (tgt := 49) dX11_stile_42 (by decide) (fun _ => ?_) (fun q => absurd hc q)
      refine J.iconst (pc := 45) dX11_stile_45 ic_1 ?_
      refine J.goto (pc := 46) (tgt := 50) dX11_stile_46 (by decide) ?_
      refine J.istore (pc := 50) ([(5, .int (1 : Int32)), (4, .int (r6 / (8 : Int32))), (3, .int r6), (0, .ref v0), (1, .int v1), (2, .int v2)]) dX11_stile_50 (Nat.le_of_ble_eq_true rfl) rfl ?_
      refine J.iload (pc := 52) dX11_stile_52 0 rfl ?_
      refine J.iload_n (pc := 54) dX11_stile_54 rfl 5 rfl ?_
      rcases ifc h with ⟨hc, h⟩ | ⟨hc, h⟩
      · refine J.ceq (pc := 55) (tgt := 69) dX11_stile_55 (by decide) (fun _ => ?_) (fun q => absurd hc q)
        refine J.aload_n (pc := 69) dX11_stile_69 rfl 3 rfl ?_
        refine J.iconst (pc := 70) dX11_stile_70 ic_1 ?_
        obtain ⟨⟨r16, μ15⟩, e14, h⟩ := bnd h
        try dsimp only at h
        refine J.callV (Y := mX11_stile) (Z := mX11_refuses) (pc := 71) (st := []) (k2 := 0) (n2 := 0) dX11_stile_71 ml_RX11_383 mo_X11_refuses mv_X11_refuses rfl (tX11_refuses (d + 1) e14 hN7 k0) k0 (okN hN7 k0 (by decide)).1 (okN hN7 k0 (by decide)).2 cq_11 (by decide) rfl rfl (Nat.le_of_ble_eq_true rfl) (by decide) (by decide) (fun v ν hp => ?_) (fun i ν hp => nrm hp.1)
        obtain ⟨rfl, rfl, hN17, hb18⟩ := QEl hp
        show J _ _ _ _ 74 _ ([.int r16]) _ _ _ _
        rcases ifc h with ⟨hc, h⟩ | ⟨hc, h⟩
        · refine J.zle (pc := 74) (tgt := 81) dX11_stile_74 (by decide) (fun _ => ?_) (fun q => absurd hc q)
          refine J.iconst (pc := 77) dX11_stile_77 ic_1 ?_
          refine J.goto (pc := 78) (tgt := 82) dX11_stile_78 (by decide) ?_
          cases h
          exact J.zret (pc := 82) dX11_stile_82 rfl (narB (Or.inr rfl)) ⟨rfl, rfl, hN17, (Or.inr rfl)⟩
        · refine J.zle (pc := 74) (tgt := 81) dX11_stile_74 (by decide) (fun q => absurd q hc) (fun _ => ?_)
          refine J.iconst (pc := 81) dX11_stile_81 ic_0 ?_
          cases h
          exact J.zret (pc := 82) dX11_stile_82 rfl (narB (Or.inl rfl)) ⟨rfl, rfl, hN17, (Or.inl rfl)⟩
      · refine J.ceq (pc := 55) (tgt := 69) dX11_stile_55 (by decide) (fun q => absurd q hc) (fun _ => ?_)
        refine J.aload_n (pc := 58) dX11_stile_58 rfl 3 rfl ?_
        refine J.iload_n (pc := 59) dX11_stile_59 rfl 2 rfl ?_
        refine J.bipush (pc := 60) dX11_stile_60 ib_8 ?_
        refine J.iadd (pc := 62) dX11_stile_62 ?_
        obtain ⟨r20, e19, h⟩ := bnd h
        refine J.callV (Y := mX11_stile) (Z := mX11_isThere) (pc := 63) (st := []) (k2 := 0) (n2 := 0) dX11_stile_63 ml_RX11_332 mo_X11_isThere mv_X11_isThere rfl (tX11_isThere (d + 1) e19 hN7 k0) k0 (okN hN7 k0 (by decide)).1 (okN hN7 k0 (by decide)).2 cq_11 (by decide) rfl rfl (Nat.le_of_ble_eq_true rfl) (by decide) (by decide) (fun v ν hp => ?_) (fun i ν hp => nrm hp.1)
        obtain ⟨rfl, rfl, hN21, hb22⟩ := QEl hp
        show J _ _ _ _ 66 _ ([.int r20]) _ _ _ _
        rcases ifc h with ⟨hc, h⟩ | ⟨hc, h⟩
        · refine J.zne (pc := 66) (tgt := 83) dX11_stile_66 (by decide) (fun _ => ?_) (fun q => absurd hc q)
          refine J.aload_n (pc := 69) dX11_stile_69 rfl 3 rfl ?_
          refine J.iconst (pc := 70) dX11_stile_70 ic_1 ?_
          obtain ⟨⟨r25, μ24⟩, e23, h⟩ := bnd h
          try dsimp only at h
          refine J.callV (Y := mX11_stile) (Z := mX11_refuses) (pc := 71) (st := []) (k2 := 0) (n2 := 0) dX11_stile_71 ml_RX11_383 mo_X11_refuses mv_X11_refuses rfl (tX11_refuses (d + 1) e23 hN21 k0) k0 (okN hN21 k0 (by decide)).1 (okN hN21 k0 (by decide)).2 cq_11 (by decide) rfl rfl (Nat.le_of_ble_eq_true rfl) (by decide) (by decide) (fun v ν hp => ?_) (fun i ν hp => nrm hp.1)
          obtain ⟨rfl, rfl, hN26, hb27⟩ := QEl hp
          show J _ _ _ _ 74 _ ([.int r25]) _ _ _ _
          rcases ifc h with ⟨hc, h⟩ | ⟨hc, h⟩
          · refine J.zle (pc := 74) (tgt := 81) dX11_stile_74 (by decide) (fun _ => ?_) (fun q => absurd hc q)
            refine J.iconst (pc := 77) dX11_stile_77 ic_1 ?_
            refine J.goto (pc := 78) (tgt := 82) dX11_stile_78 (by decide) ?_
            cases h
            exact J.zret (pc := 82) dX11_stile_82 rfl (narB (Or.inr rfl)) ⟨rfl, rfl, hN26, (Or.inr rfl)⟩
          · refine J.zle (pc := 74) (tgt := 81) dX11_stile_74 (by decide) (fun q => absurd q hc) (fun _ => ?_)
            refine J.iconst (pc := 81) dX11_stile_81 ic_0 ?_
            cases h
            exact J.zret (pc := 82) dX11_stile_82 rfl (narB (Or.inl rfl)) ⟨rfl, rfl, hN26, (Or.inl rfl)⟩
        · refine J.zne (pc := 66) (tgt := 83) dX11_stile_66 (by decide) (fun q => absurd q hc) (fun _ => ?_)
          refine J.aload_n (pc := 83) dX11_stile_83 rfl 3 rfl ?_
          obtain ⟨μ29, e28, h⟩ := bnd h
          refine J.callV (Y := mX11_stile) (Z := mX11_keeps) (pc := 84) (st := []) (k2 := 0) (n2 := 0) dX11_stile_84 ml_RX11_386 mo_X11_keeps mv_X11_keeps rfl (tX11_keeps (d + 1) e28 hN21 k0) k0 (okN hN21 k0 (by decide)).1 (okN hN21 k0 (by decide)).2 cq_11 (by decide) rfl rfl (Nat.le_of_ble_eq_true rfl) (by decide) (by decide) (fun v ν hp => ?_) (fun i ν hp => nrm hp.1)
          obtain ⟨rfl, rfl, hN30, hb31⟩ := QEl hp
          show J _ _ _ _ 87 _ ([]) _ _ _ _
          refine J.aload_n (pc := 87) dX11_stile_87 rfl 3 rfl ?_
          obtain ⟨a32, e33, h⟩ := bnd h
          have k34 : (kd a32).1 = 0 := gR_k e33
          refine J.fR (pc := 88) dX11_stile_88 fl_RX11_48 k0 (okN hN30 k0 (by decide)) rfl e33 ?_
          refine J.bipush (pc := 91) dX11_stile_91 ib_49 ?_
          refine J.iload (pc := 93) dX11_stile_93 1 rfl ?_
          refine J.iadd (pc := 95) dX11_stile_95 ?_
          refine J.dup2 (pc := 96) dX11_stile_96 rfl rfl ?_
          obtain ⟨x35, e36, h⟩ := bnd h
          refine J.aI (pc := 97) dX11_stile_97 k34 (okN hN30 k34 (by decide)) e36 ?_
          refine J.iload_n (pc := 98) dX11_stile_98 rfl 5 rfl ?_
          rcases ifc h with ⟨hc, h⟩ | ⟨hc, h⟩
          · refine J.zeq (pc := 99) (tgt := 111) dX11_stile_99 (by decide) (fun _ => ?_) (fun q => absurd hc q)
            refine J.iconst (pc := 111) dX11_stile_111 ic_0 ?_
            refine J.iconst (pc := 112) dX11_stile_112 ic_1 ?_
            refine J.iload_n (pc := 113) dX11_stile_113 rfl 2 rfl ?_
            refine J.bipush (pc := 114) dX11_stile_114 ib_8 ?_
            refine J.irem (pc := 116) dX11_stile_116 (by decide) ?_
            refine J.ishl (pc := 117) dX11_stile_117 ?_
            refine J.isub (pc := 118) dX11_stile_118 ?_
            refine J.iadd (pc := 119) dX11_stile_119 ?_
            obtain ⟨μ37, e38, h⟩ := bnd h
            have hN39 : μ37.1 = NN := stI_N e38 hN30
            refine J.wI (pc := 120) dX11_stile_120 k34 (okN hN30 k34 (by decide)) e38 ?_
            refine J.iconst (pc := 121) dX11_stile_121 ic_1 ?_
            cases h
            exact J.zret (pc := 122) dX11_stile_122 rfl (narB (Or.inr rfl)) ⟨rfl, rfl, hN39, (Or.inr rfl)⟩
          · refine J.zeq (pc := 99) (tgt := 111) dX11_stile_99 (by decide) (fun q => absurd q hc) (fun _ => ?_)
            refine J.iconst (pc := 102) dX11_stile_102 ic_1 ?_
            refine J.iload_n (pc := 103) dX11_stile_103 rfl 2 rfl ?_
            refine J.bipush (pc := 104) dX11_stile_104 ib_8 ?_
            refine J.irem (pc := 106) dX11_stile_106 (by decide) ?_
            refine J.ishl (pc := 107) dX11_stile_107 ?_
            refine J.goto (pc := 108) (tgt := 119) dX11_stile_108 (by decide) ?_
            refine J.iadd (pc := 119) dX11_stile_119 ?_
            obtain ⟨μ40, e41, h⟩ := bnd h
            have hN42 : μ40.1 = NN := stI_N e41 hN30
            refine J.wI (pc := 120) dX11_stile_120 k34 (okN hN30 k34 (by decide)) e41 ?_
            refine J.iconst (pc := 121) dX11_stile_121 ic_1 ?_
            cases h
            exact J.zret (pc := 122) dX11_stile_122 rfl (narB (Or.inr rfl)) ⟨rfl, rfl, hN42, (Or.inr rfl)⟩
    · refine J.cne (pc := 42) (tgt := 49) dX11_stile_42 (by decide) (fun q => absurd q hc) (fun _ => ?_)
      refine J.iconst (pc := 49) dX11_stile_49 ic_0 ?_
      refine J.istore (pc := 50) ([(5, .int (0 : Int32)), (4, .int (r6 / (8 : Int32))), (3, .int r6), (0, .ref v0), (1, .int v1), (2, .int v2)]) dX11_stile_50 (Nat.le_of_ble_eq_true rfl) rfl ?_
      refine J.iload (pc := 52) dX11_stile_52 0 rfl ?_
      refine J.iload_n (pc := 54) dX11_stile_54 rfl 5 rfl ?_
      rcases ifc h with ⟨hc, h⟩ | ⟨hc, h⟩
      · refine J.ceq (pc := 55) (tgt := 69) dX11_stile_55 (by decide) (fun _ => ?_) (fun q => absurd hc q)
        refine J.aload_n (pc := 69) dX11_stile_69 rfl 3 rfl ?_
        refine J.iconst (pc := 70) dX11_stile_70 ic_1 ?_
        obtain ⟨⟨r45, μ44⟩, e43, h⟩ := bnd h
        try dsimp only at h
        refine J.callV (Y := mX11_stile) (Z := mX11_refuses) (pc := 71) (st := []) (k2 := 0) (n2 := 0) dX11_stile_71 ml_RX11_383 mo_X11_refuses mv_X11_refuses rfl (tX11_refuses (d + 1) e43 hN7 k0) k0 (okN hN7 k0 (by decide)).1 (okN hN7 k0 (by decide)).2 cq_11 (by decide) rfl rfl (Nat.le_of_ble_eq_true rfl) (by decide) (by decide) (fun v ν hp => ?_) (fun i ν hp => nrm hp.1)
        obtain ⟨rfl, rfl, hN46, hb47⟩ := QEl hp
        show J _ _ _ _ 74 _ ([.int r45]) _ _ _ _
        rcases ifc h with ⟨hc, h⟩ | ⟨hc, h⟩
        · refine J.zle (pc := 74) (tgt := 81) dX11_stile_74 (by decide) (fun _ => ?_) (fun q => absurd hc q)
          refine J.iconst (pc := 77) dX11_stile_77 ic_1 ?_
          refine J.goto (pc := 78) (tgt := 82) dX11_stile_78 (by decide) ?_
          cases h
          exact J.zret (pc := 82) dX11_stile_82 rfl (narB (Or.inr rfl)) ⟨rfl, rfl, hN46, (Or.inr rfl)⟩
        · refine J.zle (pc := 74) (tgt := 81) dX11_stile_74 (by decide) (fun q => absurd q hc) (fun _ => ?_)
          refine J.iconst (pc := 81) dX11_stile_81 ic_0 ?_
          cases h
          exact J.zret (pc := 82) dX11_stile_82 rfl (narB (Or.inl rfl)) ⟨rfl, rfl, hN46, (Or.inl rfl)⟩
      · refine J.ceq (pc := 55) (tgt := 69) dX11_stile_55 (by decide) (fun q => absurd q hc) (fun _ => ?_)
        refine J.aload_n (pc := 58) dX11_stile_58 rfl 3 rfl ?_
        refine J.iload_n (pc := 59) dX11_stile_59 rfl 2 rfl ?_
        refine J.bipush (pc := 60) dX11_stile_60 ib_8 ?_
        refine J.iadd (pc := 62) dX11_stile_62 ?_
        obtain ⟨r49, e48, h⟩ := bnd h
        refine J.callV (Y := mX11_stile) (Z := mX11_isThere) (pc := 63) (st := []) (k2 := 0) (n2 := 0) dX11_stile_63 ml_RX11_332 mo_X11_isThere mv_X11_isThere rfl (tX11_isThere (d + 1) e48 hN7 k0) k0 (okN hN7 k0 (by decide)).1 (okN hN7 k0 (by decide)).2 cq_11 (by decide) rfl rfl (Nat.le_of_ble_eq_true rfl) (by decide) (by decide) (fun v ν hp => ?_) (fun i ν hp => nrm hp.1)
        obtain ⟨rfl, rfl, hN50, hb51⟩ := QEl hp
        show J _ _ _ _ 66 _ ([.int r49]) _ _ _ _
        rcases ifc h with ⟨hc, h⟩ | ⟨hc, h⟩
        · refine J.zne (pc := 66) (tgt := 83) dX11_stile_66 (by decide) (fun _ => ?_) (fun q => absurd hc q)
          refine J.aload_n (pc := 69) dX11_stile_69 rfl 3 rfl ?_
          refine J.iconst (pc := 70) dX11_stile_70 ic_1 ?_
          obtain ⟨⟨r54, μ53⟩, e52, h⟩ := bnd h
          try dsimp only at h
          refine J.callV (Y := mX11_stile) (Z := mX11_refuses) (pc := 71) (st := []) (k2 := 0) (n2 := 0) dX11_stile_71 ml_RX11_383 mo_X11_refuses mv_X11_refuses rfl (tX11_refuses (d + 1) e52 hN50 k0) k0 (okN hN50 k0 (by decide)).1 (okN hN50 k0 (by decide)).2 cq_11 (by decide) rfl rfl (Nat.le_of_ble_eq_true rfl) (by decide) (by decide) (fun v ν hp => ?_) (fun i ν hp => nrm hp.1)
          obtain ⟨rfl, rfl, hN55, hb56⟩ := QEl hp
          show J _ _ _ _ 74 _ ([.int r54]) _ _ _ _
          rcases ifc h with ⟨hc, h⟩ | ⟨hc, h⟩
          · refine J.zle (pc := 74) (tgt := 81) dX11_stile_74 (by decide) (fun _ => ?_) (fun q => absurd hc q)
            refine J.iconst (pc := 77) dX11_stile_77 ic_1 ?_
            refine J.goto (pc := 78) (tgt := 82) dX11_stile_78 (by decide) ?_
            cases h
            exact J.zret (pc := 82) dX11_stile_82 rfl (narB (Or.inr rfl)) ⟨rfl, rfl, hN55, (Or.inr rfl)⟩
          · refine J.zle (pc := 74) (tgt := 81) dX11_stile_74 (by decide) (fun q => absurd q hc) (fun _ => ?_)
            refine J.iconst (pc := 81) dX11_stile_81 ic_0 ?_
            cases h
            exact J.zret (pc := 82) dX11_stile_82 rfl (narB (Or.inl rfl)) ⟨rfl, rfl, hN55, (Or.inl rfl)⟩
        · refine J.zne (pc := 66) (tgt := 83) dX11_stile_66 (by decide) (fun q => absurd q hc) (fun _ => ?_)
          refine J.aload_n (pc := 83) dX11_stile_83 rfl 3 rfl ?_
          obtain ⟨μ58, e57, h⟩ := bnd h
          refine J.callV (Y := mX11_stile) (Z := mX11_keeps) (pc := 84) (st := []) (k2 := 0) (n2 := 0) dX11_stile_84 ml_RX11_386 mo_X11_keeps mv_X11_keeps rfl (tX11_keeps (d + 1) e57 hN50 k0) k0 (okN hN50 k0 (by decide)).1 (okN hN50 k0 (by decide)).2 cq_11 (by decide) rfl rfl (Nat.le_of_ble_eq_true rfl) (by decide) (by decide) (fun v ν hp => ?_) (fun i ν hp => nrm hp.1)
          obtain ⟨rfl, rfl, hN59, hb60⟩ := QEl hp
          show J _ _ _ _ 87 _ ([]) _ _ _ _
          refine J.aload_n (pc := 87) dX11_stile_87 rfl 3 rfl ?_
          obtain ⟨a61, e62, h⟩ := bnd h
          have k63 : (kd a61).1 = 0 := gR_k e62
          refine J.fR (pc := 88) dX11_stile_88 fl_RX11_48 k0 (okN hN59 k0 (by decide)) rfl e62 ?_
          refine J.bipush (pc := 91) dX11_stile_91 ib_49 ?_
          refine J.iload (pc := 93) dX11_stile_93 1 rfl ?_
          refine J.iadd (pc := 95) dX11_stile_95 ?_
          refine J.dup2 (pc := 96) dX11_stile_96 rfl rfl ?_
          obtain ⟨x64, e65, h⟩ := bnd h
          refine J.aI (pc := 97) dX11_stile_97 k63 (okN hN59 k63 (by decide)) e65 ?_
          refine J.iload_n (pc := 98) dX11_stile_98 rfl 5 rfl ?_
          rcases ifc h with ⟨hc, h⟩ | ⟨hc, h⟩
          · refine J.zeq (pc := 99) (tgt := 111) dX11_stile_99 (by decide) (fun _ => ?_) (fun q => absurd hc q)
            refine J.iconst (pc := 111) dX11_stile_111 ic_0 ?_
            refine J.iconst (pc := 112) dX11_stile_112 ic_1 ?_
            refine J.iload_n (pc := 113) dX11_stile_113 rfl 2 rfl ?_
            refine J.bipush (pc := 114) dX11_stile_114 ib_8 ?_
            refine J.irem (pc := 116) dX11_stile_116 (by decide) ?_
            refine J.ishl (pc := 117) dX11_stile_117 ?_
            refine J.isub (pc := 118) dX11_stile_118 ?_
            refine J.iadd (pc := 119) dX11_stile_119 ?_
            obtain ⟨μ66, e67, h⟩ := bnd h
            have hN68 : μ66.1 = NN := stI_N e67 hN59
            refine J.wI (pc := 120) dX11_stile_120 k63 (okN hN59 k63 (by decide)) e67 ?_
            refine J.iconst (pc := 121) dX11_stile_121 ic_1 ?_
            cases h
            exact J.zret (pc := 122) dX11_stile_122 rfl (narB (Or.inr rfl)) ⟨rfl, rfl, hN68, (Or.inr rfl)⟩
          · refine J.zeq (pc := 99) (tgt := 111) dX11_stile_99 (by decide) (fun q => absurd q hc) (fun _ => ?_)
            refine J.iconst (pc := 102) dX11_stile_102 ic_1 ?_
            refine J.iload_n (pc := 103) dX11_stile_103 rfl 2 rfl ?_
            refine J.bipush (pc := 104) dX11_stile_104 ib_8 ?_
            refine J.irem (pc := 106) dX11_stile_106 (by decide) ?_
            refine J.ishl (pc := 107) dX11_stile_107 ?_
            refine J.goto (pc := 108) (tgt := 119) dX11_stile_108 (by decide) ?_
            refine J.iadd (pc := 119) dX11_stile_119 ?_
            obtain ⟨μ69, e70, h⟩ := bnd h
            have hN71 : μ69.1 = NN := stI_N e70 hN59
            refine J.wI (pc := 120) dX11_stile_120 k63 (okN hN59 k63 (by decide)) e70 ?_
            refine J.iconst (pc := 121) dX11_stile_121 ic_1 ?_
            cases h
            exact J.zret (pc := 122) dX11_stile_122 rfl (narB (Or.inr rfl)) ⟨rfl, rfl, hN71, (Or.inr rfl)⟩
def fX11_then (v0 : Nat) (v1 : Int32) (v2 : Int32) (v3 : Int32) (μ : Mem) : Option (Int32 × Mem) :=
  (some (sI μ v0 0 (0 : Int32))).bind fun μ1 =>
  (fX11_isPerson v0 v1 μ1).bind fun (r6, μ5) =>
  if r6 = 0 then
    some ((0 : Int32), μ5)
  else
    (fX11_isWhat v0 v3 (3 : Int32) μ5).bind fun (r11, μ10) =>
    if r11 = 0 then
      some ((0 : Int32), μ10)
    else
      (fX11_isSoon v0 v2 (0 : Int32) (2 : Int32) μ10).bind fun (r16, μ15) =>
      if r16 = 0 then
        some ((0 : Int32), μ15)
      else
        (fX11_goesTo v0 v2 μ15).bind fun μ20 =>
        (gR μ20 v0 34 0).bind fun a23 =>
        (ldI μ20 a23 ((134 : Int32) + v1)).bind fun x26 =>
        if v3 = 0 then
          some ((x26 / (8 : Int32)), μ20)
        else
          if v3 = (1 : Int32) then
            some ((x26 - x26 / (8 : Int32) * (8 : Int32)), μ20)
          else
            if v3 = (2 : Int32) then
              (gR μ20 v0 34 0).bind fun a28 =>
              (ldI μ20 a28 ((146 : Int32) + v1)).bind fun x31 =>
              some (x31, μ20)
            else
              (gR μ20 v0 34 0).bind fun a33 =>
              (ldI μ20 a33 ((140 : Int32) + v1)).bind fun x36 =>
              if x36 = (-1 : Int32) then
                some ((0 : Int32), μ20)
              else
                some ((1 : Int32), μ20)
set_option maxHeartbeats 4000000 in
theorem tX11_then {ω : Wd} {l : Launch} (d : Nat) {v0 : Nat} {v1 : Int32} {v2 : Int32} {v3 : Int32} {μ : Mem} {res : Int32 × Mem} (h : fX11_then v0 v1 v2 v3 μ = some res) (hN : μ.1 = NN) (k0 : (kd v0).1 = 21) : Ct ω l mX11_then (d + 7) [.ref v0, .int v1, .int v2, .int v3] μ 0 0 (PE (.inl (some (.int res.1))) res.2 True) := by
  refine Ct.of pn_RX11 (Nat.le_of_ble_eq_true rfl) ?_
  show J ω l mX11_then (d + 7) 0 [(0, .ref v0), (1, .int v1), (2, .int v2), (3, .int v3)] [] μ 0 0 _
  unfold fX11_then at h
  refine J.aload_n (pc := 0) dX11_then_0 rfl 0 rfl ?_
  refine J.iconst (pc := 1) dX11_then_1 ic_0 ?_
  obtain ⟨μ1, e2, h⟩ := bnd h
  have hN3 : μ1.1 = NN := smN e2 hN
  refine J.qI (pc := 2) dX11_then_2 fl_RX11_99 k0 (okN hN k0 (by decide)) rfl rfl e2 ?_
  refine J.aload_n (pc := 5) dX11_then_5 rfl 0 rfl ?_
  refine J.iload_n (pc := 6) dX11_then_6 rfl 1 rfl ?_
  obtain ⟨⟨r6, μ5⟩, e4, h⟩ := bnd h
  try dsimp only at h
  refine J.callV (Y := mX11_then) (Z := mX11_isPerson) (pc := 7) (st := []) (k2 := 0) (n2 := 0) dX11_then_7 ml_RX11_368 mo_X11_isPerson mv_X11_isPerson rfl (tX11_isPerson (d + 5) e4 hN3 k0) k0 (okN hN3 k0 (by decide)).1 (okN hN3 k0 (by decide)).2 cq_11 (by decide) rfl rfl (Nat.le_of_ble_eq_true rfl) (by decide) (by decide) (fun v ν hp => ?_) (fun i ν hp => nrm hp.1)
  obtain ⟨rfl, rfl, hN7, hb8⟩ := QEl hp
  show J _ _ _ _ 10 _ ([.int r6]) _ _ _ _
  rcases ifc h with ⟨hc, h⟩ | ⟨hc, h⟩
  · refine J.zeq (pc := 10) (tgt := 32) dX11_then_10 (by decide) (fun _ => ?_) (fun q => absurd hc q)
    refine J.iconst (pc := 32) dX11_then_32 ic_0 ?_
    cases h
    exact J.iret (pc := 33) dX11_then_33 rfl ⟨rfl, rfl, hN7, trivial⟩
  · refine J.zeq (pc := 10) (tgt := 32) dX11_then_10 (by decide) (fun q => absurd q hc) (fun _ => ?_)
    refine J.aload_n (pc := 13) dX11_then_13 rfl 0 rfl ?_
    refine J.iload_n (pc := 14) dX11_then_14 rfl 3 rfl ?_
    refine J.iconst (pc := 15) dX11_then_15 ic_3 ?_
    obtain ⟨⟨r11, μ10⟩, e9, h⟩ := bnd h
    try dsimp only at h
    refine J.callV (Y := mX11_then) (Z := mX11_isWhat) (pc := 16) (st := []) (k2 := 0) (n2 := 0) dX11_then_16 ml_RX11_365 mo_X11_isWhat mv_X11_isWhat rfl (tX11_isWhat (d + 5) e9 hN7 k0) k0 (okN hN7 k0 (by decide)).1 (okN hN7 k0 (by decide)).2 cq_11 (by decide) rfl rfl (Nat.le_of_ble_eq_true rfl) (by decide) (by decide) (fun v ν hp => ?_) (fun i ν hp => nrm hp.1)
    obtain ⟨rfl, rfl, hN12, hb13⟩ := QEl hp
    show J _ _ _ _ 19 _ ([.int r11]) _ _ _ _
    rcases ifc h with ⟨hc, h⟩ | ⟨hc, h⟩
    · refine J.zeq (pc := 19) (tgt := 32) dX11_then_19 (by decide) (fun _ => ?_) (fun q => absurd hc q)
      refine J.iconst (pc := 32) dX11_then_32 ic_0 ?_
      cases h
      exact J.iret (pc := 33) dX11_then_33 rfl ⟨rfl, rfl, hN12, trivial⟩
    · refine J.zeq (pc := 19) (tgt := 32) dX11_then_19 (by decide) (fun q => absurd q hc) (fun _ => ?_)
      refine J.aload_n (pc := 22) dX11_then_22 rfl 0 rfl ?_
      refine J.iload_n (pc := 23) dX11_then_23 rfl 2 rfl ?_
      refine J.iconst (pc := 24) dX11_then_24 ic_0 ?_
      refine J.iconst (pc := 25) dX11_then_25 ic_2 ?_
      obtain ⟨⟨r16, μ15⟩, e14, h⟩ := bnd h
      try dsimp only at h
      refine J.callV (Y := mX11_then) (Z := mX11_isSoon) (pc := 26) (st := []) (k2 := 0) (n2 := 0) dX11_then_26 ml_RX11_395 mo_X11_isSoon mv_X11_isSoon rfl (tX11_isSoon (d + 5) e14 hN12 k0) k0 (okN hN12 k0 (by decide)).1 (okN hN12 k0 (by decide)).2 cq_11 (by decide) rfl rfl (Nat.le_of_ble_eq_true rfl) (by decide) (by decide) (fun v ν hp => ?_) (fun i ν hp => nrm hp.1)
      obtain ⟨rfl, rfl, hN17, hb18⟩ := QEl hp
      show J _ _ _ _ 29 _ ([.int r16]) _ _ _ _
      rcases ifc h with ⟨hc, h⟩ | ⟨hc, h⟩
      · refine J.zne (pc := 29) (tgt := 34) dX11_then_29 (by decide) (fun _ => ?_) (fun q => absurd hc q)
        refine J.iconst (pc := 32) dX11_then_32 ic_0 ?_
        cases h
        exact J.iret (pc := 33) dX11_then_33 rfl ⟨rfl, rfl, hN17, trivial⟩
      · refine J.zne (pc := 29) (tgt := 34) dX11_then_29 (by decide) (fun q => absurd q hc) (fun _ => ?_)
        refine J.aload_n (pc := 34) dX11_then_34 rfl 0 rfl ?_
        refine J.iload_n (pc := 35) dX11_then_35 rfl 2 rfl ?_
        obtain ⟨μ20, e19, h⟩ := bnd h
        refine J.callV (Y := mX11_then) (Z := mX11_goesTo) (pc := 36) (st := []) (k2 := 0) (n2 := 0) dX11_then_36 ml_RX11_398 mo_X11_goesTo mv_X11_goesTo rfl (tX11_goesTo d e19 hN17 k0) k0 (okN hN17 k0 (by decide)).1 (okN hN17 k0 (by decide)).2 cq_11 (by decide) rfl rfl (Nat.le_of_ble_eq_true rfl) (by decide) (by decide) (fun v ν hp => ?_) (fun i ν hp => nrm hp.1)
        obtain ⟨rfl, rfl, hN21, hb22⟩ := QEl hp
        show J _ _ _ _ 39 _ ([]) _ _ _ _
        refine J.aload_n (pc := 39) dX11_then_39 rfl 0 rfl ?_
        obtain ⟨a23, e24, h⟩ := bnd h
        have k25 : (kd a23).1 = 0 := gR_k e24
        refine J.fR (pc := 40) dX11_then_40 fl_RX11_48 k0 (okN hN21 k0 (by decide)) rfl e24 ?_
        refine J.sipush (pc := 43) dX11_then_43 is_134 ?_
        refine J.iload_n (pc := 46) dX11_then_46 rfl 1 rfl ?_
        refine J.iadd (pc := 47) dX11_then_47 ?_
        obtain ⟨x26, e27, h⟩ := bnd h
        refine J.aI (pc := 48) dX11_then_48 k25 (okN hN21 k25 (by decide)) e27 ?_
        refine J.istore (pc := 49) ([(4, .int x26), (0, .ref v0), (1, .int v1), (2, .int v2), (3, .int v3)]) dX11_then_49 (Nat.le_of_ble_eq_true rfl) rfl ?_
        refine J.iload_n (pc := 51) dX11_then_51 rfl 4 rfl ?_
        rcases ifc h with ⟨hc, h⟩ | ⟨hc, h⟩
        · refine J.zne (pc := 52) (tgt := 63) dX11_then_52 (by decide) (fun _ => ?_) (fun q => absurd hc q)
          refine J.iload (pc := 55) dX11_then_55 0 rfl ?_
          refine J.bipush (pc := 57) dX11_then_57 ib_8 ?_
          refine J.idiv (pc := 59) dX11_then_59 (by decide) ?_
          refine J.goto (pc := 60) (tgt := 113) dX11_then_60 (by decide) ?_
          cases h
          exact J.iret (pc := 113) dX11_then_113 rfl ⟨rfl, rfl, hN21, trivial⟩
        · refine J.zne (pc := 52) (tgt := 63) dX11_then_52 (by decide) (fun q => absurd q hc) (fun _ => ?_)
          refine J.iload_n (pc := 63) dX11_then_63 rfl 4 rfl ?_
          refine J.iconst (pc := 64) dX11_then_64 ic_1 ?_
          rcases ifc h with ⟨hc, h⟩ | ⟨hc, h⟩
          · refine J.cne (pc := 65) (tgt := 76) dX11_then_65 (by decide) (fun _ => ?_) (fun q => absurd hc q)
            refine J.iload (pc := 68) dX11_then_68 0 rfl ?_
            refine J.bipush (pc := 70) dX11_then_70 ib_8 ?_
            refine J.irem (pc := 72) dX11_then_72 (by decide) ?_
            refine J.goto (pc := 73) (tgt := 113) dX11_then_73 (by decide) ?_
            cases h
            exact J.iret (pc := 113) dX11_then_113 rfl ⟨rfl, rfl, hN21, trivial⟩
          · refine J.cne (pc := 65) (tgt := 76) dX11_then_65 (by decide) (fun q => absurd q hc) (fun _ => ?_)
            refine J.iload_n (pc := 76) dX11_then_76 rfl 4 rfl ?_
            refine J.iconst (pc := 77) dX11_then_77 ic_2 ?_
            rcases ifc h with ⟨hc, h⟩ | ⟨hc, h⟩
            · refine J.cne (pc := 78) (tgt := 94) dX11_then_78 (by decide) (fun _ => ?_) (fun q => absurd hc q)
              refine J.aload_n (pc := 81) dX11_then_81 rfl 1 rfl ?_
              obtain ⟨a28, e29, h⟩ := bnd h
              have k30 : (kd a28).1 = 0 := gR_k e29
              refine J.fR (pc := 82) dX11_then_82 fl_RX11_48 k0 (okN hN21 k0 (by decide)) rfl e29 ?_
              refine J.sipush (pc := 85) dX11_then_85 is_146 ?_
              refine J.iload_n (pc := 88) dX11_then_88 rfl 2 rfl ?_
              refine J.iadd (pc := 89) dX11_then_89 ?_
              obtain ⟨x31, e32, h⟩ := bnd h
              refine J.aI (pc := 90) dX11_then_90 k30 (okN hN21 k30 (by decide)) e32 ?_
              refine J.goto (pc := 91) (tgt := 113) dX11_then_91 (by decide) ?_
              cases h
              exact J.iret (pc := 113) dX11_then_113 rfl ⟨rfl, rfl, hN21, trivial⟩
            · refine J.cne (pc := 78) (tgt := 94) dX11_then_78 (by decide) (fun q => absurd q hc) (fun _ => ?_)
              refine J.aload_n (pc := 94) dX11_then_94 rfl 1 rfl ?_
              obtain ⟨a33, e34, h⟩ := bnd h
              have k35 : (kd a33).1 = 0 := gR_k e34
              refine J.fR (pc := 95) dX11_then_95 fl_RX11_48 k0 (okN hN21 k0 (by decide)) rfl e34 ?_
              refine J.sipush (pc := 98) dX11_then_98 is_140 ?_
              refine J.iload_n (pc := 101) dX11_then_101 rfl 2 rfl ?_
              refine J.iadd (pc := 102) dX11_then_102 ?_
              obtain ⟨x36, e37, h⟩ := bnd h
              refine J.aI (pc := 103) dX11_then_103 k35 (okN hN21 k35 (by decide)) e37 ?_
              refine J.iconst (pc := 104) dX11_then_104 ic_m1 ?_
              rcases ifc h with ⟨hc, h⟩ | ⟨hc, h⟩
              · refine J.cne (pc := 105) (tgt := 112) dX11_then_105 (by decide) (fun _ => ?_) (fun q => absurd hc q)
                refine J.iconst (pc := 108) dX11_then_108 ic_0 ?_
                refine J.goto (pc := 109) (tgt := 113) dX11_then_109 (by decide) ?_
                cases h
                exact J.iret (pc := 113) dX11_then_113 rfl ⟨rfl, rfl, hN21, trivial⟩
              · refine J.cne (pc := 105) (tgt := 112) dX11_then_105 (by decide) (fun q => absurd q hc) (fun _ => ?_)
                refine J.iconst (pc := 112) dX11_then_112 ic_1 ?_
                cases h
                exact J.iret (pc := 113) dX11_then_113 rfl ⟨rfl, rfl, hN21, trivial⟩
def fX11_thrown (v0 : Nat) (μ : Mem) : Int32 :=
  (μ.2.1 v0 0)
set_option maxHeartbeats 4000000 in
theorem tX11_thrown {ω : Wd} {l : Launch} (d : Nat) (v0 : Nat) (μ : Mem) (hN : μ.1 = NN) (k0 : (kd v0).1 = 21) : Ct ω l mX11_thrown d [.ref v0] μ 0 0 (PE (.inl (some (.int (fX11_thrown v0 μ)))) μ True) := by
  refine Ct.of pn_RX11 (Nat.le_of_ble_eq_true rfl) ?_
  show J ω l mX11_thrown d 0 [(0, .ref v0)] [] μ 0 0 _
  generalize h : fX11_thrown v0 μ = res
  unfold fX11_thrown at h
  refine J.aload_n (pc := 0) dX11_thrown_0 rfl 0 rfl ?_
  refine J.fI (pc := 1) dX11_thrown_1 fl_RX11_99 k0 (okN hN k0 (by decide)) (Or.inl rfl) ?_
  cases h
  exact J.iret (pc := 4) dX11_thrown_4 rfl ⟨rfl, rfl, hN, trivial⟩
def fX11_toClear_51  (K41 : Nat → Int32 → Int32 → Int32 → Mem → Option (Int32 × Mem)) : Nat → Nat → Int32 → Int32 → Int32 → Int32 → Mem → Option (Int32 × Mem)
  | 0, _, _, _, _, _, _ => none
  | n + 1, v0, v2, v3, v4, v5, μ =>
    if v5 < (4 : Int32) then
      (gR μ v0 46 0).bind fun a1 =>
      (ldI μ a1 v4).bind fun x4 =>
      if x4 < (9999 : Int32) then
        (fX11_beside v0 (0 : Int32) v4 v5 μ).bind fun r7 =>
        if r7 = (-1 : Int32) then
          if (9999 : Int32) = (9999 : Int32) then
            (fX11_toClear_51 K41 n) v0 v2 v3 v4 (v5 + (1 : Int32)) μ
          else
            (gR μ v0 46 0).bind fun a10 =>
            (ldI μ a10 r7).bind fun x13 =>
            if (9999 : Int32) < x13 then
              (gR μ v0 46 0).bind fun a15 =>
              (stI μ a15 r7 (9999 : Int32)).bind fun μ18 =>
              (fX11_toClear_51 K41 n) v0 v2 (1 : Int32) v4 (v5 + (1 : Int32)) μ18
            else
              (fX11_toClear_51 K41 n) v0 v2 v3 v4 (v5 + (1 : Int32)) μ
        else
          (gR μ v0 46 0).bind fun a21 =>
          (ldI μ a21 v4).bind fun x24 =>
          (fX11_isWhite v0 (0 : Int32) r7 μ).bind fun r27 =>
          if r27 = 0 then
            if (x24 + (1 : Int32)) = (9999 : Int32) then
              (fX11_toClear_51 K41 n) v0 v2 v3 v4 (v5 + (1 : Int32)) μ
            else
              (gR μ v0 46 0).bind fun a30 =>
              (ldI μ a30 r7).bind fun x33 =>
              if (x24 + (1 : Int32)) < x33 then
                (gR μ v0 46 0).bind fun a35 =>
                (stI μ a35 r7 (x24 + (1 : Int32))).bind fun μ38 =>
                (fX11_toClear_51 K41 n) v0 v2 (1 : Int32) v4 (v5 + (1 : Int32)) μ38
              else
                (fX11_toClear_51 K41 n) v0 v2 v3 v4 (v5 + (1 : Int32)) μ
          else
            if (x24 + (0 : Int32)) = (9999 : Int32) then
              (fX11_toClear_51 K41 n) v0 v2 v3 v4 (v5 + (1 : Int32)) μ
            else
              (gR μ v0 46 0).bind fun a41 =>
              (ldI μ a41 r7).bind fun x44 =>
              if (x24 + (0 : Int32)) < x44 then
                (gR μ v0 46 0).bind fun a46 =>
                (stI μ a46 r7 (x24 + (0 : Int32))).bind fun μ49 =>
                (fX11_toClear_51 K41 n) v0 v2 (1 : Int32) v4 (v5 + (1 : Int32)) μ49
              else
                (fX11_toClear_51 K41 n) v0 v2 v3 v4 (v5 + (1 : Int32)) μ
      else
        K41 v0 v2 v3 (v4 + (1 : Int32)) μ
    else
      K41 v0 v2 v3 (v4 + (1 : Int32)) μ
set_option maxHeartbeats 4000000 in
theorem tX11_toClear_51 {ω : Wd} {l : Launch} (d : Nat) {res : Int32 × Mem} (K41 : Nat → Int32 → Int32 → Int32 → Mem → Option (Int32 × Mem)) (hK41 : ∀ (v0 : Nat) (v2 : Int32) (v3 : Int32) (v4 : Int32) (μ : Mem), K41 v0 v2 v3 v4 μ = some res → μ.1 = NN → (kd v0).1 = 21 → J ω l mX11_toClear (d + 1) 41 [(0, .ref v0), (2, .int v2), (3, .int v3), (4, .int v4)] [] μ 0 0 (PE (.inl (some (.int res.1))) res.2 True)) : ∀ n : Nat, ∀ (v0 : Nat) (v2 : Int32) (v3 : Int32) (v4 : Int32) (v5 : Int32) (μ : Mem), fX11_toClear_51 K41 n v0 v2 v3 v4 v5 μ = some res → μ.1 = NN → (kd v0).1 = 21 → J ω l mX11_toClear (d + 1) 51 [(0, .ref v0), (2, .int v2), (3, .int v3), (4, .int v4), (5, .int v5)] [] μ 0 0 (PE (.inl (some (.int res.1))) res.2 True) := by
  intro n
  induction n with
  | zero =>
    intro v0 v2 v3 v4 v5 μ h hN k0
    have h9 : (none : Option (Int32 × Mem)) = some res := h
    cases h9
  | succ n ih =>
    intro v0 v2 v3 v4 v5 μ h hN k0
    unfold fX11_toClear_51 at h
    refine J.iload (pc := 51) dX11_toClear_51 4 rfl ?_
    refine J.iconst (pc := 53) dX11_toClear_53 ic_4 ?_
    rcases ifc h with ⟨hc, h⟩ | ⟨hc, h⟩
    · refine J.cge (pc := 54) (tgt := 158) dX11_toClear_54 (by decide) (fun _ => ?_) (fun q => absurd hc q)
      refine J.aload_n (pc := 57) dX11_toClear_57 rfl 0 rfl ?_
      obtain ⟨a1, e2, h⟩ := bnd h
      have k3 : (kd a1).1 = 0 := gR_k e2
      refine J.fR (pc := 58) dX11_toClear_58 fl_RX11_72 k0 (okN hN k0 (by decide)) rfl e2 ?_
      refine J.iload (pc := 61) dX11_toClear_61 3 rfl ?_
      obtain ⟨x4, e5, h⟩ := bnd h
      refine J.aI (pc := 63) dX11_toClear_63 k3 (okN hN k3 (by decide)) e5 ?_
      refine J.sipush (pc := 64) dX11_toClear_64 is_9999 ?_
      rcases ifc h with ⟨hc, h⟩ | ⟨hc, h⟩
      · refine J.cge (pc := 67) (tgt := 158) dX11_toClear_67 (by decide) (fun _ => ?_) (fun q => absurd hc q)
        refine J.aload_n (pc := 70) dX11_toClear_70 rfl 0 rfl ?_
        refine J.iconst (pc := 71) dX11_toClear_71 ic_0 ?_
        refine J.iload (pc := 72) dX11_toClear_72 3 rfl ?_
        refine J.iload (pc := 74) dX11_toClear_74 4 rfl ?_
        obtain ⟨r7, e6, h⟩ := bnd h
        refine J.callV (Y := mX11_toClear) (Z := mX11_beside) (pc := 76) (st := []) (k2 := 0) (n2 := 0) dX11_toClear_76 ml_RX11_301 mo_X11_beside mv_X11_beside rfl (tX11_beside d e6 hN k0) k0 (okN hN k0 (by decide)).1 (okN hN k0 (by decide)).2 cq_11 (by decide) rfl rfl (Nat.le_of_ble_eq_true rfl) (by decide) (by decide) (fun v ν hp => ?_) (fun i ν hp => nrm hp.1)
        obtain ⟨rfl, rfl, hN8, hb9⟩ := QEl hp
        show J _ _ _ _ 79 _ ([.int r7]) _ _ _ _
        refine J.istore (pc := 79) ([(6, .int r7), (0, .ref v0), (2, .int v2), (3, .int v3), (4, .int v4), (5, .int v5)]) dX11_toClear_79 (Nat.le_of_ble_eq_true rfl) rfl ?_
        refine J.iload (pc := 81) dX11_toClear_81 0 rfl ?_
        refine J.iconst (pc := 83) dX11_toClear_83 ic_m1 ?_
        rcases ifc h with ⟨hc, h⟩ | ⟨hc, h⟩
        · refine J.cne (pc := 84) (tgt := 93) dX11_toClear_84 (by decide) (fun _ => ?_) (fun q => absurd hc q)
          refine J.sipush (pc := 87) dX11_toClear_87 is_9999 ?_
          refine J.goto (pc := 90) (tgt := 116) dX11_toClear_90 (by decide) ?_
          refine J.istore (pc := 116) ([(7, .int (9999 : Int32)), (6, .int r7), (0, .ref v0), (2, .int v2), (3, .int v3), (4, .int v4), (5, .int v5)]) dX11_toClear_116 (Nat.le_of_ble_eq_true rfl) rfl ?_
          refine J.iload (pc := 118) dX11_toClear_118 0 rfl ?_
          refine J.sipush (pc := 120) dX11_toClear_120 is_9999 ?_
          rcases ifc h with ⟨hc, h⟩ | ⟨hc, h⟩
          · refine J.ceq (pc := 123) (tgt := 152) dX11_toClear_123 (by decide) (fun _ => ?_) (fun q => absurd hc q)
            refine J.iinc (pc := 152) (j := 6) ([(5, .int (v5 + (1 : Int32))), (7, .int (9999 : Int32)), (6, .int r7), (0, .ref v0), (2, .int v2), (3, .int v3), (4, .int v4)]) dX11_toClear_152 rfl (iincv ic_1) (Nat.le_of_ble_eq_true rfl) rfl ?_
            refine J.goto (pc := 155) (tgt := 51) dX11_toClear_155 (by decide) ?_
            refine J.pick [3, 4, 5, 6, 0] rfl ?_
            exact ih v0 v2 v3 v4 (v5 + (1 : Int32)) μ h hN8 k0
          · refine J.ceq (pc := 123) (tgt := 152) dX11_toClear_123 (by decide) (fun q => absurd q hc) (fun _ => ?_)
            refine J.iload (pc := 126) dX11_toClear_126 0 rfl ?_
            refine J.aload_n (pc := 128) dX11_toClear_128 rfl 2 rfl ?_
            obtain ⟨a10, e11, h⟩ := bnd h
            have k12 : (kd a10).1 = 0 := gR_k e11
            refine J.fR (pc := 129) dX11_toClear_129 fl_RX11_72 k0 (okN hN8 k0 (by decide)) rfl e11 ?_
            refine J.iload (pc := 132) dX11_toClear_132 1 rfl ?_
            obtain ⟨x13, e14, h⟩ := bnd h
            refine J.aI (pc := 134) dX11_toClear_134 k12 (okN hN8 k12 (by decide)) e14 ?_
            rcases ifc h with ⟨hc, h⟩ | ⟨hc, h⟩
            · refine J.clt (pc := 135) (tgt := 141) dX11_toClear_135 (by decide) (fun _ => ?_) (fun q => absurd hc q)
              refine J.aload_n (pc := 141) dX11_toClear_141 rfl 2 rfl ?_
              obtain ⟨a15, e16, h⟩ := bnd h
              have k17 : (kd a15).1 = 0 := gR_k e16
              refine J.fR (pc := 142) dX11_toClear_142 fl_RX11_72 k0 (okN hN8 k0 (by decide)) rfl e16 ?_
              refine J.iload (pc := 145) dX11_toClear_145 1 rfl ?_
              refine J.iload (pc := 147) dX11_toClear_147 0 rfl ?_
              obtain ⟨μ18, e19, h⟩ := bnd h
              have hN20 : μ18.1 = NN := stI_N e19 hN8
              refine J.wI (pc := 149) dX11_toClear_149 k17 (okN hN8 k17 (by decide)) e19 ?_
              refine J.iconst (pc := 150) dX11_toClear_150 ic_1 ?_
              refine J.istore_n (pc := 151) ([(3, .int (1 : Int32)), (7, .int (9999 : Int32)), (6, .int r7), (0, .ref v0), (2, .int v2), (4, .int v4), (5, .int v5)]) dX11_toClear_151 rfl (Nat.le_of_ble_eq_true rfl) rfl ?_
              refine J.iinc (pc := 152) (j := 6) ([(5, .int (v5 + (1 : Int32))), (3, .int (1 : Int32)), (7, .int (9999 : Int32)), (6, .int r7), (0, .ref v0), (2, .int v2), (4, .int v4)]) dX11_toClear_152 rfl (iincv ic_1) (Nat.le_of_ble_eq_true rfl) rfl ?_
              refine J.goto (pc := 155) (tgt := 51) dX11_toClear_155 (by decide) ?_
              refine J.pick [4, 5, 1, 6, 0] rfl ?_
              exact ih v0 v2 (1 : Int32) v4 (v5 + (1 : Int32)) μ18 h hN20 k0
            · refine J.clt (pc := 135) (tgt := 141) dX11_toClear_135 (by decide) (fun q => absurd q hc) (fun _ => ?_)
              refine J.goto (pc := 138) (tgt := 152) dX11_toClear_138 (by decide) ?_
              refine J.iinc (pc := 152) (j := 6) ([(5, .int (v5 + (1 : Int32))), (7, .int (9999 : Int32)), (6, .int r7), (0, .ref v0), (2, .int v2), (3, .int v3), (4, .int v4)]) dX11_toClear_152 rfl (iincv ic_1) (Nat.le_of_ble_eq_true rfl) rfl ?_
              refine J.goto (pc := 155) (tgt := 51) dX11_toClear_155 (by decide) ?_
              refine J.pick [3, 4, 5, 6, 0] rfl ?_
              exact ih v0 v2 v3 v4 (v5 + (1 : Int32)) μ h hN8 k0
        · refine J.cne (pc := 84) (tgt := 93) dX11_toClear_84 (by decide) (fun q => absurd q hc) (fun _ => ?_)
          refine J.aload_n (pc := 93) dX11_toClear_93 rfl 1 rfl ?_
          obtain ⟨a21, e22, h⟩ := bnd h
          have k23 : (kd a21).1 = 0 := gR_k e22
          refine J.fR (pc := 94) dX11_toClear_94 fl_RX11_72 k0 (okN hN8 k0 (by decide)) rfl e22 ?_
          refine J.iload (pc := 97) dX11_toClear_97 4 rfl ?_
          obtain ⟨x24, e25, h⟩ := bnd h
          refine J.aI (pc := 99) dX11_toClear_99 k23 (okN hN8 k23 (by decide)) e25 ?_
          refine J.aload_n (pc := 100) dX11_toClear_100 rfl 1 rfl ?_
          refine J.iconst (pc := 101) dX11_toClear_101 ic_0 ?_
          refine J.iload (pc := 102) dX11_toClear_102 0 rfl ?_
          obtain ⟨r27, e26, h⟩ := bnd h
          refine J.callV (Y := mX11_toClear) (Z := mX11_isWhite) (pc := 104) (st := [.int x24]) (k2 := 0) (n2 := 0) dX11_toClear_104 ml_RX11_297 mo_X11_isWhite mv_X11_isWhite rfl (tX11_isWhite d e26 hN8 k0) k0 (okN hN8 k0 (by decide)).1 (okN hN8 k0 (by decide)).2 cq_11 (by decide) rfl rfl (Nat.le_of_ble_eq_true rfl) (by decide) (by decide) (fun v ν hp => ?_) (fun i ν hp => nrm hp.1)
          obtain ⟨rfl, rfl, hN28, hb29⟩ := QEl hp
          show J _ _ _ _ 107 _ ([.int r27, .int x24]) _ _ _ _
          rcases ifc h with ⟨hc, h⟩ | ⟨hc, h⟩
          · refine J.zeq (pc := 107) (tgt := 114) dX11_toClear_107 (by decide) (fun _ => ?_) (fun q => absurd hc q)
            refine J.iconst (pc := 114) dX11_toClear_114 ic_1 ?_
            refine J.iadd (pc := 115) dX11_toClear_115 ?_
            refine J.istore (pc := 116) ([(7, .int (x24 + (1 : Int32))), (6, .int r7), (0, .ref v0), (2, .int v2), (3, .int v3), (4, .int v4), (5, .int v5)]) dX11_toClear_116 (Nat.le_of_ble_eq_true rfl) rfl ?_
            refine J.iload (pc := 118) dX11_toClear_118 0 rfl ?_
            refine J.sipush (pc := 120) dX11_toClear_120 is_9999 ?_
            rcases ifc h with ⟨hc, h⟩ | ⟨hc, h⟩
            · refine J.ceq (pc := 123) (tgt := 152) dX11_toClear_123 (by decide) (fun _ => ?_) (fun q => absurd hc q)
              refine J.iinc (pc := 152) (j := 6) ([(5, .int (v5 + (1 : Int32))), (7, .int (x24 + (1 : Int32))), (6, .int r7), (0, .ref v0), (2, .int v2), (3, .int v3), (4, .int v4)]) dX11_toClear_152 rfl (iincv ic_1) (Nat.le_of_ble_eq_true rfl) rfl ?_
              refine J.goto (pc := 155) (tgt := 51) dX11_toClear_155 (by decide) ?_
              refine J.pick [3, 4, 5, 6, 0] rfl ?_
              exact ih v0 v2 v3 v4 (v5 + (1 : Int32)) μ h hN28 k0
            · refine J.ceq (pc := 123) (tgt := 152) dX11_toClear_123 (by decide) (fun q => absurd q hc) (fun _ => ?_)
              refine J.iload (pc := 126) dX11_toClear_126 0 rfl ?_
              refine J.aload_n (pc := 128) dX11_toClear_128 rfl 2 rfl ?_
              obtain ⟨a30, e31, h⟩ := bnd h
              have k32 : (kd a30).1 = 0 := gR_k e31
              refine J.fR (pc := 129) dX11_toClear_129 fl_RX11_72 k0 (okN hN28 k0 (by decide)) rfl e31 ?_
              refine J.iload (pc := 132) dX11_toClear_132 1 rfl ?_
              obtain ⟨x33, e34, h⟩ := bnd h
              refine J.aI (pc := 134) dX11_toClear_134 k32 (okN hN28 k32 (by decide)) e34 ?_
              rcases ifc h with ⟨hc, h⟩ | ⟨hc, h⟩
              · refine J.clt (pc := 135) (tgt := 141) dX11_toClear_135 (by decide) (fun _ => ?_) (fun q => absurd hc q)
                refine J.aload_n (pc := 141) dX11_toClear_141 rfl 2 rfl ?_
                obtain ⟨a35, e36, h⟩ := bnd h
                have k37 : (kd a35).1 = 0 := gR_k e36
                refine J.fR (pc := 142) dX11_toClear_142 fl_RX11_72 k0 (okN hN28 k0 (by decide)) rfl e36 ?_
                refine J.iload (pc := 145) dX11_toClear_145 1 rfl ?_
                refine J.iload (pc := 147) dX11_toClear_147 0 rfl ?_
                obtain ⟨μ38, e39, h⟩ := bnd h
                have hN40 : μ38.1 = NN := stI_N e39 hN28
                refine J.wI (pc := 149) dX11_toClear_149 k37 (okN hN28 k37 (by decide)) e39 ?_
                refine J.iconst (pc := 150) dX11_toClear_150 ic_1 ?_
                refine J.istore_n (pc := 151) ([(3, .int (1 : Int32)), (7, .int (x24 + (1 : Int32))), (6, .int r7), (0, .ref v0), (2, .int v2), (4, .int v4), (5, .int v5)]) dX11_toClear_151 rfl (Nat.le_of_ble_eq_true rfl) rfl ?_
                refine J.iinc (pc := 152) (j := 6) ([(5, .int (v5 + (1 : Int32))), (3, .int (1 : Int32)), (7, .int (x24 + (1 : Int32))), (6, .int r7), (0, .ref v0), (2, .int v2), (4, .int v4)]) dX11_toClear_152 rfl (iincv ic_1) (Nat.le_of_ble_eq_true rfl) rfl ?_
                refine J.goto (pc := 155) (tgt := 51) dX11_toClear_155 (by decide) ?_
                refine J.pick [4, 5, 1, 6, 0] rfl ?_
                exact ih v0 v2 (1 : Int32) v4 (v5 + (1 : Int32)) μ38 h hN40 k0
              · refine J.clt (pc := 135) (tgt := 141) dX11_toClear_135 (by decide) (fun q => absurd q hc) (fun _ => ?_)
                refine J.goto (pc := 138) (tgt := 152) dX11_toClear_138 (by decide) ?_
                refine J.iinc (pc := 152) (j := 6) ([(5, .int (v5 + (1 : Int32))), (7, .int (x24 + (1 : Int32))), (6, .int r7), (0, .ref v0), (2, .int v2), (3, .int v3), (4, .int v4)]) dX11_toClear_152 rfl (iincv ic_1) (Nat.le_of_ble_eq_true rfl) rfl ?_
                refine J.goto (pc := 155) (tgt := 51) dX11_toClear_155 (by decide) ?_
                refine J.pick [3, 4, 5, 6, 0] rfl ?_
                exact ih v0 v2 v3 v4 (v5 + (1 : Int32)) μ h hN28 k0
          · refine J.zeq (pc := 107) (tgt := 114) dX11_toClear_107 (by decide) (fun q => absurd q hc) (fun _ => ?_)
            refine J.iconst (pc := 110) dX11_toClear_110 ic_0 ?_
            refine J.goto (pc := 111) (tgt := 115) dX11_toClear_111 (by decide) ?_
            refine J.iadd (pc := 115) dX11_toClear_115 ?_
            refine J.istore (pc := 116) ([(7, .int (x24 + (0 : Int32))), (6, .int r7), (0, .ref v0), (2, .int v2), (3, .int v3), (4, .int v4), (5, .int v5)]) dX11_toClear_116 (Nat.le_of_ble_eq_true rfl) rfl ?_
            refine J.iload (pc := 118) dX11_toClear_118 0 rfl ?_
            refine J.sipush (pc := 120) dX11_toClear_120 is_9999 ?_
            rcases ifc h with ⟨hc, h⟩ | ⟨hc, h⟩
            · refine J.ceq (pc := 123) (tgt := 152) dX11_toClear_123 (by decide) (fun _ => ?_) (fun q => absurd hc q)
              refine J.iinc (pc := 152) (j := 6) ([(5, .int (v5 + (1 : Int32))), (7, .int (x24 + (0 : Int32))), (6, .int r7), (0, .ref v0), (2, .int v2), (3, .int v3), (4, .int v4)]) dX11_toClear_152 rfl (iincv ic_1) (Nat.le_of_ble_eq_true rfl) rfl ?_
              refine J.goto (pc := 155) (tgt := 51) dX11_toClear_155 (by decide) ?_
              refine J.pick [3, 4, 5, 6, 0] rfl ?_
              exact ih v0 v2 v3 v4 (v5 + (1 : Int32)) μ h hN28 k0
            · refine J.ceq (pc := 123) (tgt := 152) dX11_toClear_123 (by decide) (fun q => absurd q hc) (fun _ => ?_)
              refine J.iload (pc := 126) dX11_toClear_126 0 rfl ?_
              refine J.aload_n (pc := 128) dX11_toClear_128 rfl 2 rfl ?_
              obtain ⟨a41, e42, h⟩ := bnd h
              have k43 : (kd a41).1 = 0 := gR_k e42
              refine J.fR (pc := 129) dX11_toClear_129 fl_RX11_72 k0 (okN hN28 k0 (by decide)) rfl e42 ?_
              refine J.iload (pc := 132) dX11_toClear_132 1 rfl ?_
              obtain ⟨x44, e45, h⟩ := bnd h
              refine J.aI (pc := 134) dX11_toClear_134 k43 (okN hN28 k43 (by decide)) e45 ?_
              rcases ifc h with ⟨hc, h⟩ | ⟨hc, h⟩
              · refine J.clt (pc := 135) (tgt := 141) dX11_toClear_135 (by decide) (fun _ => ?_) (fun q => absurd hc q)
                refine J.aload_n (pc := 141) dX11_toClear_141 rfl 2 rfl ?_
                obtain ⟨a46, e47, h⟩ := bnd h
                have k48 : (kd a46).1 = 0 := gR_k e47
                refine J.fR (pc := 142) dX11_toClear_142 fl_RX11_72 k0 (okN hN28 k0 (by decide)) rfl e47 ?_
                refine J.iload (pc := 145) dX11_toClear_145 1 rfl ?_
                refine J.iload (pc := 147) dX11_toClear_147 0 rfl ?_
                obtain ⟨μ49, e50, h⟩ := bnd h
                have hN51 : μ49.1 = NN := stI_N e50 hN28
                refine J.wI (pc := 149) dX11_toClear_149 k48 (okN hN28 k48 (by decide)) e50 ?_
                refine J.iconst (pc := 150) dX11_toClear_150 ic_1 ?_
                refine J.istore_n (pc := 151) ([(3, .int (1 : Int32)), (7, .int (x24 + (0 : Int32))), (6, .int r7), (0, .ref v0), (2, .int v2), (4, .int v4), (5, .int v5)]) dX11_toClear_151 rfl (Nat.le_of_ble_eq_true rfl) rfl ?_
                refine J.iinc (pc := 152) (j := 6) ([(5, .int (v5 + (1 : Int32))), (3, .int (1 : Int32)), (7, .int (x24 + (0 : Int32))), (6, .int r7), (0, .ref v0), (2, .int v2), (4, .int v4)]) dX11_toClear_152 rfl (iincv ic_1) (Nat.le_of_ble_eq_true rfl) rfl ?_
                refine J.goto (pc := 155) (tgt := 51) dX11_toClear_155 (by decide) ?_
                refine J.pick [4, 5, 1, 6, 0] rfl ?_
                exact ih v0 v2 (1 : Int32) v4 (v5 + (1 : Int32)) μ49 h hN51 k0
              · refine J.clt (pc := 135) (tgt := 141) dX11_toClear_135 (by decide) (fun q => absurd q hc) (fun _ => ?_)
                refine J.goto (pc := 138) (tgt := 152) dX11_toClear_138 (by decide) ?_
                refine J.iinc (pc := 152) (j := 6) ([(5, .int (v5 + (1 : Int32))), (7, .int (x24 + (0 : Int32))), (6, .int r7), (0, .ref v0), (2, .int v2), (3, .int v3), (4, .int v4)]) dX11_toClear_152 rfl (iincv ic_1) (Nat.le_of_ble_eq_true rfl) rfl ?_
                refine J.goto (pc := 155) (tgt := 51) dX11_toClear_155 (by decide) ?_
                refine J.pick [3, 4, 5, 6, 0] rfl ?_
                exact ih v0 v2 v3 v4 (v5 + (1 : Int32)) μ h hN28 k0
      · refine J.cge (pc := 67) (tgt := 158) dX11_toClear_67 (by decide) (fun q => absurd q hc) (fun _ => ?_)
        refine J.iinc (pc := 158) (j := 3) ([(4, .int (v4 + (1 : Int32))), (0, .ref v0), (2, .int v2), (3, .int v3), (5, .int v5)]) dX11_toClear_158 rfl (iincv ic_1) (Nat.le_of_ble_eq_true rfl) rfl ?_
        refine J.goto (pc := 161) (tgt := 41) dX11_toClear_161 (by decide) ?_
        refine J.pick [1, 2, 3, 0] rfl ?_
        exact hK41 v0 v2 v3 (v4 + (1 : Int32)) μ h hN k0
    · refine J.cge (pc := 54) (tgt := 158) dX11_toClear_54 (by decide) (fun q => absurd q hc) (fun _ => ?_)
      refine J.iinc (pc := 158) (j := 3) ([(4, .int (v4 + (1 : Int32))), (0, .ref v0), (2, .int v2), (3, .int v3), (5, .int v5)]) dX11_toClear_158 rfl (iincv ic_1) (Nat.le_of_ble_eq_true rfl) rfl ?_
      refine J.goto (pc := 161) (tgt := 41) dX11_toClear_161 (by decide) ?_
      refine J.pick [1, 2, 3, 0] rfl ?_
      exact hK41 v0 v2 v3 (v4 + (1 : Int32)) μ h hN k0
def fX11_toClear_41  (K32 : Nat → Int32 → Int32 → Mem → Option (Int32 × Mem)) : Nat → Nat → Int32 → Int32 → Int32 → Mem → Option (Int32 × Mem)
  | 0, _, _, _, _, _ => none
  | n + 1, v0, v2, v3, v4, μ =>
    if v4 < (48 : Int32) then
      (fX11_toClear_51 (fX11_toClear_41 K32 n) fuel) v0 v2 v3 v4 (0 : Int32) μ
    else
      K32 v0 v2 v3 μ
set_option maxHeartbeats 4000000 in
theorem tX11_toClear_41 {ω : Wd} {l : Launch} (d : Nat) {res : Int32 × Mem} (K32 : Nat → Int32 → Int32 → Mem → Option (Int32 × Mem)) (hK32 : ∀ (v0 : Nat) (v2 : Int32) (v3 : Int32) (μ : Mem), K32 v0 v2 v3 μ = some res → μ.1 = NN → (kd v0).1 = 21 → J ω l mX11_toClear (d + 1) 32 [(0, .ref v0), (2, .int v2), (3, .int v3)] [] μ 0 0 (PE (.inl (some (.int res.1))) res.2 True)) : ∀ n : Nat, ∀ (v0 : Nat) (v2 : Int32) (v3 : Int32) (v4 : Int32) (μ : Mem), fX11_toClear_41 K32 n v0 v2 v3 v4 μ = some res → μ.1 = NN → (kd v0).1 = 21 → J ω l mX11_toClear (d + 1) 41 [(0, .ref v0), (2, .int v2), (3, .int v3), (4, .int v4)] [] μ 0 0 (PE (.inl (some (.int res.1))) res.2 True) := by
  intro n
  induction n with
  | zero =>
    intro v0 v2 v3 v4 μ h hN k0
    have h9 : (none : Option (Int32 × Mem)) = some res := h
    cases h9
  | succ n ih =>
    intro v0 v2 v3 v4 μ h hN k0
    unfold fX11_toClear_41 at h
    refine J.iload (pc := 41) dX11_toClear_41 3 rfl ?_
    refine J.bipush (pc := 43) dX11_toClear_43 ib_48 ?_
    rcases ifc h with ⟨hc, h⟩ | ⟨hc, h⟩
    · refine J.cge (pc := 45) (tgt := 164) dX11_toClear_45 (by decide) (fun _ => ?_) (fun q => absurd hc q)
      refine J.iconst (pc := 48) dX11_toClear_48 ic_0 ?_
      refine J.istore (pc := 49) ([(5, .int (0 : Int32)), (0, .ref v0), (2, .int v2), (3, .int v3), (4, .int v4)]) dX11_toClear_49 (Nat.le_of_ble_eq_true rfl) rfl ?_
      refine J.pick [1, 2, 3, 4, 0] rfl ?_
      exact (tX11_toClear_51 d (fX11_toClear_41 K32 n) ih fuel) v0 v2 v3 v4 (0 : Int32) μ h hN k0
    · refine J.cge (pc := 45) (tgt := 164) dX11_toClear_45 (by decide) (fun q => absurd q hc) (fun _ => ?_)
      refine J.goto (pc := 164) (tgt := 32) dX11_toClear_164 (by decide) ?_
      refine J.pick [0, 1, 2] rfl ?_
      exact hK32 v0 v2 v3 μ h hN k0
def fX11_toClear_32  : Nat → Nat → Int32 → Int32 → Mem → Option (Int32 × Mem)
  | 0, _, _, _, _ => none
  | n + 1, v0, v2, v3, μ =>
    if v3 = 0 then
      (gR μ v0 46 0).bind fun a1 =>
      (ldI μ a1 v2).bind fun x4 =>
      some (x4, μ)
    else
      (fX11_toClear_41 (fX11_toClear_32 n) fuel) v0 v2 (0 : Int32) (0 : Int32) μ
set_option maxHeartbeats 4000000 in
theorem tX11_toClear_32 {ω : Wd} {l : Launch} (d : Nat) {res : Int32 × Mem} : ∀ n : Nat, ∀ (v0 : Nat) (v2 : Int32) (v3 : Int32) (μ : Mem), fX11_toClear_32 n v0 v2 v3 μ = some res → μ.1 = NN → (kd v0).1 = 21 → J ω l mX11_toClear (d + 1) 32 [(0, .ref v0), (2, .int v2), (3, .int v3)] [] μ 0 0 (PE (.inl (some (.int res.1))) res.2 True) := by
  intro n
  induction n with
  | zero =>
    intro v0 v2 v3 μ h hN k0
    have h9 : (none : Option (Int32 × Mem)) = some res := h
    cases h9
  | succ n ih =>
    intro v0 v2 v3 μ h hN k0
    unfold fX11_toClear_32 at h
    refine J.iload_n (pc := 32) dX11_toClear_32 rfl 2 rfl ?_
    rcases ifc h with ⟨hc, h⟩ | ⟨hc, h⟩
    · refine J.zeq (pc := 33) (tgt := 167) dX11_toClear_33 (by decide) (fun _ => ?_) (fun q => absurd hc q)
      refine J.aload_n (pc := 167) dX11_toClear_167 rfl 0 rfl ?_
      obtain ⟨a1, e2, h⟩ := bnd h
      have k3 : (kd a1).1 = 0 := gR_k e2
      refine J.fR (pc := 168) dX11_toClear_168 fl_RX11_72 k0 (okN hN k0 (by decide)) rfl e2 ?_
      refine J.iload_n (pc := 171) dX11_toClear_171 rfl 1 rfl ?_
      obtain ⟨x4, e5, h⟩ := bnd h
      refine J.aI (pc := 172) dX11_toClear_172 k3 (okN hN k3 (by decide)) e5 ?_
      cases h
      exact J.iret (pc := 173) dX11_toClear_173 rfl ⟨rfl, rfl, hN, trivial⟩
    · refine J.zeq (pc := 33) (tgt := 167) dX11_toClear_33 (by decide) (fun q => absurd q hc) (fun _ => ?_)
      refine J.iconst (pc := 36) dX11_toClear_36 ic_0 ?_
      refine J.istore_n (pc := 37) ([(3, .int (0 : Int32)), (0, .ref v0), (2, .int v2)]) dX11_toClear_37 rfl (Nat.le_of_ble_eq_true rfl) rfl ?_
      refine J.iconst (pc := 38) dX11_toClear_38 ic_0 ?_
      refine J.istore (pc := 39) ([(4, .int (0 : Int32)), (3, .int (0 : Int32)), (0, .ref v0), (2, .int v2)]) dX11_toClear_39 (Nat.le_of_ble_eq_true rfl) rfl ?_
      refine J.pick [2, 3, 1, 0] rfl ?_
      exact (tX11_toClear_41 d (fX11_toClear_32 n) ih fuel) v0 v2 (0 : Int32) (0 : Int32) μ h hN k0
def fX11_toClear_2  : Nat → Nat → Int32 → Int32 → Int32 → Mem → Option (Int32 × Mem)
  | 0, _, _, _, _, _ => none
  | n + 1, v0, v1, v2, v3, μ =>
    if v3 < (48 : Int32) then
      (gR μ v0 46 0).bind fun a1 =>
      (stI μ a1 v3 (9999 : Int32)).bind fun μ4 =>
      (fX11_toClear_2 n) v0 v1 v2 (v3 + (1 : Int32)) μ4
    else
      (gR μ v0 46 0).bind fun a7 =>
      (stI μ a7 v1 (0 : Int32)).bind fun μ10 =>
      (fX11_toClear_32 fuel) v0 v2 (1 : Int32) μ10
set_option maxHeartbeats 4000000 in
theorem tX11_toClear_2 {ω : Wd} {l : Launch} (d : Nat) {res : Int32 × Mem} : ∀ n : Nat, ∀ (v0 : Nat) (v1 : Int32) (v2 : Int32) (v3 : Int32) (μ : Mem), fX11_toClear_2 n v0 v1 v2 v3 μ = some res → μ.1 = NN → (kd v0).1 = 21 → J ω l mX11_toClear (d + 1) 2 [(0, .ref v0), (1, .int v1), (2, .int v2), (3, .int v3)] [] μ 0 0 (PE (.inl (some (.int res.1))) res.2 True) := by
  intro n
  induction n with
  | zero =>
    intro v0 v1 v2 v3 μ h hN k0
    have h9 : (none : Option (Int32 × Mem)) = some res := h
    cases h9
  | succ n ih =>
    intro v0 v1 v2 v3 μ h hN k0
    unfold fX11_toClear_2 at h
    refine J.iload_n (pc := 2) dX11_toClear_2 rfl 3 rfl ?_
    refine J.bipush (pc := 3) dX11_toClear_3 ib_48 ?_
    rcases ifc h with ⟨hc, h⟩ | ⟨hc, h⟩
    · refine J.cge (pc := 5) (tgt := 23) dX11_toClear_5 (by decide) (fun _ => ?_) (fun q => absurd hc q)
      refine J.aload_n (pc := 8) dX11_toClear_8 rfl 0 rfl ?_
      obtain ⟨a1, e2, h⟩ := bnd h
      have k3 : (kd a1).1 = 0 := gR_k e2
      refine J.fR (pc := 9) dX11_toClear_9 fl_RX11_72 k0 (okN hN k0 (by decide)) rfl e2 ?_
      refine J.iload_n (pc := 12) dX11_toClear_12 rfl 3 rfl ?_
      refine J.sipush (pc := 13) dX11_toClear_13 is_9999 ?_
      obtain ⟨μ4, e5, h⟩ := bnd h
      have hN6 : μ4.1 = NN := stI_N e5 hN
      refine J.wI (pc := 16) dX11_toClear_16 k3 (okN hN k3 (by decide)) e5 ?_
      refine J.iinc (pc := 17) (j := 3) ([(3, .int (v3 + (1 : Int32))), (0, .ref v0), (1, .int v1), (2, .int v2)]) dX11_toClear_17 rfl (iincv ic_1) (Nat.le_of_ble_eq_true rfl) rfl ?_
      refine J.goto (pc := 20) (tgt := 2) dX11_toClear_20 (by decide) ?_
      refine J.pick [1, 2, 3, 0] rfl ?_
      exact ih v0 v1 v2 (v3 + (1 : Int32)) μ4 h hN6 k0
    · refine J.cge (pc := 5) (tgt := 23) dX11_toClear_5 (by decide) (fun q => absurd q hc) (fun _ => ?_)
      refine J.aload_n (pc := 23) dX11_toClear_23 rfl 0 rfl ?_
      obtain ⟨a7, e8, h⟩ := bnd h
      have k9 : (kd a7).1 = 0 := gR_k e8
      refine J.fR (pc := 24) dX11_toClear_24 fl_RX11_72 k0 (okN hN k0 (by decide)) rfl e8 ?_
      refine J.iload_n (pc := 27) dX11_toClear_27 rfl 1 rfl ?_
      refine J.iconst (pc := 28) dX11_toClear_28 ic_0 ?_
      obtain ⟨μ10, e11, h⟩ := bnd h
      have hN12 : μ10.1 = NN := stI_N e11 hN
      refine J.wI (pc := 29) dX11_toClear_29 k9 (okN hN k9 (by decide)) e11 ?_
      refine J.iconst (pc := 30) dX11_toClear_30 ic_1 ?_
      refine J.istore_n (pc := 31) ([(3, .int (1 : Int32)), (0, .ref v0), (1, .int v1), (2, .int v2)]) dX11_toClear_31 rfl (Nat.le_of_ble_eq_true rfl) rfl ?_
      refine J.pick [1, 3, 0] rfl ?_
      exact (tX11_toClear_32 d fuel) v0 v2 (1 : Int32) μ10 h hN12 k0
def fX11_toClear (v0 : Nat) (v1 : Int32) (v2 : Int32) (μ : Mem) : Option (Int32 × Mem) :=
  (fX11_toClear_2 fuel) v0 v1 v2 (0 : Int32) μ
set_option maxHeartbeats 4000000 in
theorem tX11_toClear {ω : Wd} {l : Launch} (d : Nat) {v0 : Nat} {v1 : Int32} {v2 : Int32} {μ : Mem} {res : Int32 × Mem} (h : fX11_toClear v0 v1 v2 μ = some res) (hN : μ.1 = NN) (k0 : (kd v0).1 = 21) : Ct ω l mX11_toClear (d + 1) [.ref v0, .int v1, .int v2] μ 0 0 (PE (.inl (some (.int res.1))) res.2 True) := by
  refine Ct.of pn_RX11 (Nat.le_of_ble_eq_true rfl) ?_
  show J ω l mX11_toClear (d + 1) 0 [(0, .ref v0), (1, .int v1), (2, .int v2)] [] μ 0 0 _
  unfold fX11_toClear at h
  refine J.iconst (pc := 0) dX11_toClear_0 ic_0 ?_
  refine J.istore_n (pc := 1) ([(3, .int (0 : Int32)), (0, .ref v0), (1, .int v1), (2, .int v2)]) dX11_toClear_1 rfl (Nat.le_of_ble_eq_true rfl) rfl ?_
  refine J.pick [1, 2, 3, 0] rfl ?_
  exact (tX11_toClear_2 d fuel) v0 v1 v2 (0 : Int32) μ h hN k0
