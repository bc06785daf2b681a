def fX11_need (v0 : Nat) (v1 : Int32) (μ : Mem) : Option (Mem) :=
  if (fX11_isGood v0 μ) = 0 then
    some μ
  else
    if v1 = 0 then
      (fX11_wrong v0 (1 : Int32) μ).bind fun μ5 =>
      some μ5
    else
      (fX11_goes v0 μ).bind fun μ9 =>
      some μ9
set_option maxHeartbeats 4000000 in
theorem tX11_need {ω : Wd} {l : Launch} (d : Nat) {v0 : Nat} {v1 : Int32} {μ : Mem} {res : Mem} (h : fX11_need v0 v1 μ = some res) (hN : μ.1 = NN) (k0 : (kd v0).1 = 21) : Ct ω l mX11_need (d + 2) [.ref v0, .int v1] μ 0 0 (PE (.inl none) res True) := by
  refine Ct.of pn_RX11 (Nat.le_of_ble_eq_true rfl) ?_
  show J ω l mX11_need (d + 2) 0 [(0, .ref v0), (1, .int v1)] [] μ 0 0 _
  unfold fX11_need at h
  refine J.aload_n (pc := 0) dX11_need_0 rfl 0 rfl ?_
  refine J.callV (Y := mX11_need) (Z := mX11_isGood) (pc := 1) (st := []) (k2 := 0) (n2 := 0) dX11_need_1 ml_RX11_158 mo_X11_isGood mv_X11_isGood rfl (tX11_isGood (d + 1) v0 μ hN k0) k0 (okN hN k0 (by decide)).1 (okN hN k0 (by decide)).2 cq_11 (by decide) rfl rfl (Nat.le_of_ble_eq_true rfl) (by decide) (by decide) (fun v ν hp => ?_) (fun i ν hp => nrm hp.1)
  obtain ⟨rfl, rfl, hN2, hb3⟩ := QEl hp
  show J _ _ _ _ 4 _ ([.int (fX11_isGood v0 μ)]) _ _ _ _
  rcases ifc h with ⟨hc, h⟩ | ⟨hc, h⟩
  · refine J.zne (pc := 4) (tgt := 8) dX11_need_4 (by decide) (fun _ => ?_) (fun q => absurd hc q)
    cases h
    exact J.vret (pc := 7) dX11_need_7 rfl ⟨rfl, rfl, hN2, trivial⟩
  · refine J.zne (pc := 4) (tgt := 8) dX11_need_4 (by decide) (fun q => absurd q hc) (fun _ => ?_)
    refine J.iload_n (pc := 8) dX11_need_8 rfl 1 rfl ?_
    rcases ifc h with ⟨hc, h⟩ | ⟨hc, h⟩
    · refine J.zeq (pc := 9) (tgt := 19) dX11_need_9 (by decide) (fun _ => ?_) (fun q => absurd hc q)
      refine J.aload_n (pc := 19) dX11_need_19 rfl 0 rfl ?_
      refine J.iconst (pc := 20) dX11_need_20 ic_1 ?_
      obtain ⟨μ5, e4, h⟩ := bnd h
      refine J.callV (Y := mX11_need) (Z := mX11_wrong) (pc := 21) (st := []) (k2 := 0) (n2 := 0) dX11_need_21 ml_RX11_165 mo_X11_wrong mv_X11_wrong rfl (tX11_wrong (d + 1) e4 hN2 k0) k0 (okN hN2 k0 (by decide)).1 (okN hN2 k0 (by decide)).2 cq_11 (by decide) rfl rfl (Nat.le_of_ble_eq_true rfl) (by decide) (by decide) (fun v ν hp => ?_) (fun i ν hp => nrm hp.1)
      obtain ⟨rfl, rfl, hN6, hb7⟩ := QEl hp
      show J _ _ _ _ 24 _ ([]) _ _ _ _
      cases h
      exact J.vret (pc := 24) dX11_need_24 rfl ⟨rfl, rfl, hN6, trivial⟩
    · refine J.zeq (pc := 9) (tgt := 19) dX11_need_9 (by decide) (fun q => absurd q hc) (fun _ => ?_)
      refine J.aload_n (pc := 12) dX11_need_12 rfl 0 rfl ?_
      obtain ⟨μ9, e8, h⟩ := bnd h
      refine J.callV (Y := mX11_need) (Z := mX11_goes) (pc := 13) (st := []) (k2 := 0) (n2 := 0) dX11_need_13 ml_RX11_162 mo_X11_goes mv_X11_goes rfl (tX11_goes d e8 hN2 k0) k0 (okN hN2 k0 (by decide)).1 (okN hN2 k0 (by decide)).2 cq_11 (by decide) rfl rfl (Nat.le_of_ble_eq_true rfl) (by decide) (by decide) (fun v ν hp => ?_) (fun i ν hp => nrm hp.1)
      obtain ⟨rfl, rfl, hN10, hb11⟩ := QEl hp
      show J _ _ _ _ 16 _ ([]) _ _ _ _
      refine J.goto (pc := 16) (tgt := 24) dX11_need_16 (by decide) ?_
      cases h
      exact J.vret (pc := 24) dX11_need_24 rfl ⟨rfl, rfl, hN10, trivial⟩
def fX11_number (v0 : Nat) (v1 : Int32) (v2 : Int32) (μ : Mem) : Option (Int32 × Mem) :=
  if (fX11_isGood v0 μ) = 0 then
    some ((0 : Int32), μ)
  else
    if (μ.2.1 v0 14) = (2 : Int32) then
      if (4 : Int32) < (μ.2.1 v0 16) then
        (fX11_wrong v0 (2 : Int32) μ).bind fun μ5 =>
        if (fX11_isGood v0 μ5) = 0 then
          some ((μ5.2.1 v0 17), μ5)
        else
          (fX11_goes v0 μ5).bind fun μ12 =>
          some ((μ5.2.1 v0 17), μ12)
      else
        if (μ.2.1 v0 17) < v1 then
          (fX11_wrong v0 (2 : Int32) μ).bind fun μ16 =>
          if (fX11_isGood v0 μ16) = 0 then
            some ((μ16.2.1 v0 17), μ16)
          else
            (fX11_goes v0 μ16).bind fun μ23 =>
            some ((μ16.2.1 v0 17), μ23)
        else
          if v2 < (μ.2.1 v0 17) then
            (fX11_wrong v0 (2 : Int32) μ).bind fun μ27 =>
            if (fX11_isGood v0 μ27) = 0 then
              some ((μ27.2.1 v0 17), μ27)
            else
              (fX11_goes v0 μ27).bind fun μ34 =>
              some ((μ27.2.1 v0 17), μ34)
          else
            if (fX11_isGood v0 μ) = 0 then
              some ((μ.2.1 v0 17), μ)
            else
              (fX11_goes v0 μ).bind fun μ41 =>
              some ((μ.2.1 v0 17), μ41)
    else
      (fX11_wrong v0 (1 : Int32) μ).bind fun μ45 =>
      if (fX11_isGood v0 μ45) = 0 then
        some ((μ45.2.1 v0 17), μ45)
      else
        (fX11_goes v0 μ45).bind fun μ52 =>
        some ((μ45.2.1 v0 17), μ52)
set_option maxHeartbeats 4000000 in
theorem tX11_number {ω : Wd} {l : Launch} (d : Nat) {v0 : Nat} {v1 : Int32} {v2 : Int32} {μ : Mem} {res : Int32 × Mem} (h : fX11_number v0 v1 v2 μ = some res) (hN : μ.1 = NN) (k0 : (kd v0).1 = 21) : Ct ω l mX11_number (d + 2) [.ref v0, .int v1, .int v2] μ 0 0 (PE (.inl (some (.int res.1))) res.2 True) := by
  refine Ct.of pn_RX11 (Nat.le_of_ble_eq_true rfl) ?_
  show J ω l mX11_number (d + 2) 0 [(0, .ref v0), (1, .int v1), (2, .int v2)] [] μ 0 0 _
  unfold fX11_number at h
  refine J.aload_n (pc := 0) dX11_number_0 rfl 0 rfl ?_
  refine J.callV (Y := mX11_number) (Z := mX11_isGood) (pc := 1) (st := []) (k2 := 0) (n2 := 0) dX11_number_1 ml_RX11_158 mo_X11_isGood mv_X11_isGood rfl (tX11_isGood (d + 1) v0 μ hN k0) k0 (okN hN k0 (by decide)).1 (okN hN k0 (by decide)).2 cq_11 (by decide) rfl rfl (Nat.le_of_ble_eq_true rfl) (by decide) (by decide) (fun v ν hp => ?_) (fun i ν hp => nrm hp.1)
  obtain ⟨rfl, rfl, hN2, hb3⟩ := QEl hp
  show J _ _ _ _ 4 _ ([.int (fX11_isGood v0 μ)]) _ _ _ _
  rcases ifc h with ⟨hc, h⟩ | ⟨hc, h⟩
  · refine J.zne (pc := 4) (tgt := 9) dX11_number_4 (by decide) (fun _ => ?_) (fun q => absurd hc q)
    refine J.iconst (pc := 7) dX11_number_7 ic_0 ?_
    cases h
    exact J.iret (pc := 8) dX11_number_8 rfl ⟨rfl, rfl, hN2, trivial⟩
  · refine J.zne (pc := 4) (tgt := 9) dX11_number_4 (by decide) (fun q => absurd q hc) (fun _ => ?_)
    refine J.aload_n (pc := 9) dX11_number_9 rfl 0 rfl ?_
    refine J.fI (pc := 10) dX11_number_10 fl_RX11_132 k0 (okN hN2 k0 (by decide)) (Or.inl rfl) ?_
    refine J.iconst (pc := 13) dX11_number_13 ic_2 ?_
    rcases ifc h with ⟨hc, h⟩ | ⟨hc, h⟩
    · refine J.ceq (pc := 14) (tgt := 25) dX11_number_14 (by decide) (fun _ => ?_) (fun q => absurd hc q)
      refine J.aload_n (pc := 25) dX11_number_25 rfl 0 rfl ?_
      refine J.fI (pc := 26) dX11_number_26 fl_RX11_142 k0 (okN hN2 k0 (by decide)) (Or.inl rfl) ?_
      refine J.iconst (pc := 29) dX11_number_29 ic_4 ?_
      rcases ifc h with ⟨hc, h⟩ | ⟨hc, h⟩
      · refine J.cgt (pc := 30) (tgt := 49) dX11_number_30 (by decide) (fun _ => ?_) (fun q => absurd hc q)
        refine J.aload_n (pc := 49) dX11_number_49 rfl 0 rfl ?_
        refine J.iconst (pc := 50) dX11_number_50 ic_2 ?_
        obtain ⟨μ5, e4, h⟩ := bnd h
        refine J.callV (Y := mX11_number) (Z := mX11_wrong) (pc := 51) (st := []) (k2 := 0) (n2 := 0) dX11_number_51 ml_RX11_165 mo_X11_wrong mv_X11_wrong rfl (tX11_wrong (d + 1) e4 hN2 k0) k0 (okN hN2 k0 (by decide)).1 (okN hN2 k0 (by decide)).2 cq_11 (by decide) rfl rfl (Nat.le_of_ble_eq_true rfl) (by decide) (by decide) (fun v ν hp => ?_) (fun i ν hp => nrm hp.1)
        obtain ⟨rfl, rfl, hN6, hb7⟩ := QEl hp
        show J _ _ _ _ 54 _ ([]) _ _ _ _
        refine J.aload_n (pc := 54) dX11_number_54 rfl 0 rfl ?_
        refine J.fI (pc := 55) dX11_number_55 fl_RX11_126 k0 (okN hN6 k0 (by decide)) (Or.inl rfl) ?_
        refine J.istore_n (pc := 58) ([(3, .int (μ5.2.1 v0 17)), (0, .ref v0), (1, .int v1), (2, .int v2)]) dX11_number_58 rfl (Nat.le_of_ble_eq_true rfl) rfl ?_
        refine J.aload_n (pc := 59) dX11_number_59 rfl 1 rfl ?_
        refine J.callV (Y := mX11_number) (Z := mX11_isGood) (pc := 60) (st := []) (k2 := 0) (n2 := 0) dX11_number_60 ml_RX11_158 mo_X11_isGood mv_X11_isGood rfl (tX11_isGood (d + 1) v0 μ5 hN6 k0) k0 (okN hN6 k0 (by decide)).1 (okN hN6 k0 (by decide)).2 cq_11 (by decide) rfl rfl (Nat.le_of_ble_eq_true rfl) (by decide) (by decide) (fun v ν hp => ?_) (fun i ν hp => nrm hp.1)
        obtain ⟨rfl, rfl, hN9, hb10⟩ := QEl hp
        show J _ _ _ _ 63 _ ([.int (fX11_isGood v0 μ5)]) _ _ _ _
        rcases ifc h with ⟨hc, h⟩ | ⟨hc, h⟩
        · refine J.zeq (pc := 63) (tgt := 70) dX11_number_63 (by decide) (fun _ => ?_) (fun q => absurd hc q)
          refine J.iload_n (pc := 70) dX11_number_70 rfl 0 rfl ?_
          cases h
          exact J.iret (pc := 71) dX11_number_71 rfl ⟨rfl, rfl, hN9, trivial⟩
        · refine J.zeq (pc := 63) (tgt := 70) dX11_number_63 (by decide) (fun q => absurd q hc) (fun _ => ?_)
          refine J.aload_n (pc := 66) dX11_number_66 rfl 1 rfl ?_
          obtain ⟨μ12, e11, h⟩ := bnd h
          refine J.callV (Y := mX11_number) (Z := mX11_goes) (pc := 67) (st := []) (k2 := 0) (n2 := 0) dX11_number_67 ml_RX11_162 mo_X11_goes mv_X11_goes rfl (tX11_goes d e11 hN9 k0) k0 (okN hN9 k0 (by decide)).1 (okN hN9 k0 (by decide)).2 cq_11 (by decide) rfl rfl (Nat.le_of_ble_eq_true rfl) (by decide) (by decide) (fun v ν hp => ?_) (fun i ν hp => nrm hp.1)
          obtain ⟨rfl, rfl, hN13, hb14⟩ := QEl hp
          show J _ _ _ _ 70 _ ([]) _ _ _ _
          refine J.iload_n (pc := 70) dX11_number_70 rfl 0 rfl ?_
          cases h
          exact J.iret (pc := 71) dX11_number_71 rfl ⟨rfl, rfl, hN13, trivial⟩
      · refine J.cgt (pc := 30) (tgt := 49) dX11_number_30 (by decide) (fun q => absurd q hc) (fun _ => ?_)
        refine J.aload_n (pc := 33) dX11_number_33 rfl 0 rfl ?_
        refine J.fI (pc := 34) dX11_number_34 fl_RX11_126 k0 (okN hN2 k0 (by decide)) (Or.inl rfl) ?_
        refine J.iload_n (pc := 37) dX11_number_37 rfl 1 rfl ?_
        rcases ifc h with ⟨hc, h⟩ | ⟨hc, h⟩
        · refine J.clt (pc := 38) (tgt := 49) dX11_number_38 (by decide) (fun _ => ?_) (fun q => absurd hc q)
          refine J.aload_n (pc := 49) dX11_number_49 rfl 0 rfl ?_
          refine J.iconst (pc := 50) dX11_number_50 ic_2 ?_
          obtain ⟨μ16, e15, h⟩ := bnd h
          refine J.callV (Y := mX11_number) (Z := mX11_wrong) (pc := 51) (st := []) (k2 := 0) (n2 := 0) dX11_number_51 ml_RX11_165 mo_X11_wrong mv_X11_wrong rfl (tX11_wrong (d + 1) e15 hN2 k0) k0 (okN hN2 k0 (by decide)).1 (okN hN2 k0 (by decide)).2 cq_11 (by decide) rfl rfl (Nat.le_of_ble_eq_true rfl) (by decide) (by decide) (fun v ν hp => ?_) (fun i ν hp => nrm hp.1)
          obtain ⟨rfl, rfl, hN17, hb18⟩ := QEl hp
          show J _ _ _ _ 54 _ ([]) _ _ _ _
          refine J.aload_n (pc := 54) dX11_number_54 rfl 0 rfl ?_
          refine J.fI (pc := 55) dX11_number_55 fl_RX11_126 k0 (okN hN17 k0 (by decide)) (Or.inl rfl) ?_
          refine J.istore_n (pc := 58) ([(3, .int (μ16.2.1 v0 17)), (0, .ref v0), (1, .int v1), (2, .int v2)]) dX11_number_58 rfl (Nat.le_of_ble_eq_true rfl) rfl ?_
          refine J.aload_n (pc := 59) dX11_number_59 rfl 1 rfl ?_
          refine J.callV (Y := mX11_number) (Z := mX11_isGood) (pc := 60) (st := []) (k2 := 0) (n2 := 0) dX11_number_60 ml_RX11_158 mo_X11_isGood mv_X11_isGood rfl (tX11_isGood (d + 1) v0 μ16 hN17 k0) k0 (okN hN17 k0 (by decide)).1 (okN hN17 k0 (by decide)).2 cq_11 (by decide) rfl rfl (Nat.le_of_ble_eq_true rfl) (by decide) (by decide) (fun v ν hp => ?_) (fun i ν hp => nrm hp.1)
          obtain ⟨rfl, rfl, hN20, hb21⟩ := QEl hp
          show J _ _ _ _ 63 _ ([.int (fX11_isGood v0 μ16)]) _ _ _ _
          rcases ifc h with ⟨hc, h⟩ | ⟨hc, h⟩
          · refine J.zeq (pc := 63) (tgt := 70) dX11_number_63 (by decide) (fun _ => ?_) (fun q => absurd hc q)
            refine J.iload_n (pc := 70) dX11_number_70 rfl 0 rfl ?_
            cases h
            exact J.iret (pc := 71) dX11_number_71 rfl ⟨rfl, rfl, hN20, trivial⟩
          · refine J.zeq (pc := 63) (tgt := 70) dX11_number_63 (by decide) (fun q => absurd q hc) (fun _ => ?_)
            refine J.aload_n (pc := 66) dX11_number_66 rfl 1 rfl ?_
            obtain ⟨μ23, e22, h⟩ := bnd h
            refine J.callV (Y := mX11_number) (Z := mX11_goes) (pc := 67) (st := []) (k2 := 0) (n2 := 0) dX11_number_67 ml_RX11_162 mo_X11_goes mv_X11_goes rfl (tX11_goes d e22 hN20 k0) k0 (okN hN20 k0 (by decide)).1 (okN hN20 k0 (by decide)).2 cq_11 (by decide) rfl rfl (Nat.le_of_ble_eq_true rfl) (by decide) (by decide) (fun v ν hp => ?_) (fun i ν hp => nrm hp.1)
            obtain ⟨rfl, rfl, hN24, hb25⟩ := QEl hp
            show J _ _ _ _ 70 _ ([]) _ _ _ _
            refine J.iload_n (pc := 70) dX11_number_70 rfl 0 rfl ?_
            cases h
            exact J.iret (pc := 71) dX11_number_71 rfl ⟨rfl, rfl, hN24, trivial⟩
        · refine J.clt (pc := 38) (tgt := 49) dX11_number_38 (by decide) (fun q => absurd q hc) (fun _ => ?_)
          refine J.aload_n (pc := 41) dX11_number_41 rfl 0 rfl ?_
          refine J.fI (pc := 42) dX11_number_42 fl_RX11_126 k0 (okN hN2 k0 (by decide)) (Or.inl rfl) ?_
          refine J.iload_n (pc := 45) dX11_number_45 rfl 2 rfl ?_
          rcases ifc h with ⟨hc, h⟩ | ⟨hc, h⟩
          · refine J.cle (pc := 46) (tgt := 54) dX11_number_46 (by decide) (fun _ => ?_) (fun q => absurd hc q)
            refine J.aload_n (pc := 49) dX11_number_49 rfl 0 rfl ?_
            refine J.iconst (pc := 50) dX11_number_50 ic_2 ?_
            obtain ⟨μ27, e26, h⟩ := bnd h
            refine J.callV (Y := mX11_number) (Z := mX11_wrong) (pc := 51) (st := []) (k2 := 0) (n2 := 0) dX11_number_51 ml_RX11_165 mo_X11_wrong mv_X11_wrong rfl (tX11_wrong (d + 1) e26 hN2 k0) k0 (okN hN2 k0 (by decide)).1 (okN hN2 k0 (by decide)).2 cq_11 (by decide) rfl rfl (Nat.le_of_ble_eq_true rfl) (by decide) (by decide) (fun v ν hp => ?_) (fun i ν hp => nrm hp.1)
            obtain ⟨rfl, rfl, hN28, hb29⟩ := QEl hp
            show J _ _ _ _ 54 _ ([]) _ _ _ _
            refine J.aload_n (pc := 54) dX11_number_54 rfl 0 rfl ?_
            refine J.fI (pc := 55) dX11_number_55 fl_RX11_126 k0 (okN hN28 k0 (by decide)) (Or.inl rfl) ?_
            refine J.istore_n (pc := 58) ([(3, .int (μ27.2.1 v0 17)), (0, .ref v0), (1, .int v1), (2, .int v2)]) dX11_number_58 rfl (Nat.le_of_ble_eq_true rfl) rfl ?_
            refine J.aload_n (pc := 59) dX11_number_59 rfl 1 rfl ?_
            refine J.callV (Y := mX11_number) (Z := mX11_isGood) (pc := 60) (st := []) (k2 := 0) (n2 := 0) dX11_number_60 ml_RX11_158 mo_X11_isGood mv_X11_isGood rfl (tX11_isGood (d + 1) v0 μ27 hN28 k0) k0 (okN hN28 k0 (by decide)).1 (okN hN28 k0 (by decide)).2 cq_11 (by decide) rfl rfl (Nat.le_of_ble_eq_true rfl) (by decide) (by decide) (fun v ν hp => ?_) (fun i ν hp => nrm hp.1)
            obtain ⟨rfl, rfl, hN31, hb32⟩ := QEl hp
            show J _ _ _ _ 63 _ ([.int (fX11_isGood v0 μ27)]) _ _ _ _
            rcases ifc h with ⟨hc, h⟩ | ⟨hc, h⟩
            · refine J.zeq (pc := 63) (tgt := 70) dX11_number_63 (by decide) (fun _ => ?_) (fun q => absurd hc q)
              refine J.iload_n (pc := 70) dX11_number_70 rfl 0 rfl ?_
              cases h
              exact J.iret (pc := 71) dX11_number_71 rfl ⟨rfl, rfl, hN31, trivial⟩
            · refine J.zeq (pc := 63) (tgt := 70) dX11_number_63 (by decide) (fun q => absurd q hc) (fun _ => ?_)
              refine J.aload_n (pc := 66) dX11_number_66 rfl 1 rfl ?_
              obtain ⟨μ34, e33, h⟩ := bnd h
              refine J.callV (Y := mX11_number) (Z := mX11_goes) (pc := 67) (st := []) (k2 := 0) (n2 := 0) dX11_number_67 ml_RX11_162 mo_X11_goes mv_X11_goes rfl (tX11_goes d e33 hN31 k0) k0 (okN hN31 k0 (by decide)).1 (okN hN31 k0 (by decide)).2 cq_11 (by decide) rfl rfl (Nat.le_of_ble_eq_true rfl) (by decide) (by decide) (fun v ν hp => ?_) (fun i ν hp => nrm hp.1)
              obtain ⟨rfl, rfl, hN35, hb36⟩ := QEl hp
              show J _ _ _ _ 70 _ ([]) _ _ _ _
              refine J.iload_n (pc := 70) dX11_number_70 rfl 0 rfl ?_
              cases h
              exact J.iret (pc := 71) dX11_number_71 rfl ⟨rfl, rfl, hN35, trivial⟩
          · refine J.cle (pc := 46) (tgt := 54) dX11_number_46 (by decide) (fun q => absurd q hc) (fun _ => ?_)
            refine J.aload_n (pc := 54) dX11_number_54 rfl 0 rfl ?_
            refine J.fI (pc := 55) dX11_number_55 fl_RX11_126 k0 (okN hN2 k0 (by decide)) (Or.inl rfl) ?_
            refine J.istore_n (pc := 58) ([(3, .int (μ.2.1 v0 17)), (0, .ref v0), (1, .int v1), (2, .int v2)]) dX11_number_58 rfl (Nat.le_of_ble_eq_true rfl) rfl ?_
            refine J.aload_n (pc := 59) dX11_number_59 rfl 1 rfl ?_
            refine J.callV (Y := mX11_number) (Z := mX11_isGood) (pc := 60) (st := []) (k2 := 0) (n2 := 0) dX11_number_60 ml_RX11_158 mo_X11_isGood mv_X11_isGood rfl (tX11_isGood (d + 1) v0 μ hN2 k0) k0 (okN hN2 k0 (by decide)).1 (okN hN2 k0 (by decide)).2 cq_11 (by decide) rfl rfl (Nat.le_of_ble_eq_true rfl) (by decide) (by decide) (fun v ν hp => ?_) (fun i ν hp => nrm hp.1)
            obtain ⟨rfl, rfl, hN38, hb39⟩ := QEl hp
            show J _ _ _ _ 63 _ ([.int (fX11_isGood v0 μ)]) _ _ _ _
            rcases ifc h with ⟨hc, h⟩ | ⟨hc, h⟩
            · refine J.zeq (pc := 63) (tgt := 70) dX11_number_63 (by decide) (fun _ => ?_) (fun q => absurd hc q)
              refine J.iload_n (pc := 70) dX11_number_70 rfl 0 rfl ?_
              cases h
              exact J.iret (pc := 71) dX11_number_71 rfl ⟨rfl, rfl, hN38, trivial⟩
            · refine J.zeq (pc := 63) (tgt := 70) dX11_number_63 (by decide) (fun q => absurd q hc) (fun _ => ?_)
              refine J.aload_n (pc := 66) dX11_number_66 rfl 1 rfl ?_
              obtain ⟨μ41, e40, h⟩ := bnd h
              refine J.callV (Y := mX11_number) (Z := mX11_goes) (pc := 67) (st := []) (k2 := 0) (n2 := 0) dX11_number_67 ml_RX11_162 mo_X11_goes mv_X11_goes rfl (tX11_goes d e40 hN38 k0) k0 (okN hN38 k0 (by decide)).1 (okN hN38 k0 (by decide)).2 cq_11 (by decide) rfl rfl (Nat.le_of_ble_eq_true rfl) (by decide) (by decide) (fun v ν hp => ?_) (fun i ν hp => nrm hp.1)
              obtain ⟨rfl, rfl, hN42, hb43⟩ := QEl hp
              show J _ _ _ _ 70 _ ([]) _ _ _ _
              refine J.iload_n (pc := 70) dX11_number_70 rfl 0 rfl ?_
              cases h
              exact J.iret (pc := 71) dX11_number_71 rfl ⟨rfl, rfl, hN42, trivial⟩
    · refine J.ceq (pc := 14) (tgt := 25) dX11_number_14 (by decide) (fun q => absurd q hc) (fun _ => ?_)
      refine J.aload_n (pc := 17) dX11_number_17 rfl 0 rfl ?_
      refine J.iconst (pc := 18) dX11_number_18 ic_1 ?_
      obtain ⟨μ45, e44, h⟩ := bnd h
      refine J.callV (Y := mX11_number) (Z := mX11_wrong) (pc := 19) (st := []) (k2 := 0) (n2 := 0) dX11_number_19 ml_RX11_165 mo_X11_wrong mv_X11_wrong rfl (tX11_wrong (d + 1) e44 hN2 k0) k0 (okN hN2 k0 (by decide)).1 (okN hN2 k0 (by decide)).2 cq_11 (by decide) rfl rfl (Nat.le_of_ble_eq_true rfl) (by decide) (by decide) (fun v ν hp => ?_) (fun i ν hp => nrm hp.1)
      obtain ⟨rfl, rfl, hN46, hb47⟩ := QEl hp
      show J _ _ _ _ 22 _ ([]) _ _ _ _
      refine J.goto (pc := 22) (tgt := 54) dX11_number_22 (by decide) ?_
      refine J.aload_n (pc := 54) dX11_number_54 rfl 0 rfl ?_
      refine J.fI (pc := 55) dX11_number_55 fl_RX11_126 k0 (okN hN46 k0 (by decide)) (Or.inl rfl) ?_
      refine J.istore_n (pc := 58) ([(3, .int (μ45.2.1 v0 17)), (0, .ref v0), (1, .int v1), (2, .int v2)]) dX11_number_58 rfl (Nat.le_of_ble_eq_true rfl) rfl ?_
      refine J.aload_n (pc := 59) dX11_number_59 rfl 1 rfl ?_
      refine J.callV (Y := mX11_number) (Z := mX11_isGood) (pc := 60) (st := []) (k2 := 0) (n2 := 0) dX11_number_60 ml_RX11_158 mo_X11_isGood mv_X11_isGood rfl (tX11_isGood (d + 1) v0 μ45 hN46 k0) k0 (okN hN46 k0 (by decide)).1 (okN hN46 k0 (by decide)).2 cq_11 (by decide) rfl rfl (Nat.le_of_ble_eq_true rfl) (by decide) (by decide) (fun v ν hp => ?_) (fun i ν hp => nrm hp.1)
      obtain ⟨rfl, rfl, hN49, hb50⟩ := QEl hp
      show J _ _ _ _ 63 _ ([.int (fX11_isGood v0 μ45)]) _ _ _ _
      rcases ifc h with ⟨hc, h⟩ | ⟨hc, h⟩
      · refine J.zeq (pc := 63) (tgt := 70) dX11_number_63 (by decide) (fun _ => ?_) (fun q => absurd hc q)
        refine J.iload_n (pc := 70) dX11_number_70 rfl 0 rfl ?_
        cases h
        exact J.iret (pc := 71) dX11_number_71 rfl ⟨rfl, rfl, hN49, trivial⟩
      · refine J.zeq (pc := 63) (tgt := 70) dX11_number_63 (by decide) (fun q => absurd q hc) (fun _ => ?_)
        refine J.aload_n (pc := 66) dX11_number_66 rfl 1 rfl ?_
        obtain ⟨μ52, e51, h⟩ := bnd h
        refine J.callV (Y := mX11_number) (Z := mX11_goes) (pc := 67) (st := []) (k2 := 0) (n2 := 0) dX11_number_67 ml_RX11_162 mo_X11_goes mv_X11_goes rfl (tX11_goes d e51 hN49 k0) k0 (okN hN49 k0 (by decide)).1 (okN hN49 k0 (by decide)).2 cq_11 (by decide) rfl rfl (Nat.le_of_ble_eq_true rfl) (by decide) (by decide) (fun v ν hp => ?_) (fun i ν hp => nrm hp.1)
        obtain ⟨rfl, rfl, hN53, hb54⟩ := QEl hp
        show J _ _ _ _ 70 _ ([]) _ _ _ _
        refine J.iload_n (pc := 70) dX11_number_70 rfl 0 rfl ?_
        cases h
        exact J.iret (pc := 71) dX11_number_71 rfl ⟨rfl, rfl, hN53, trivial⟩
def fX11_readsDeed_9  : Nat → Nat → Int32 → Int32 → Int32 → Mem → Option (Mem)
  | 0, _, _, _, _, _ => none
  | n + 1, v0, v1, v2, v3, μ =>
    if v3 = 0 then
      (gR μ v0 29 0).bind fun a1 =>
      (stI μ a1 v1 v2).bind fun μ4 =>
      (some (sI μ4 v0 20 ((μ4.2.1 v0 20) + (1 : Int32)))).bind fun μ7 =>
      some μ7
    else
      if (fX11_isGood v0 μ) = 0 then
        (gR μ v0 29 0).bind fun a13 =>
        (stI μ a13 v1 v2).bind fun μ16 =>
        (some (sI μ16 v0 20 ((μ16.2.1 v0 20) + (1 : Int32)))).bind fun μ19 =>
        some μ19
      else
        if v2 = (8 : Int32) then
          if (μ.2.1 v0 14) = (2 : Int32) then
            (fX11_wrong v0 (2 : Int32) μ).bind fun μ23 =>
            (fX11_number v0 (0 : Int32) (9 : Int32) μ23).bind fun (r28, μ27) =>
            if (fX11_isGood v0 μ27) = 0 then
              some μ27
            else
              (gR μ27 v0 30 0).bind fun a34 =>
              (stI μ27 a34 (((1 : Int32) + ((8 : Int32) * v1)) + v2) r28).bind fun μ37 =>
              if (μ37.2.1 v0 14) = (2 : Int32) then
                (fX11_readsDeed_9 n) v0 v1 (v2 + (1 : Int32)) (1 : Int32) μ37
              else
                (fX11_readsDeed_9 n) v0 v1 (v2 + (1 : Int32)) (0 : Int32) μ37
          else
            (fX11_number v0 (0 : Int32) (9 : Int32) μ).bind fun (r42, μ41) =>
            if (fX11_isGood v0 μ41) = 0 then
              some μ41
            else
              (gR μ41 v0 30 0).bind fun a48 =>
              (stI μ41 a48 (((1 : Int32) + ((8 : Int32) * v1)) + v2) r42).bind fun μ51 =>
              if (μ51.2.1 v0 14) = (2 : Int32) then
                (fX11_readsDeed_9 n) v0 v1 (v2 + (1 : Int32)) (1 : Int32) μ51
              else
                (fX11_readsDeed_9 n) v0 v1 (v2 + (1 : Int32)) (0 : Int32) μ51
        else
          (fX11_number v0 (0 : Int32) (9 : Int32) μ).bind fun (r56, μ55) =>
          if (fX11_isGood v0 μ55) = 0 then
            some μ55
          else
            (gR μ55 v0 30 0).bind fun a62 =>
            (stI μ55 a62 (((1 : Int32) + ((8 : Int32) * v1)) + v2) r56).bind fun μ65 =>
            if (μ65.2.1 v0 14) = (2 : Int32) then
              (fX11_readsDeed_9 n) v0 v1 (v2 + (1 : Int32)) (1 : Int32) μ65
            else
              (fX11_readsDeed_9 n) v0 v1 (v2 + (1 : Int32)) (0 : Int32) μ65
set_option maxHeartbeats 4000000 in
theorem tX11_readsDeed_9 {ω : Wd} {l : Launch} (d : Nat) {res : Mem} : ∀ n : Nat, ∀ (v0 : Nat) (v1 : Int32) (v2 : Int32) (v3 : Int32) (μ : Mem), fX11_readsDeed_9 n v0 v1 v2 v3 μ = some res → μ.1 = NN → (kd v0).1 = 21 → J ω l mX11_readsDeed (d + 3) 9 [(0, .ref v0), (1, .int v1), (2, .int v2), (3, .int v3)] [] μ 0 0 (PE (.inl none) res True) := by
  intro n
  induction n with
  | zero =>
    intro v0 v1 v2 v3 μ h hN k0
    have h9 : (none : Option (Mem)) = some res := h
    cases h9
  | succ n ih =>
    intro v0 v1 v2 v3 μ h hN k0
    unfold fX11_readsDeed_9 at h
    refine J.iload_n (pc := 9) dX11_readsDeed_9 rfl 3 rfl ?_
    rcases ifc h with ⟨hc, h⟩ | ⟨hc, h⟩
    · refine J.zeq (pc := 10) (tgt := 91) dX11_readsDeed_10 (by decide) (fun _ => ?_) (fun q => absurd hc q)
      refine J.aload_n (pc := 91) dX11_readsDeed_91 rfl 0 rfl ?_
      obtain ⟨a1, e2, h⟩ := bnd h
      have k3 : (kd a1).1 = 0 := gR_k e2
      refine J.fR (pc := 92) dX11_readsDeed_92 fl_RX11_32 k0 (okN hN k0 (by decide)) rfl e2 ?_
      refine J.iload_n (pc := 95) dX11_readsDeed_95 rfl 1 rfl ?_
      refine J.iload_n (pc := 96) dX11_readsDeed_96 rfl 2 rfl ?_
      obtain ⟨μ4, e5, h⟩ := bnd h
      have hN6 : μ4.1 = NN := stI_N e5 hN
      refine J.wI (pc := 97) dX11_readsDeed_97 k3 (okN hN k3 (by decide)) e5 ?_
      refine J.aload_n (pc := 98) dX11_readsDeed_98 rfl 0 rfl ?_
      refine J.dup (pc := 99) dX11_readsDeed_99 rfl ?_
      refine J.fI (pc := 100) dX11_readsDeed_100 fl_RX11_221 k0 (okN hN6 k0 (by decide)) (Or.inl rfl) ?_
      refine J.iconst (pc := 103) dX11_readsDeed_103 ic_1 ?_
      refine J.iadd (pc := 104) dX11_readsDeed_104 ?_
      obtain ⟨μ7, e8, h⟩ := bnd h
      have hN9 : μ7.1 = NN := smN e8 hN6
      refine J.qI (pc := 105) dX11_readsDeed_105 fl_RX11_221 k0 (okN hN6 k0 (by decide)) rfl rfl e8 ?_
      cases h
      exact J.vret (pc := 108) dX11_readsDeed_108 rfl ⟨rfl, rfl, hN9, trivial⟩
    · refine J.zeq (pc := 10) (tgt := 91) dX11_readsDeed_10 (by decide) (fun q => absurd q hc) (fun _ => ?_)
      refine J.aload_n (pc := 13) dX11_readsDeed_13 rfl 0 rfl ?_
      refine J.callV (Y := mX11_readsDeed) (Z := mX11_isGood) (pc := 14) (st := []) (k2 := 0) (n2 := 0) dX11_readsDeed_14 ml_RX11_158 mo_X11_isGood mv_X11_isGood rfl (tX11_isGood (d + 2) v0 μ hN k0) k0 (okN hN k0 (by decide)).1 (okN hN k0 (by decide)).2 cq_11 (by decide) rfl rfl (Nat.le_of_ble_eq_true rfl) (by decide) (by decide) (fun v ν hp => ?_) (fun i ν hp => nrm hp.1)
      obtain ⟨rfl, rfl, hN11, hb12⟩ := QEl hp
      show J _ _ _ _ 17 _ ([.int (fX11_isGood v0 μ)]) _ _ _ _
      rcases ifc h with ⟨hc, h⟩ | ⟨hc, h⟩
      · refine J.zeq (pc := 17) (tgt := 91) dX11_readsDeed_17 (by decide) (fun _ => ?_) (fun q => absurd hc q)
        refine J.aload_n (pc := 91) dX11_readsDeed_91 rfl 0 rfl ?_
        obtain ⟨a13, e14, h⟩ := bnd h
        have k15 : (kd a13).1 = 0 := gR_k e14
        refine J.fR (pc := 92) dX11_readsDeed_92 fl_RX11_32 k0 (okN hN11 k0 (by decide)) rfl e14 ?_
        refine J.iload_n (pc := 95) dX11_readsDeed_95 rfl 1 rfl ?_
        refine J.iload_n (pc := 96) dX11_readsDeed_96 rfl 2 rfl ?_
        obtain ⟨μ16, e17, h⟩ := bnd h
        have hN18 : μ16.1 = NN := stI_N e17 hN11
        refine J.wI (pc := 97) dX11_readsDeed_97 k15 (okN hN11 k15 (by decide)) e17 ?_
        refine J.aload_n (pc := 98) dX11_readsDeed_98 rfl 0 rfl ?_
        refine J.dup (pc := 99) dX11_readsDeed_99 rfl ?_
        refine J.fI (pc := 100) dX11_readsDeed_100 fl_RX11_221 k0 (okN hN18 k0 (by decide)) (Or.inl rfl) ?_
        refine J.iconst (pc := 103) dX11_readsDeed_103 ic_1 ?_
        refine J.iadd (pc := 104) dX11_readsDeed_104 ?_
        obtain ⟨μ19, e20, h⟩ := bnd h
        have hN21 : μ19.1 = NN := smN e20 hN18
        refine J.qI (pc := 105) dX11_readsDeed_105 fl_RX11_221 k0 (okN hN18 k0 (by decide)) rfl rfl e20 ?_
        cases h
        exact J.vret (pc := 108) dX11_readsDeed_108 rfl ⟨rfl, rfl, hN21, trivial⟩
      · refine J.zeq (pc := 17) (tgt := 91) dX11_readsDeed_17 (by decide) (fun q => absurd q hc) (fun _ => ?_)
        refine J.iload_n (pc := 20) dX11_readsDeed_20 rfl 2 rfl ?_
        refine J.bipush (pc := 21) dX11_readsDeed_21 ib_8 ?_
        rcases ifc h with ⟨hc, h⟩ | ⟨hc, h⟩
        · refine J.cne (pc := 23) (tgt := 39) dX11_readsDeed_23 (by decide) (fun _ => ?_) (fun q => absurd hc q)
          refine J.aload_n (pc := 26) dX11_readsDeed_26 rfl 0 rfl ?_
          refine J.fI (pc := 27) dX11_readsDeed_27 fl_RX11_132 k0 (okN hN11 k0 (by decide)) (Or.inl rfl) ?_
          refine J.iconst (pc := 30) dX11_readsDeed_30 ic_2 ?_
          rcases ifc h with ⟨hc, h⟩ | ⟨hc, h⟩
          · refine J.cne (pc := 31) (tgt := 39) dX11_readsDeed_31 (by decide) (fun _ => ?_) (fun q => absurd hc q)
            refine J.aload_n (pc := 34) dX11_readsDeed_34 rfl 0 rfl ?_
            refine J.iconst (pc := 35) dX11_readsDeed_35 ic_2 ?_
            obtain ⟨μ23, e22, h⟩ := bnd h
            refine J.callV (Y := mX11_readsDeed) (Z := mX11_wrong) (pc := 36) (st := []) (k2 := 0) (n2 := 0) dX11_readsDeed_36 ml_RX11_165 mo_X11_wrong mv_X11_wrong rfl (tX11_wrong (d + 2) e22 hN11 k0) k0 (okN hN11 k0 (by decide)).1 (okN hN11 k0 (by decide)).2 cq_11 (by decide) rfl rfl (Nat.le_of_ble_eq_true rfl) (by decide) (by decide) (fun v ν hp => ?_) (fun i ν hp => nrm hp.1)
            obtain ⟨rfl, rfl, hN24, hb25⟩ := QEl hp
            show J _ _ _ _ 39 _ ([]) _ _ _ _
            refine J.aload_n (pc := 39) dX11_readsDeed_39 rfl 0 rfl ?_
            refine J.iconst (pc := 40) dX11_readsDeed_40 ic_0 ?_
            refine J.bipush (pc := 41) dX11_readsDeed_41 ib_9 ?_
            obtain ⟨⟨r28, μ27⟩, e26, h⟩ := bnd h
            try dsimp only at h
            refine J.callV (Y := mX11_readsDeed) (Z := mX11_number) (pc := 43) (st := []) (k2 := 0) (n2 := 0) dX11_readsDeed_43 ml_RX11_224 mo_X11_number mv_X11_number rfl (tX11_number d e26 hN24 k0) k0 (okN hN24 k0 (by decide)).1 (okN hN24 k0 (by decide)).2 cq_11 (by decide) rfl rfl (Nat.le_of_ble_eq_true rfl) (by decide) (by decide) (fun v ν hp => ?_) (fun i ν hp => nrm hp.1)
            obtain ⟨rfl, rfl, hN29, hb30⟩ := QEl hp
            show J _ _ _ _ 46 _ ([.int r28]) _ _ _ _
            refine J.istore (pc := 46) ([(4, .int r28), (0, .ref v0), (1, .int v1), (2, .int v2), (3, .int v3)]) dX11_readsDeed_46 (Nat.le_of_ble_eq_true rfl) rfl ?_
            refine J.aload_n (pc := 48) dX11_readsDeed_48 rfl 1 rfl ?_
            refine J.callV (Y := mX11_readsDeed) (Z := mX11_isGood) (pc := 49) (st := []) (k2 := 0) (n2 := 0) dX11_readsDeed_49 ml_RX11_158 mo_X11_isGood mv_X11_isGood rfl (tX11_isGood (d + 2) v0 μ27 hN29 k0) k0 (okN hN29 k0 (by decide)).1 (okN hN29 k0 (by decide)).2 cq_11 (by decide) rfl rfl (Nat.le_of_ble_eq_true rfl) (by decide) (by decide) (fun v ν hp => ?_) (fun i ν hp => nrm hp.1)
            obtain ⟨rfl, rfl, hN32, hb33⟩ := QEl hp
            show J _ _ _ _ 52 _ ([.int (fX11_isGood v0 μ27)]) _ _ _ _
            rcases ifc h with ⟨hc, h⟩ | ⟨hc, h⟩
            · refine J.zne (pc := 52) (tgt := 56) dX11_readsDeed_52 (by decide) (fun _ => ?_) (fun q => absurd hc q)
              cases h
              exact J.vret (pc := 55) dX11_readsDeed_55 rfl ⟨rfl, rfl, hN32, trivial⟩
            · refine J.zne (pc := 52) (tgt := 56) dX11_readsDeed_52 (by decide) (fun q => absurd q hc) (fun _ => ?_)
              refine J.aload_n (pc := 56) dX11_readsDeed_56 rfl 1 rfl ?_
              obtain ⟨a34, e35, h⟩ := bnd h
              have k36 : (kd a34).1 = 0 := gR_k e35
              refine J.fR (pc := 57) dX11_readsDeed_57 fl_RX11_35 k0 (okN hN32 k0 (by decide)) rfl e35 ?_
              refine J.iconst (pc := 60) dX11_readsDeed_60 ic_1 ?_
              refine J.bipush (pc := 61) dX11_readsDeed_61 ib_8 ?_
              refine J.iload_n (pc := 63) dX11_readsDeed_63 rfl 2 rfl ?_
              refine J.imul (pc := 64) dX11_readsDeed_64 ?_
              refine J.iadd (pc := 65) dX11_readsDeed_65 ?_
              refine J.iload_n (pc := 66) dX11_readsDeed_66 rfl 3 rfl ?_
              refine J.iadd (pc := 67) dX11_readsDeed_67 ?_
              refine J.iload (pc := 68) dX11_readsDeed_68 0 rfl ?_
              obtain ⟨μ37, e38, h⟩ := bnd h
              have hN39 : μ37.1 = NN := stI_N e38 hN32
              refine J.wI (pc := 70) dX11_readsDeed_70 k36 (okN hN32 k36 (by decide)) e38 ?_
              refine J.iinc (pc := 71) (j := 3) ([(2, .int (v2 + (1 : Int32))), (4, .int r28), (0, .ref v0), (1, .int v1), (3, .int v3)]) dX11_readsDeed_71 rfl (iincv ic_1) (Nat.le_of_ble_eq_true rfl) rfl ?_
              refine J.aload_n (pc := 74) dX11_readsDeed_74 rfl 2 rfl ?_
              refine J.fI (pc := 75) dX11_readsDeed_75 fl_RX11_132 k0 (okN hN39 k0 (by decide)) (Or.inl rfl) ?_
              refine J.iconst (pc := 78) dX11_readsDeed_78 ic_2 ?_
              rcases ifc h with ⟨hc, h⟩ | ⟨hc, h⟩
              · refine J.cne (pc := 79) (tgt := 86) dX11_readsDeed_79 (by decide) (fun _ => ?_) (fun q => absurd hc q)
                refine J.iconst (pc := 82) dX11_readsDeed_82 ic_1 ?_
                refine J.goto (pc := 83) (tgt := 87) dX11_readsDeed_83 (by decide) ?_
                refine J.istore_n (pc := 87) ([(3, .int (1 : Int32)), (2, .int (v2 + (1 : Int32))), (4, .int r28), (0, .ref v0), (1, .int v1)]) dX11_readsDeed_87 rfl (Nat.le_of_ble_eq_true rfl) rfl ?_
                refine J.goto (pc := 88) (tgt := 9) dX11_readsDeed_88 (by decide) ?_
                refine J.pick [3, 4, 1, 0] rfl ?_
                exact ih v0 v1 (v2 + (1 : Int32)) (1 : Int32) μ37 h hN39 k0
              · refine J.cne (pc := 79) (tgt := 86) dX11_readsDeed_79 (by decide) (fun q => absurd q hc) (fun _ => ?_)
                refine J.iconst (pc := 86) dX11_readsDeed_86 ic_0 ?_
                refine J.istore_n (pc := 87) ([(3, .int (0 : Int32)), (2, .int (v2 + (1 : Int32))), (4, .int r28), (0, .ref v0), (1, .int v1)]) dX11_readsDeed_87 rfl (Nat.le_of_ble_eq_true rfl) rfl ?_
                refine J.goto (pc := 88) (tgt := 9) dX11_readsDeed_88 (by decide) ?_
                refine J.pick [3, 4, 1, 0] rfl ?_
                exact ih v0 v1 (v2 + (1 : Int32)) (0 : Int32) μ37 h hN39 k0
          · refine J.cne (pc := 31) (tgt := 39) dX11_readsDeed_31 (by decide) (fun q => absurd q hc) (fun _ => ?_)
            refine J.aload_n (pc := 39) dX11_readsDeed_39 rfl 0 rfl ?_
            refine J.iconst (pc := 40) dX11_readsDeed_40 ic_0 ?_
            refine J.bipush (pc := 41) dX11_readsDeed_41 ib_9 ?_
            obtain ⟨⟨r42, μ41⟩, e40, h⟩ := bnd h
            try dsimp only at h
            refine J.callV (Y := mX11_readsDeed) (Z := mX11_number) (pc := 43) (st := []) (k2 := 0) (n2 := 0) dX11_readsDeed_43 ml_RX11_224 mo_X11_number mv_X11_number rfl (tX11_number d e40 hN11 k0) k0 (okN hN11 k0 (by decide)).1 (okN hN11 k0 (by decide)).2 cq_11 (by decide) rfl rfl (Nat.le_of_ble_eq_true rfl) (by decide) (by decide) (fun v ν hp => ?_) (fun i ν hp => nrm hp.1)
            obtain ⟨rfl, rfl, hN43, hb44⟩ := QEl hp
            show J _ _ _ _ 46 _ ([.int r42]) _ _ _ _
            refine J.istore (pc := 46) ([(4, .int r42), (0, .ref v0), (1, .int v1), (2, .int v2), (3, .int v3)]) dX11_readsDeed_46 (Nat.le_of_ble_eq_true rfl) rfl ?_
            refine J.aload_n (pc := 48) dX11_readsDeed_48 rfl 1 rfl ?_
            refine J.callV (Y := mX11_readsDeed) (Z := mX11_isGood) (pc := 49) (st := []) (k2 := 0) (n2 := 0) dX11_readsDeed_49 ml_RX11_158 mo_X11_isGood mv_X11_isGood rfl (tX11_isGood (d + 2) v0 μ41 hN43 k0) k0 (okN hN43 k0 (by decide)).1 (okN hN43 k0 (by decide)).2 cq_11 (by decide) rfl rfl (Nat.le_of_ble_eq_true rfl) (by decide) (by decide) (fun v ν hp => ?_) (fun i ν hp => nrm hp.1)
            obtain ⟨rfl, rfl, hN46, hb47⟩ := QEl hp
            show J _ _ _ _ 52 _ ([.int (fX11_isGood v0 μ41)]) _ _ _ _
            rcases ifc h with ⟨hc, h⟩ | ⟨hc, h⟩
            · refine J.zne (pc := 52) (tgt := 56) dX11_readsDeed_52 (by decide) (fun _ => ?_) (fun q => absurd hc q)
              cases h
              exact J.vret (pc := 55) dX11_readsDeed_55 rfl ⟨rfl, rfl, hN46, trivial⟩
            · refine J.zne (pc := 52) (tgt := 56) dX11_readsDeed_52 (by decide) (fun q => absurd q hc) (fun _ => ?_)
              refine J.aload_n (pc := 56) dX11_readsDeed_56 rfl 1 rfl ?_
              obtain ⟨a48, e49, h⟩ := bnd h
              have k50 : (kd a48).1 = 0 := gR_k e49
              refine J.fR (pc := 57) dX11_readsDeed_57 fl_RX11_35 k0 (okN hN46 k0 (by decide)) rfl e49 ?_
              refine J.iconst (pc := 60) dX11_readsDeed_60 ic_1 ?_
              refine J.bipush (pc := 61) dX11_readsDeed_61 ib_8 ?_
              refine J.iload_n (pc := 63) dX11_readsDeed_63 rfl 2 rfl ?_
              refine J.imul (pc := 64) dX11_readsDeed_64 ?_
              refine J.iadd (pc := 65) dX11_readsDeed_65 ?_
              refine J.iload_n (pc := 66) dX11_readsDeed_66 rfl 3 rfl ?_
              refine J.iadd (pc := 67) dX11_readsDeed_67 ?_
              refine J.iload (pc := 68) dX11_readsDeed_68 0 rfl ?_
              obtain ⟨μ51, e52, h⟩ := bnd h
              have hN53 : μ51.1 = NN := stI_N e52 hN46
              refine J.wI (pc := 70) dX11_readsDeed_70 k50 (okN hN46 k50 (by decide)) e52 ?_
              refine J.iinc (pc := 71) (j := 3) ([(2, .int (v2 + (1 : Int32))), (4, .int r42), (0, .ref v0), (1, .int v1), (3, .int v3)]) dX11_readsDeed_71 rfl (iincv ic_1) (Nat.le_of_ble_eq_true rfl) rfl ?_
              refine J.aload_n (pc := 74) dX11_readsDeed_74 rfl 2 rfl ?_
              refine J.fI (pc := 75) dX11_readsDeed_75 fl_RX11_132 k0 (okN hN53 k0 (by decide)) (Or.inl rfl) ?_
              refine J.iconst (pc := 78) dX11_readsDeed_78 ic_2 ?_
              rcases ifc h with ⟨hc, h⟩ | ⟨hc, h⟩
              · refine J.cne (pc := 79) (tgt := 86) dX11_readsDeed_79 (by decide) (fun _ => ?_) (fun q => absurd hc q)
                refine J.iconst (pc := 82) dX11_readsDeed_82 ic_1 ?_
                refine J.goto (pc := 83) (tgt := 87) dX11_readsDeed_83 (by decide) ?_
                refine J.istore_n (pc := 87) ([(3, .int (1 : Int32)), (2, .int (v2 + (1 : Int32))), (4, .int r42), (0, .ref v0), (1, .int v1)]) dX11_readsDeed_87 rfl (Nat.le_of_ble_eq_true rfl) rfl ?_
                refine J.goto (pc := 88) (tgt := 9) dX11_readsDeed_88 (by decide) ?_
                refine J.pick [3, 4, 1, 0] rfl ?_
                exact ih v0 v1 (v2 + (1 : Int32)) (1 : Int32) μ51 h hN53 k0
              · refine J.cne (pc := 79) (tgt := 86) dX11_readsDeed_79 (by decide) (fun q => absurd q hc) (fun _ => ?_)
                refine J.iconst (pc := 86) dX11_readsDeed_86 ic_0 ?_
                refine J.istore_n (pc := 87) ([(3, .int (0 : Int32)), (2, .int (v2 + (1 : Int32))), (4, .int r42), (0, .ref v0), (1, .int v1)]) dX11_readsDeed_87 rfl (Nat.le_of_ble_eq_true rfl) rfl ?_
                refine J.goto (pc := 88) (tgt := 9) dX11_readsDeed_88 (by decide) ?_
                refine J.pick [3, 4, 1, 0] rfl ?_
                exact ih v0 v1 (v2 + (1 : Int32)) (0 : Int32) μ51 h hN53 k0
        · refine J.cne (pc := 23) (tgt := 39) dX11_readsDeed_23 (by decide) (fun q => absurd q hc) (fun _ => ?_)
          refine J.aload_n (pc := 39) dX11_readsDeed_39 rfl 0 rfl ?_
          refine J.iconst (pc := 40) dX11_readsDeed_40 ic_0 ?_
          refine J.bipush (pc := 41) dX11_readsDeed_41 ib_9 ?_
          obtain ⟨⟨r56, μ55⟩, e54, h⟩ := bnd h
          try dsimp only at h
          refine J.callV (Y := mX11_readsDeed) (Z := mX11_number) (pc := 43) (st := []) (k2 := 0) (n2 := 0) dX11_readsDeed_43 ml_RX11_224 mo_X11_number mv_X11_number rfl (tX11_number d e54 hN11 k0) k0 (okN hN11 k0 (by decide)).1 (okN hN11 k0 (by decide)).2 cq_11 (by decide) rfl rfl (Nat.le_of_ble_eq_true rfl) (by decide) (by decide) (fun v ν hp => ?_) (fun i ν hp => nrm hp.1)
          obtain ⟨rfl, rfl, hN57, hb58⟩ := QEl hp
          show J _ _ _ _ 46 _ ([.int r56]) _ _ _ _
          refine J.istore (pc := 46) ([(4, .int r56), (0, .ref v0), (1, .int v1), (2, .int v2), (3, .int v3)]) dX11_readsDeed_46 (Nat.le_of_ble_eq_true rfl) rfl ?_
          refine J.aload_n (pc := 48) dX11_readsDeed_48 rfl 1 rfl ?_
          refine J.callV (Y := mX11_readsDeed) (Z := mX11_isGood) (pc := 49) (st := []) (k2 := 0) (n2 := 0) dX11_readsDeed_49 ml_RX11_158 mo_X11_isGood mv_X11_isGood rfl (tX11_isGood (d + 2) v0 μ55 hN57 k0) k0 (okN hN57 k0 (by decide)).1 (okN hN57 k0 (by decide)).2 cq_11 (by decide) rfl rfl (Nat.le_of_ble_eq_true rfl) (by decide) (by decide) (fun v ν hp => ?_) (fun i ν hp => nrm hp.1)
          obtain ⟨rfl, rfl, hN60, hb61⟩ := QEl hp
          show J _ _ _ _ 52 _ ([.int (fX11_isGood v0 μ55)]) _ _ _ _
          rcases ifc h with ⟨hc, h⟩ | ⟨hc, h⟩
          · refine J.zne (pc := 52) (tgt := 56) dX11_readsDeed_52 (by decide) (fun _ => ?_) (fun q => absurd hc q)
            cases h
            exact J.vret (pc := 55) dX11_readsDeed_55 rfl ⟨rfl, rfl, hN60, trivial⟩
          · refine J.zne (pc := 52) (tgt := 56) dX11_readsDeed_52 (by decide) (fun q => absurd q hc) (fun _ => ?_)
            refine J.aload_n (pc := 56) dX11_readsDeed_56 rfl 1 rfl ?_
            obtain ⟨a62, e63, h⟩ := bnd h
            have k64 : (kd a62).1 = 0 := gR_k e63
            refine J.fR (pc := 57) dX11_readsDeed_57 fl_RX11_35 k0 (okN hN60 k0 (by decide)) rfl e63 ?_
            refine J.iconst (pc := 60) dX11_readsDeed_60 ic_1 ?_
            refine J.bipush (pc := 61) dX11_readsDeed_61 ib_8 ?_
            refine J.iload_n (pc := 63) dX11_readsDeed_63 rfl 2 rfl ?_
            refine J.imul (pc := 64) dX11_readsDeed_64 ?_
            refine J.iadd (pc := 65) dX11_readsDeed_65 ?_
            refine J.iload_n (pc := 66) dX11_readsDeed_66 rfl 3 rfl ?_
            refine J.iadd (pc := 67) dX11_readsDeed_67 ?_
            refine J.iload (pc := 68) dX11_readsDeed_68 0 rfl ?_
            obtain ⟨μ65, e66, h⟩ := bnd h
            have hN67 : μ65.1 = NN := stI_N e66 hN60
            refine J.wI (pc := 70) dX11_readsDeed_70 k64 (okN hN60 k64 (by decide)) e66 ?_
            refine J.iinc (pc := 71) (j := 3) ([(2, .int (v2 + (1 : Int32))), (4, .int r56), (0, .ref v0), (1, .int v1), (3, .int v3)]) dX11_readsDeed_71 rfl (iincv ic_1) (Nat.le_of_ble_eq_true rfl) rfl ?_
            refine J.aload_n (pc := 74) dX11_readsDeed_74 rfl 2 rfl ?_
            refine J.fI (pc := 75) dX11_readsDeed_75 fl_RX11_132 k0 (okN hN67 k0 (by decide)) (Or.inl rfl) ?_
            refine J.iconst (pc := 78) dX11_readsDeed_78 ic_2 ?_
            rcases ifc h with ⟨hc, h⟩ | ⟨hc, h⟩
            · refine J.cne (pc := 79) (tgt := 86) dX11_readsDeed_79 (by decide) (fun _ => ?_) (fun q => absurd hc q)
              refine J.iconst (pc := 82) dX11_readsDeed_82 ic_1 ?_
              refine J.goto (pc := 83) (tgt := 87) dX11_readsDeed_83 (by decide) ?_
              refine J.istore_n (pc := 87) ([(3, .int (1 : Int32)), (2, .int (v2 + (1 : Int32))), (4, .int r56), (0, .ref v0), (1, .int v1)]) dX11_readsDeed_87 rfl (Nat.le_of_ble_eq_true rfl) rfl ?_
              refine J.goto (pc := 88) (tgt := 9) dX11_readsDeed_88 (by decide) ?_
              refine J.pick [3, 4, 1, 0] rfl ?_
              exact ih v0 v1 (v2 + (1 : Int32)) (1 : Int32) μ65 h hN67 k0
            · refine J.cne (pc := 79) (tgt := 86) dX11_readsDeed_79 (by decide) (fun q => absurd q hc) (fun _ => ?_)
              refine J.iconst (pc := 86) dX11_readsDeed_86 ic_0 ?_
              refine J.istore_n (pc := 87) ([(3, .int (0 : Int32)), (2, .int (v2 + (1 : Int32))), (4, .int r56), (0, .ref v0), (1, .int v1)]) dX11_readsDeed_87 rfl (Nat.le_of_ble_eq_true rfl) rfl ?_
              refine J.goto (pc := 88) (tgt := 9) dX11_readsDeed_88 (by decide) ?_
              refine J.pick [3, 4, 1, 0] rfl ?_
              exact ih v0 v1 (v2 + (1 : Int32)) (0 : Int32) μ65 h hN67 k0
def fX11_readsDeed (v0 : Nat) (μ : Mem) : Option (Mem) :=
  (fX11_readsDeed_9 fuel) v0 (μ.2.1 v0 20) (0 : Int32) (1 : Int32) μ
set_option maxHeartbeats 4000000 in
theorem tX11_readsDeed {ω : Wd} {l : Launch} (d : Nat) {v0 : Nat} {μ : Mem} {res : Mem} (h : fX11_readsDeed v0 μ = some res) (hN : μ.1 = NN) (k0 : (kd v0).1 = 21) : Ct ω l mX11_readsDeed (d + 3) [.ref v0] μ 0 0 (PE (.inl none) res True) := by
  refine Ct.of pn_RX11 (Nat.le_of_ble_eq_true rfl) ?_
  show J ω l mX11_readsDeed (d + 3) 0 [(0, .ref v0)] [] μ 0 0 _
  unfold fX11_readsDeed at h
  refine J.aload_n (pc := 0) dX11_readsDeed_0 rfl 0 rfl ?_
  refine J.fI (pc := 1) dX11_readsDeed_1 fl_RX11_221 k0 (okN hN k0 (by decide)) (Or.inl rfl) ?_
  refine J.istore_n (pc := 4) ([(1, .int (μ.2.1 v0 20)), (0, .ref v0)]) dX11_readsDeed_4 rfl (Nat.le_of_ble_eq_true rfl) rfl ?_
  refine J.iconst (pc := 5) dX11_readsDeed_5 ic_0 ?_
  refine J.istore_n (pc := 6) ([(2, .int (0 : Int32)), (1, .int (μ.2.1 v0 20)), (0, .ref v0)]) dX11_readsDeed_6 rfl (Nat.le_of_ble_eq_true rfl) rfl ?_
  refine J.iconst (pc := 7) dX11_readsDeed_7 ic_1 ?_
  refine J.istore_n (pc := 8) ([(3, .int (1 : Int32)), (2, .int (0 : Int32)), (1, .int (μ.2.1 v0 20)), (0, .ref v0)]) dX11_readsDeed_8 rfl (Nat.le_of_ble_eq_true rfl) rfl ?_
  refine J.pick [3, 2, 1, 0] rfl ?_
  exact (tX11_readsDeed_9 d fuel) v0 (μ.2.1 v0 20) (0 : Int32) (1 : Int32) μ h hN k0
def fX11_isOneOf (v0 : Nat) (v1 : Int32) (μ : Mem) : Option (Int32 × Mem) :=
  if (fX11_isGood v0 μ) = 0 then
    some ((0 : Int32), μ)
  else
    if (μ.2.1 v0 14) = (2 : Int32) then
      if (4 : Int32) < (μ.2.1 v0 16) then
        (fX11_wrong v0 (2 : Int32) μ).bind fun μ5 =>
        some ((fX11_isGood v0 μ5), μ5)
      else
        if (μ.2.1 v0 17) < v1 then
          some ((fX11_isGood v0 μ), μ)
        else
          (fX11_wrong v0 (3 : Int32) μ).bind fun μ15 =>
          some ((fX11_isGood v0 μ15), μ15)
    else
      (fX11_wrong v0 (1 : Int32) μ).bind fun μ22 =>
      some ((fX11_isGood v0 μ22), μ22)
set_option maxHeartbeats 4000000 in
theorem tX11_isOneOf {ω : Wd} {l : Launch} (d : Nat) {v0 : Nat} {v1 : Int32} {μ : Mem} {res : Int32 × Mem} (h : fX11_isOneOf v0 v1 μ = some res) (hN : μ.1 = NN) (k0 : (kd v0).1 = 21) : Ct ω l mX11_isOneOf (d + 1) [.ref v0, .int v1] μ 0 0 (PE (.inl (some (.int res.1))) res.2 (isB res.1)) := by
  refine Ct.of pn_RX11 (Nat.le_of_ble_eq_true rfl) ?_
  show J ω l mX11_isOneOf (d + 1) 0 [(0, .ref v0), (1, .int v1)] [] μ 0 0 _
  unfold fX11_isOneOf at h
  refine J.aload_n (pc := 0) dX11_isOneOf_0 rfl 0 rfl ?_
  refine J.callV (Y := mX11_isOneOf) (Z := mX11_isGood) (pc := 1) (st := []) (k2 := 0) (n2 := 0) dX11_isOneOf_1 ml_RX11_158 mo_X11_isGood mv_X11_isGood rfl (tX11_isGood d v0 μ hN k0) k0 (okN hN k0 (by decide)).1 (okN hN k0 (by decide)).2 cq_11 (by decide) rfl rfl (Nat.le_of_ble_eq_true rfl) (by decide) (by decide) (fun v ν hp => ?_) (fun i ν hp => nrm hp.1)
  obtain ⟨rfl, rfl, hN2, hb3⟩ := QEl hp
  show J _ _ _ _ 4 _ ([.int (fX11_isGood v0 μ)]) _ _ _ _
  rcases ifc h with ⟨hc, h⟩ | ⟨hc, h⟩
  · refine J.zne (pc := 4) (tgt := 9) dX11_isOneOf_4 (by decide) (fun _ => ?_) (fun q => absurd hc q)
    refine J.iconst (pc := 7) dX11_isOneOf_7 ic_0 ?_
    cases h
    exact J.zret (pc := 8) dX11_isOneOf_8 rfl (narB (Or.inl rfl)) ⟨rfl, rfl, hN2, (Or.inl rfl)⟩
  · refine J.zne (pc := 4) (tgt := 9) dX11_isOneOf_4 (by decide) (fun q => absurd q hc) (fun _ => ?_)
    refine J.aload_n (pc := 9) dX11_isOneOf_9 rfl 0 rfl ?_
    refine J.fI (pc := 10) dX11_isOneOf_10 fl_RX11_132 k0 (okN hN2 k0 (by decide)) (Or.inl rfl) ?_
    refine J.iconst (pc := 13) dX11_isOneOf_13 ic_2 ?_
    rcases ifc h with ⟨hc, h⟩ | ⟨hc, h⟩
    · refine J.ceq (pc := 14) (tgt := 25) dX11_isOneOf_14 (by decide) (fun _ => ?_) (fun q => absurd hc q)
      refine J.aload_n (pc := 25) dX11_isOneOf_25 rfl 0 rfl ?_
      refine J.fI (pc := 26) dX11_isOneOf_26 fl_RX11_142 k0 (okN hN2 k0 (by decide)) (Or.inl rfl) ?_
      refine J.iconst (pc := 29) dX11_isOneOf_29 ic_4 ?_
      rcases ifc h with ⟨hc, h⟩ | ⟨hc, h⟩
      · refine J.cle (pc := 30) (tgt := 41) dX11_isOneOf_30 (by decide) (fun _ => ?_) (fun q => absurd hc q)
        refine J.aload_n (pc := 33) dX11_isOneOf_33 rfl 0 rfl ?_
        refine J.iconst (pc := 34) dX11_isOneOf_34 ic_2 ?_
        obtain ⟨μ5, e4, h⟩ := bnd h
        refine J.callV (Y := mX11_isOneOf) (Z := mX11_wrong) (pc := 35) (st := []) (k2 := 0) (n2 := 0) dX11_isOneOf_35 ml_RX11_165 mo_X11_wrong mv_X11_wrong rfl (tX11_wrong d e4 hN2 k0) k0 (okN hN2 k0 (by decide)).1 (okN hN2 k0 (by decide)).2 cq_11 (by decide) rfl rfl (Nat.le_of_ble_eq_true rfl) (by decide) (by decide) (fun v ν hp => ?_) (fun i ν hp => nrm hp.1)
        obtain ⟨rfl, rfl, hN6, hb7⟩ := QEl hp
        show J _ _ _ _ 38 _ ([]) _ _ _ _
        refine J.goto (pc := 38) (tgt := 54) dX11_isOneOf_38 (by decide) ?_
        refine J.aload_n (pc := 54) dX11_isOneOf_54 rfl 0 rfl ?_
        refine J.callV (Y := mX11_isOneOf) (Z := mX11_isGood) (pc := 55) (st := []) (k2 := 0) (n2 := 0) dX11_isOneOf_55 ml_RX11_158 mo_X11_isGood mv_X11_isGood rfl (tX11_isGood d v0 μ5 hN6 k0) k0 (okN hN6 k0 (by decide)).1 (okN hN6 k0 (by decide)).2 cq_11 (by decide) rfl rfl (Nat.le_of_ble_eq_true rfl) (by decide) (by decide) (fun v ν hp => ?_) (fun i ν hp => nrm hp.1)
        obtain ⟨rfl, rfl, hN9, hb10⟩ := QEl hp
        show J _ _ _ _ 58 _ ([.int (fX11_isGood v0 μ5)]) _ _ _ _
        cases h
        exact J.zret (pc := 58) dX11_isOneOf_58 rfl (narB hb10) ⟨rfl, rfl, hN9, hb10⟩
      · refine J.cle (pc := 30) (tgt := 41) dX11_isOneOf_30 (by decide) (fun q => absurd q hc) (fun _ => ?_)
        refine J.aload_n (pc := 41) dX11_isOneOf_41 rfl 0 rfl ?_
        refine J.fI (pc := 42) dX11_isOneOf_42 fl_RX11_126 k0 (okN hN2 k0 (by decide)) (Or.inl rfl) ?_
        refine J.iload_n (pc := 45) dX11_isOneOf_45 rfl 1 rfl ?_
        rcases ifc h with ⟨hc, h⟩ | ⟨hc, h⟩
        · refine J.clt (pc := 46) (tgt := 54) dX11_isOneOf_46 (by decide) (fun _ => ?_) (fun q => absurd hc q)
          refine J.aload_n (pc := 54) dX11_isOneOf_54 rfl 0 rfl ?_
          refine J.callV (Y := mX11_isOneOf) (Z := mX11_isGood) (pc := 55) (st := []) (k2 := 0) (n2 := 0) dX11_isOneOf_55 ml_RX11_158 mo_X11_isGood mv_X11_isGood rfl (tX11_isGood d v0 μ hN2 k0) k0 (okN hN2 k0 (by decide)).1 (okN hN2 k0 (by decide)).2 cq_11 (by decide) rfl rfl (Nat.le_of_ble_eq_true rfl) (by decide) (by decide) (fun v ν hp => ?_) (fun i ν hp => nrm hp.1)
          obtain ⟨rfl, rfl, hN12, hb13⟩ := QEl hp
          show J _ _ _ _ 58 _ ([.int (fX11_isGood v0 μ)]) _ _ _ _
          cases h
          exact J.zret (pc := 58) dX11_isOneOf_58 rfl (narB hb13) ⟨rfl, rfl, hN12, hb13⟩
        · refine J.clt (pc := 46) (tgt := 54) dX11_isOneOf_46 (by decide) (fun q => absurd q hc) (fun _ => ?_)
          refine J.aload_n (pc := 49) dX11_isOneOf_49 rfl 0 rfl ?_
          refine J.iconst (pc := 50) dX11_isOneOf_50 ic_3 ?_
          obtain ⟨μ15, e14, h⟩ := bnd h
          refine J.callV (Y := mX11_isOneOf) (Z := mX11_wrong) (pc := 51) (st := []) (k2 := 0) (n2 := 0) dX11_isOneOf_51 ml_RX11_165 mo_X11_wrong mv_X11_wrong rfl (tX11_wrong d e14 hN2 k0) k0 (okN hN2 k0 (by decide)).1 (okN hN2 k0 (by decide)).2 cq_11 (by decide) rfl rfl (Nat.le_of_ble_eq_true rfl) (by decide) (by decide) (fun v ν hp => ?_) (fun i ν hp => nrm hp.1)
          obtain ⟨rfl, rfl, hN16, hb17⟩ := QEl hp
          show J _ _ _ _ 54 _ ([]) _ _ _ _
          refine J.aload_n (pc := 54) dX11_isOneOf_54 rfl 0 rfl ?_
          refine J.callV (Y := mX11_isOneOf) (Z := mX11_isGood) (pc := 55) (st := []) (k2 := 0) (n2 := 0) dX11_isOneOf_55 ml_RX11_158 mo_X11_isGood mv_X11_isGood rfl (tX11_isGood d v0 μ15 hN16 k0) k0 (okN hN16 k0 (by decide)).1 (okN hN16 k0 (by decide)).2 cq_11 (by decide) rfl rfl (Nat.le_of_ble_eq_true rfl) (by decide) (by decide) (fun v ν hp => ?_) (fun i ν hp => nrm hp.1)
          obtain ⟨rfl, rfl, hN19, hb20⟩ := QEl hp
          show J _ _ _ _ 58 _ ([.int (fX11_isGood v0 μ15)]) _ _ _ _
          cases h
          exact J.zret (pc := 58) dX11_isOneOf_58 rfl (narB hb20) ⟨rfl, rfl, hN19, hb20⟩
    · refine J.ceq (pc := 14) (tgt := 25) dX11_isOneOf_14 (by decide) (fun q => absurd q hc) (fun _ => ?_)
      refine J.aload_n (pc := 17) dX11_isOneOf_17 rfl 0 rfl ?_
      refine J.iconst (pc := 18) dX11_isOneOf_18 ic_1 ?_
      obtain ⟨μ22, e21, h⟩ := bnd h
      refine J.callV (Y := mX11_isOneOf) (Z := mX11_wrong) (pc := 19) (st := []) (k2 := 0) (n2 := 0) dX11_isOneOf_19 ml_RX11_165 mo_X11_wrong mv_X11_wrong rfl (tX11_wrong d e21 hN2 k0) k0 (okN hN2 k0 (by decide)).1 (okN hN2 k0 (by decide)).2 cq_11 (by decide) rfl rfl (Nat.le_of_ble_eq_true rfl) (by decide) (by decide) (fun v ν hp => ?_) (fun i ν hp => nrm hp.1)
      obtain ⟨rfl, rfl, hN23, hb24⟩ := QEl hp
      show J _ _ _ _ 22 _ ([]) _ _ _ _
      refine J.goto (pc := 22) (tgt := 54) dX11_isOneOf_22 (by decide) ?_
      refine J.aload_n (pc := 54) dX11_isOneOf_54 rfl 0 rfl ?_
      refine J.callV (Y := mX11_isOneOf) (Z := mX11_isGood) (pc := 55) (st := []) (k2 := 0) (n2 := 0) dX11_isOneOf_55 ml_RX11_158 mo_X11_isGood mv_X11_isGood rfl (tX11_isGood d v0 μ22 hN23 k0) k0 (okN hN23 k0 (by decide)).1 (okN hN23 k0 (by decide)).2 cq_11 (by decide) rfl rfl (Nat.le_of_ble_eq_true rfl) (by decide) (by decide) (fun v ν hp => ?_) (fun i ν hp => nrm hp.1)
      obtain ⟨rfl, rfl, hN26, hb27⟩ := QEl hp
      show J _ _ _ _ 58 _ ([.int (fX11_isGood v0 μ22)]) _ _ _ _
      cases h
      exact J.zret (pc := 58) dX11_isOneOf_58 rfl (narB hb27) ⟨rfl, rfl, hN26, hb27⟩
def fX11_readsPlace (v0 : Nat) (μ : Mem) : Option (Int32 × Mem) :=
  (fX11_isOneOf v0 (μ.2.1 v0 20) μ).bind fun (r3, μ2) =>
  if r3 = 0 then
    some ((-1 : Int32), μ2)
  else
    (fX11_goes v0 μ2).bind fun μ7 =>
    (gR μ7 v0 29 0).bind fun a10 =>
    (ldI μ7 a10 (μ2.2.1 v0 17)).bind fun x13 =>
    (fX11_isOneOf v0 x13 μ7).bind fun (r17, μ16) =>
    if r17 = 0 then
      some ((-1 : Int32), μ16)
    else
      (fX11_goes v0 μ16).bind fun μ21 =>
      some ((((8 : Int32) * (μ2.2.1 v0 17)) + (μ16.2.1 v0 17)), μ21)
set_option maxHeartbeats 4000000 in
theorem tX11_readsPlace {ω : Wd} {l : Launch} (d : Nat) {v0 : Nat} {μ : Mem} {res : Int32 × Mem} (h : fX11_readsPlace v0 μ = some res) (hN : μ.1 = NN) (k0 : (kd v0).1 = 21) : Ct ω l mX11_readsPlace (d + 2) [.ref v0] μ 0 0 (PE (.inl (some (.int res.1))) res.2 True) := by
  refine Ct.of pn_RX11 (Nat.le_of_ble_eq_true rfl) ?_
  show J ω l mX11_readsPlace (d + 2) 0 [(0, .ref v0)] [] μ 0 0 _
  unfold fX11_readsPlace at h
  refine J.aload_n (pc := 0) dX11_readsPlace_0 rfl 0 rfl ?_
  refine J.aload_n (pc := 1) dX11_readsPlace_1 rfl 0 rfl ?_
  refine J.fI (pc := 2) dX11_readsPlace_2 fl_RX11_221 k0 (okN hN k0 (by decide)) (Or.inl rfl) ?_
  obtain ⟨⟨r3, μ2⟩, e1, h⟩ := bnd h
  try dsimp only at h
  refine J.callV (Y := mX11_readsPlace) (Z := mX11_isOneOf) (pc := 5) (st := []) (k2 := 0) (n2 := 0) dX11_readsPlace_5 ml_RX11_228 mo_X11_isOneOf mv_X11_isOneOf rfl (tX11_isOneOf d e1 hN k0) k0 (okN hN k0 (by decide)).1 (okN hN k0 (by decide)).2 cq_11 (by decide) rfl rfl (Nat.le_of_ble_eq_true rfl) (by decide) (by decide) (fun v ν hp => ?_) (fun i ν hp => nrm hp.1)
  obtain ⟨rfl, rfl, hN4, hb5⟩ := QEl hp
  show J _ _ _ _ 8 _ ([.int r3]) _ _ _ _
  rcases ifc h with ⟨hc, h⟩ | ⟨hc, h⟩
  · refine J.zne (pc := 8) (tgt := 13) dX11_readsPlace_8 (by decide) (fun _ => ?_) (fun q => absurd hc q)
    refine J.iconst (pc := 11) dX11_readsPlace_11 ic_m1 ?_
    cases h
    exact J.iret (pc := 12) dX11_readsPlace_12 rfl ⟨rfl, rfl, hN4, trivial⟩
  · refine J.zne (pc := 8) (tgt := 13) dX11_readsPlace_8 (by decide) (fun q => absurd q hc) (fun _ => ?_)
    refine J.aload_n (pc := 13) dX11_readsPlace_13 rfl 0 rfl ?_
    refine J.fI (pc := 14) dX11_readsPlace_14 fl_RX11_126 k0 (okN hN4 k0 (by decide)) (Or.inl rfl) ?_
    refine J.istore_n (pc := 17) ([(1, .int (μ2.2.1 v0 17)), (0, .ref v0)]) dX11_readsPlace_17 rfl (Nat.le_of_ble_eq_true rfl) rfl ?_
    refine J.aload_n (pc := 18) dX11_readsPlace_18 rfl 1 rfl ?_
    obtain ⟨μ7, e6, h⟩ := bnd h
    refine J.callV (Y := mX11_readsPlace) (Z := mX11_goes) (pc := 19) (st := []) (k2 := 0) (n2 := 0) dX11_readsPlace_19 ml_RX11_162 mo_X11_goes mv_X11_goes rfl (tX11_goes d e6 hN4 k0) k0 (okN hN4 k0 (by decide)).1 (okN hN4 k0 (by decide)).2 cq_11 (by decide) rfl rfl (Nat.le_of_ble_eq_true rfl) (by decide) (by decide) (fun v ν hp => ?_) (fun i ν hp => nrm hp.1)
    obtain ⟨rfl, rfl, hN8, hb9⟩ := QEl hp
    show J _ _ _ _ 22 _ ([]) _ _ _ _
    refine J.aload_n (pc := 22) dX11_readsPlace_22 rfl 1 rfl ?_
    refine J.aload_n (pc := 23) dX11_readsPlace_23 rfl 1 rfl ?_
    obtain ⟨a10, e11, h⟩ := bnd h
    have k12 : (kd a10).1 = 0 := gR_k e11
    refine J.fR (pc := 24) dX11_readsPlace_24 fl_RX11_32 k0 (okN hN8 k0 (by decide)) rfl e11 ?_
    refine J.iload_n (pc := 27) dX11_readsPlace_27 rfl 0 rfl ?_
    obtain ⟨x13, e14, h⟩ := bnd h
    refine J.aI (pc := 28) dX11_readsPlace_28 k12 (okN hN8 k12 (by decide)) e14 ?_
    obtain ⟨⟨r17, μ16⟩, e15, h⟩ := bnd h
    try dsimp only at h
    refine J.callV (Y := mX11_readsPlace) (Z := mX11_isOneOf) (pc := 29) (st := []) (k2 := 0) (n2 := 0) dX11_readsPlace_29 ml_RX11_228 mo_X11_isOneOf mv_X11_isOneOf rfl (tX11_isOneOf d e15 hN8 k0) k0 (okN hN8 k0 (by decide)).1 (okN hN8 k0 (by decide)).2 cq_11 (by decide) rfl rfl (Nat.le_of_ble_eq_true rfl) (by decide) (by decide) (fun v ν hp => ?_) (fun i ν hp => nrm hp.1)
    obtain ⟨rfl, rfl, hN18, hb19⟩ := QEl hp
    show J _ _ _ _ 32 _ ([.int r17]) _ _ _ _
    rcases ifc h with ⟨hc, h⟩ | ⟨hc, h⟩
    · refine J.zne (pc := 32) (tgt := 37) dX11_readsPlace_32 (by decide) (fun _ => ?_) (fun q => absurd hc q)
      refine J.iconst (pc := 35) dX11_readsPlace_35 ic_m1 ?_
      cases h
      exact J.iret (pc := 36) dX11_readsPlace_36 rfl ⟨rfl, rfl, hN18, trivial⟩
    · refine J.zne (pc := 32) (tgt := 37) dX11_readsPlace_32 (by decide) (fun q => absurd q hc) (fun _ => ?_)
      refine J.bipush (pc := 37) dX11_readsPlace_37 ib_8 ?_
      refine J.iload_n (pc := 39) dX11_readsPlace_39 rfl 0 rfl ?_
      refine J.imul (pc := 40) dX11_readsPlace_40 ?_
      refine J.aload_n (pc := 41) dX11_readsPlace_41 rfl 1 rfl ?_
      refine J.fI (pc := 42) dX11_readsPlace_42 fl_RX11_126 k0 (okN hN18 k0 (by decide)) (Or.inl rfl) ?_
      refine J.iadd (pc := 45) dX11_readsPlace_45 ?_
      refine J.istore_n (pc := 46) ([(2, .int (((8 : Int32) * (μ2.2.1 v0 17)) + (μ16.2.1 v0 17))), (1, .int (μ2.2.1 v0 17)), (0, .ref v0)]) dX11_readsPlace_46 rfl (Nat.le_of_ble_eq_true rfl) rfl ?_
      refine J.aload_n (pc := 47) dX11_readsPlace_47 rfl 2 rfl ?_
      obtain ⟨μ21, e20, h⟩ := bnd h
      refine J.callV (Y := mX11_readsPlace) (Z := mX11_goes) (pc := 48) (st := []) (k2 := 0) (n2 := 0) dX11_readsPlace_48 ml_RX11_162 mo_X11_goes mv_X11_goes rfl (tX11_goes d e20 hN18 k0) k0 (okN hN18 k0 (by decide)).1 (okN hN18 k0 (by decide)).2 cq_11 (by decide) rfl rfl (Nat.le_of_ble_eq_true rfl) (by decide) (by decide) (fun v ν hp => ?_) (fun i ν hp => nrm hp.1)
      obtain ⟨rfl, rfl, hN22, hb23⟩ := QEl hp
      show J _ _ _ _ 51 _ ([]) _ _ _ _
      refine J.iload_n (pc := 51) dX11_readsPlace_51 rfl 0 rfl ?_
      cases h
      exact J.iret (pc := 52) dX11_readsPlace_52 rfl ⟨rfl, rfl, hN22, trivial⟩
def fX11_readsPerson (v0 : Nat) (μ : Mem) : Option (Mem) :=
  (gR μ v0 30 0).bind fun a1 =>
  (fX11_readsPlace v0 μ).bind fun (r6, μ5) =>
  (stI μ5 a1 ((55 : Int32) + (μ.2.1 v0 21)) r6).bind fun μ9 =>
  (gR μ9 v0 30 0).bind fun a12 =>
  (fX11_number v0 (0 : Int32) (9 : Int32) μ9).bind fun (r17, μ16) =>
  (stI μ16 a12 ((73 : Int32) + (μ.2.1 v0 21)) r17).bind fun μ20 =>
  (gR μ20 v0 30 0).bind fun a23 =>
  (stI μ20 a23 ((61 : Int32) + (μ.2.1 v0 21)) (-1 : Int32)).bind fun μ26 =>
  if (fX11_isGood v0 μ26) = 0 then
    if (fX11_isGood v0 μ26) = 0 then
      some μ26
    else
      (some (sI μ26 v0 21 ((μ26.2.1 v0 21) + (1 : Int32)))).bind fun μ35 =>
      some μ35
  else
    (fX11_knownWord v0 μ26).bind fun r39 =>
    if r39 = (11 : Int32) then
      (fX11_goes v0 μ26).bind fun μ43 =>
      (gR μ43 v0 30 0).bind fun a46 =>
      (fX11_readsPlace v0 μ43).bind fun (r51, μ50) =>
      (stI μ50 a46 ((61 : Int32) + (μ.2.1 v0 21)) r51).bind fun μ54 =>
      if (fX11_isGood v0 μ54) = 0 then
        some μ54
      else
        (some (sI μ54 v0 21 ((μ54.2.1 v0 21) + (1 : Int32)))).bind fun μ60 =>
        some μ60
    else
      if (fX11_isGood v0 μ26) = 0 then
        some μ26
      else
        (some (sI μ26 v0 21 ((μ26.2.1 v0 21) + (1 : Int32)))).bind fun μ66 =>
        some μ66
set_option maxHeartbeats 4000000 in
theorem tX11_readsPerson {ω : Wd} {l : Launch} (d : Nat) {v0 : Nat} {μ : Mem} {res : Mem} (h : fX11_readsPerson v0 μ = some res) (hN : μ.1 = NN) (k0 : (kd v0).1 = 21) : Ct ω l mX11_readsPerson (d + 3) [.ref v0] μ 0 0 (PE (.inl none) res True) := by
  refine Ct.of pn_RX11 (Nat.le_of_ble_eq_true rfl) ?_
  show J ω l mX11_readsPerson (d + 3) 0 [(0, .ref v0)] [] μ 0 0 _
  unfold fX11_readsPerson at h
  refine J.aload_n (pc := 0) dX11_readsPerson_0 rfl 0 rfl ?_
  refine J.fI (pc := 1) dX11_readsPerson_1 fl_RX11_234 k0 (okN hN k0 (by decide)) (Or.inl rfl) ?_
  refine J.istore_n (pc := 4) ([(1, .int (μ.2.1 v0 21)), (0, .ref v0)]) dX11_readsPerson_4 rfl (Nat.le_of_ble_eq_true rfl) rfl ?_
  refine J.aload_n (pc := 5) dX11_readsPerson_5 rfl 1 rfl ?_
  obtain ⟨a1, e2, h⟩ := bnd h
  have k3 : (kd a1).1 = 0 := gR_k e2
  refine J.fR (pc := 6) dX11_readsPerson_6 fl_RX11_35 k0 (okN hN k0 (by decide)) rfl e2 ?_
  refine J.bipush (pc := 9) dX11_readsPerson_9 ib_55 ?_
  refine J.iload_n (pc := 11) dX11_readsPerson_11 rfl 0 rfl ?_
  refine J.iadd (pc := 12) dX11_readsPerson_12 ?_
  refine J.aload_n (pc := 13) dX11_readsPerson_13 rfl 1 rfl ?_
  obtain ⟨⟨r6, μ5⟩, e4, h⟩ := bnd h
  try dsimp only at h
  refine J.callV (Y := mX11_readsPerson) (Z := mX11_readsPlace) (pc := 14) (st := [.int ((55 : Int32) + (μ.2.1 v0 21)), .ref a1]) (k2 := 0) (n2 := 0) dX11_readsPerson_14 ml_RX11_237 mo_X11_readsPlace mv_X11_readsPlace rfl (tX11_readsPlace d e4 hN k0) k0 (okN hN k0 (by decide)).1 (okN hN k0 (by decide)).2 cq_11 (by decide) rfl rfl (Nat.le_of_ble_eq_true rfl) (by decide) (by decide) (fun v ν hp => ?_) (fun i ν hp => nrm hp.1)
  obtain ⟨rfl, rfl, hN7, hb8⟩ := QEl hp
  show J _ _ _ _ 17 _ ([.int r6, .int ((55 : Int32) + (μ.2.1 v0 21)), .ref a1]) _ _ _ _
  obtain ⟨μ9, e10, h⟩ := bnd h
  have hN11 : μ9.1 = NN := stI_N e10 hN7
  refine J.wI (pc := 17) dX11_readsPerson_17 k3 (okN hN7 k3 (by decide)) e10 ?_
  refine J.aload_n (pc := 18) dX11_readsPerson_18 rfl 1 rfl ?_
  obtain ⟨a12, e13, h⟩ := bnd h
  have k14 : (kd a12).1 = 0 := gR_k e13
  refine J.fR (pc := 19) dX11_readsPerson_19 fl_RX11_35 k0 (okN hN11 k0 (by decide)) rfl e13 ?_
  refine J.bipush (pc := 22) dX11_readsPerson_22 ib_73 ?_
  refine J.iload_n (pc := 24) dX11_readsPerson_24 rfl 0 rfl ?_
  refine J.iadd (pc := 25) dX11_readsPerson_25 ?_
  refine J.aload_n (pc := 26) dX11_readsPerson_26 rfl 1 rfl ?_
  refine J.iconst (pc := 27) dX11_readsPerson_27 ic_0 ?_
  refine J.bipush (pc := 28) dX11_readsPerson_28 ib_9 ?_
  obtain ⟨⟨r17, μ16⟩, e15, h⟩ := bnd h
  try dsimp only at h
  refine J.callV (Y := mX11_readsPerson) (Z := mX11_number) (pc := 30) (st := [.int ((73 : Int32) + (μ.2.1 v0 21)), .ref a12]) (k2 := 0) (n2 := 0) dX11_readsPerson_30 ml_RX11_224 mo_X11_number mv_X11_number rfl (tX11_number d e15 hN11 k0) k0 (okN hN11 k0 (by decide)).1 (okN hN11 k0 (by decide)).2 cq_11 (by decide) rfl rfl (Nat.le_of_ble_eq_true rfl) (by decide) (by decide) (fun v ν hp => ?_) (fun i ν hp => nrm hp.1)
  obtain ⟨rfl, rfl, hN18, hb19⟩ := QEl hp
  show J _ _ _ _ 33 _ ([.int r17, .int ((73 : Int32) + (μ.2.1 v0 21)), .ref a12]) _ _ _ _
  obtain ⟨μ20, e21, h⟩ := bnd h
  have hN22 : μ20.1 = NN := stI_N e21 hN18
  refine J.wI (pc := 33) dX11_readsPerson_33 k14 (okN hN18 k14 (by decide)) e21 ?_
  refine J.aload_n (pc := 34) dX11_readsPerson_34 rfl 1 rfl ?_
  obtain ⟨a23, e24, h⟩ := bnd h
  have k25 : (kd a23).1 = 0 := gR_k e24
  refine J.fR (pc := 35) dX11_readsPerson_35 fl_RX11_35 k0 (okN hN22 k0 (by decide)) rfl e24 ?_
  refine J.bipush (pc := 38) dX11_readsPerson_38 ib_61 ?_
  refine J.iload_n (pc := 40) dX11_readsPerson_40 rfl 0 rfl ?_
  refine J.iadd (pc := 41) dX11_readsPerson_41 ?_
  refine J.iconst (pc := 42) dX11_readsPerson_42 ic_m1 ?_
  obtain ⟨μ26, e27, h⟩ := bnd h
  have hN28 : μ26.1 = NN := stI_N e27 hN22
  refine J.wI (pc := 43) dX11_readsPerson_43 k25 (okN hN22 k25 (by decide)) e27 ?_
  refine J.aload_n (pc := 44) dX11_readsPerson_44 rfl 1 rfl ?_
  refine J.callV (Y := mX11_readsPerson) (Z := mX11_isGood) (pc := 45) (st := []) (k2 := 0) (n2 := 0) dX11_readsPerson_45 ml_RX11_158 mo_X11_isGood mv_X11_isGood rfl (tX11_isGood (d + 2) v0 μ26 hN28 k0) k0 (okN hN28 k0 (by decide)).1 (okN hN28 k0 (by decide)).2 cq_11 (by decide) rfl rfl (Nat.le_of_ble_eq_true rfl) (by decide) (by decide) (fun v ν hp => ?_) (fun i ν hp => nrm hp.1)
  obtain ⟨rfl, rfl, hN30, hb31⟩ := QEl hp
  show J _ _ _ _ 48 _ ([.int (fX11_isGood v0 μ26)]) _ _ _ _
  rcases ifc h with ⟨hc, h⟩ | ⟨hc, h⟩
  · refine J.zeq (pc := 48) (tgt := 77) dX11_readsPerson_48 (by decide) (fun _ => ?_) (fun q => absurd hc q)
    refine J.aload_n (pc := 77) dX11_readsPerson_77 rfl 1 rfl ?_
    refine J.callV (Y := mX11_readsPerson) (Z := mX11_isGood) (pc := 78) (st := []) (k2 := 0) (n2 := 0) dX11_readsPerson_78 ml_RX11_158 mo_X11_isGood mv_X11_isGood rfl (tX11_isGood (d + 2) v0 μ26 hN30 k0) k0 (okN hN30 k0 (by decide)).1 (okN hN30 k0 (by decide)).2 cq_11 (by decide) rfl rfl (Nat.le_of_ble_eq_true rfl) (by decide) (by decide) (fun v ν hp => ?_) (fun i ν hp => nrm hp.1)
    obtain ⟨rfl, rfl, hN33, hb34⟩ := QEl hp
    show J _ _ _ _ 81 _ ([.int (fX11_isGood v0 μ26)]) _ _ _ _
    rcases ifc h with ⟨hc, h⟩ | ⟨hc, h⟩
    · refine J.zeq (pc := 81) (tgt := 94) dX11_readsPerson_81 (by decide) (fun _ => ?_) (fun q => absurd hc q)
      cases h
      exact J.vret (pc := 94) dX11_readsPerson_94 rfl ⟨rfl, rfl, hN33, trivial⟩
    · refine J.zeq (pc := 81) (tgt := 94) dX11_readsPerson_81 (by decide) (fun q => absurd q hc) (fun _ => ?_)
      refine J.aload_n (pc := 84) dX11_readsPerson_84 rfl 1 rfl ?_
      refine J.dup (pc := 85) dX11_readsPerson_85 rfl ?_
      refine J.fI (pc := 86) dX11_readsPerson_86 fl_RX11_234 k0 (okN hN33 k0 (by decide)) (Or.inl rfl) ?_
      refine J.iconst (pc := 89) dX11_readsPerson_89 ic_1 ?_
      refine J.iadd (pc := 90) dX11_readsPerson_90 ?_
      obtain ⟨μ35, e36, h⟩ := bnd h
      have hN37 : μ35.1 = NN := smN e36 hN33
      refine J.qI (pc := 91) dX11_readsPerson_91 fl_RX11_234 k0 (okN hN33 k0 (by decide)) rfl rfl e36 ?_
      cases h
      exact J.vret (pc := 94) dX11_readsPerson_94 rfl ⟨rfl, rfl, hN37, trivial⟩
  · refine J.zeq (pc := 48) (tgt := 77) dX11_readsPerson_48 (by decide) (fun q => absurd q hc) (fun _ => ?_)
    refine J.aload_n (pc := 51) dX11_readsPerson_51 rfl 1 rfl ?_
    obtain ⟨r39, e38, h⟩ := bnd h
    refine J.callV (Y := mX11_readsPerson) (Z := mX11_knownWord) (pc := 52) (st := []) (k2 := 0) (n2 := 0) dX11_readsPerson_52 ml_RX11_183 mo_X11_knownWord mv_X11_knownWord rfl (tX11_knownWord d e38 hN30 k0) k0 (okN hN30 k0 (by decide)).1 (okN hN30 k0 (by decide)).2 cq_11 (by decide) rfl rfl (Nat.le_of_ble_eq_true rfl) (by decide) (by decide) (fun v ν hp => ?_) (fun i ν hp => nrm hp.1)
    obtain ⟨rfl, rfl, hN40, hb41⟩ := QEl hp
    show J _ _ _ _ 55 _ ([.int r39]) _ _ _ _
    refine J.bipush (pc := 55) dX11_readsPerson_55 ib_11 ?_
    rcases ifc h with ⟨hc, h⟩ | ⟨hc, h⟩
    · refine J.cne (pc := 57) (tgt := 77) dX11_readsPerson_57 (by decide) (fun _ => ?_) (fun q => absurd hc q)
      refine J.aload_n (pc := 60) dX11_readsPerson_60 rfl 1 rfl ?_
      obtain ⟨μ43, e42, h⟩ := bnd h
      refine J.callV (Y := mX11_readsPerson) (Z := mX11_goes) (pc := 61) (st := []) (k2 := 0) (n2 := 0) dX11_readsPerson_61 ml_RX11_162 mo_X11_goes mv_X11_goes rfl (tX11_goes (d + 1) e42 hN40 k0) k0 (okN hN40 k0 (by decide)).1 (okN hN40 k0 (by decide)).2 cq_11 (by decide) rfl rfl (Nat.le_of_ble_eq_true rfl) (by decide) (by decide) (fun v ν hp => ?_) (fun i ν hp => nrm hp.1)
      obtain ⟨rfl, rfl, hN44, hb45⟩ := QEl hp
      show J _ _ _ _ 64 _ ([]) _ _ _ _
      refine J.aload_n (pc := 64) dX11_readsPerson_64 rfl 1 rfl ?_
      obtain ⟨a46, e47, h⟩ := bnd h
      have k48 : (kd a46).1 = 0 := gR_k e47
      refine J.fR (pc := 65) dX11_readsPerson_65 fl_RX11_35 k0 (okN hN44 k0 (by decide)) rfl e47 ?_
      refine J.bipush (pc := 68) dX11_readsPerson_68 ib_61 ?_
      refine J.iload_n (pc := 70) dX11_readsPerson_70 rfl 0 rfl ?_
      refine J.iadd (pc := 71) dX11_readsPerson_71 ?_
      refine J.aload_n (pc := 72) dX11_readsPerson_72 rfl 1 rfl ?_
      obtain ⟨⟨r51, μ50⟩, e49, h⟩ := bnd h
      try dsimp only at h
      refine J.callV (Y := mX11_readsPerson) (Z := mX11_readsPlace) (pc := 73) (st := [.int ((61 : Int32) + (μ.2.1 v0 21)), .ref a46]) (k2 := 0) (n2 := 0) dX11_readsPerson_73 ml_RX11_237 mo_X11_readsPlace mv_X11_readsPlace rfl (tX11_readsPlace d e49 hN44 k0) k0 (okN hN44 k0 (by decide)).1 (okN hN44 k0 (by decide)).2 cq_11 (by decide) rfl rfl (Nat.le_of_ble_eq_true rfl) (by decide) (by decide) (fun v ν hp => ?_) (fun i ν hp => nrm hp.1)
      obtain ⟨rfl, rfl, hN52, hb53⟩ := QEl hp
      show J _ _ _ _ 76 _ ([.int r51, .int ((61 : Int32) + (μ.2.1 v0 21)), .ref a46]) _ _ _ _
      obtain ⟨μ54, e55, h⟩ := bnd h
      have hN56 : μ54.1 = NN := stI_N e55 hN52
      refine J.wI (pc := 76) dX11_readsPerson_76 k48 (okN hN52 k48 (by decide)) e55 ?_
      refine J.aload_n (pc := 77) dX11_readsPerson_77 rfl 1 rfl ?_
      refine J.callV (Y := mX11_readsPerson) (Z := mX11_isGood) (pc := 78) (st := []) (k2 := 0) (n2 := 0) dX11_readsPerson_78 ml_RX11_158 mo_X11_isGood mv_X11_isGood rfl (tX11_isGood (d + 2) v0 μ54 hN56 k0) k0 (okN hN56 k0 (by decide)).1 (okN hN56 k0 (by decide)).2 cq_11 (by decide) rfl rfl (Nat.le_of_ble_eq_true rfl) (by decide) (by decide) (fun v ν hp => ?_) (fun i ν hp => nrm hp.1)
      obtain ⟨rfl, rfl, hN58, hb59⟩ := QEl hp
      show J _ _ _ _ 81 _ ([.int (fX11_isGood v0 μ54)]) _ _ _ _
      rcases ifc h with ⟨hc, h⟩ | ⟨hc, h⟩
      · refine J.zeq (pc := 81) (tgt := 94) dX11_readsPerson_81 (by decide) (fun _ => ?_) (fun q => absurd hc q)
        cases h
        exact J.vret (pc := 94) dX11_readsPerson_94 rfl ⟨rfl, rfl, hN58, trivial⟩
      · refine J.zeq (pc := 81) (tgt := 94) dX11_readsPerson_81 (by decide) (fun q => absurd q hc) (fun _ => ?_)
        refine J.aload_n (pc := 84) dX11_readsPerson_84 rfl 1 rfl ?_
        refine J.dup (pc := 85) dX11_readsPerson_85 rfl ?_
        refine J.fI (pc := 86) dX11_readsPerson_86 fl_RX11_234 k0 (okN hN58 k0 (by decide)) (Or.inl rfl) ?_
        refine J.iconst (pc := 89) dX11_readsPerson_89 ic_1 ?_
        refine J.iadd (pc := 90) dX11_readsPerson_90 ?_
        obtain ⟨μ60, e61, h⟩ := bnd h
        have hN62 : μ60.1 = NN := smN e61 hN58
        refine J.qI (pc := 91) dX11_readsPerson_91 fl_RX11_234 k0 (okN hN58 k0 (by decide)) rfl rfl e61 ?_
        cases h
        exact J.vret (pc := 94) dX11_readsPerson_94 rfl ⟨rfl, rfl, hN62, trivial⟩
    · refine J.cne (pc := 57) (tgt := 77) dX11_readsPerson_57 (by decide) (fun q => absurd q hc) (fun _ => ?_)
      refine J.aload_n (pc := 77) dX11_readsPerson_77 rfl 1 rfl ?_
      refine J.callV (Y := mX11_readsPerson) (Z := mX11_isGood) (pc := 78) (st := []) (k2 := 0) (n2 := 0) dX11_readsPerson_78 ml_RX11_158 mo_X11_isGood mv_X11_isGood rfl (tX11_isGood (d + 2) v0 μ26 hN40 k0) k0 (okN hN40 k0 (by decide)).1 (okN hN40 k0 (by decide)).2 cq_11 (by decide) rfl rfl (Nat.le_of_ble_eq_true rfl) (by decide) (by decide) (fun v ν hp => ?_) (fun i ν hp => nrm hp.1)
      obtain ⟨rfl, rfl, hN64, hb65⟩ := QEl hp
      show J _ _ _ _ 81 _ ([.int (fX11_isGood v0 μ26)]) _ _ _ _
      rcases ifc h with ⟨hc, h⟩ | ⟨hc, h⟩
      · refine J.zeq (pc := 81) (tgt := 94) dX11_readsPerson_81 (by decide) (fun _ => ?_) (fun q => absurd hc q)
        cases h
        exact J.vret (pc := 94) dX11_readsPerson_94 rfl ⟨rfl, rfl, hN64, trivial⟩
      · refine J.zeq (pc := 81) (tgt := 94) dX11_readsPerson_81 (by decide) (fun q => absurd q hc) (fun _ => ?_)
        refine J.aload_n (pc := 84) dX11_readsPerson_84 rfl 1 rfl ?_
        refine J.dup (pc := 85) dX11_readsPerson_85 rfl ?_
        refine J.fI (pc := 86) dX11_readsPerson_86 fl_RX11_234 k0 (okN hN64 k0 (by decide)) (Or.inl rfl) ?_
        refine J.iconst (pc := 89) dX11_readsPerson_89 ic_1 ?_
        refine J.iadd (pc := 90) dX11_readsPerson_90 ?_
        obtain ⟨μ66, e67, h⟩ := bnd h
        have hN68 : μ66.1 = NN := smN e67 hN64
        refine J.qI (pc := 91) dX11_readsPerson_91 fl_RX11_234 k0 (okN hN64 k0 (by decide)) rfl rfl e67 ?_
        cases h
        exact J.vret (pc := 94) dX11_readsPerson_94 rfl ⟨rfl, rfl, hN68, trivial⟩
def fX11_readsStile_34  (v0 : Nat) (μ : Mem) : Option (Mem) :=
  (fX11_isOneOf v0 (μ.2.1 v0 20) μ).bind fun (r3, μ2) =>
  if r3 = 0 then
    some μ2
  else
    (fX11_goes v0 μ2).bind fun μ7 =>
    (gR μ7 v0 29 0).bind fun a10 =>
    (ldI μ7 a10 (μ2.2.1 v0 17)).bind fun x13 =>
    (gR μ7 v0 29 0).bind fun a15 =>
    (ldI μ7 a15 ((μ2.2.1 v0 17) + (1 : Int32))).bind fun x18 =>
    (fX11_isOneOf v0 (fX11_lesser x13 x18) μ7).bind fun (r25, μ24) =>
    if r25 = 0 then
      some μ24
    else
      (gR μ24 v0 30 0).bind fun a28 =>
      (ldI μ24 a28 ((49 : Int32) + (μ2.2.1 v0 17))).bind fun x31 =>
      if ((x31 >>> ((μ24.2.1 v0 17) &&& 31)) &&& (1 : Int32)) = (1 : Int32) then
        (fX11_wrong v0 (4 : Int32) μ24).bind fun μ34 =>
        if (fX11_isGood v0 μ34) = 0 then
          some μ34
        else
          (gR μ34 v0 30 0).bind fun a40 =>
          (ldI μ34 a40 ((49 : Int32) + (μ2.2.1 v0 17))).bind fun x43 =>
          (stI μ34 a40 ((49 : Int32) + (μ2.2.1 v0 17)) (x43 ||| ((1 : Int32) <<< ((μ34.2.1 v0 17) &&& 31)))).bind fun μ45 =>
          (fX11_goes v0 μ45).bind fun μ49 =>
          some μ49
      else
        if (fX11_isGood v0 μ24) = 0 then
          some μ24
        else
          (gR μ24 v0 30 0).bind fun a55 =>
          (ldI μ24 a55 ((49 : Int32) + (μ2.2.1 v0 17))).bind fun x58 =>
          (stI μ24 a55 ((49 : Int32) + (μ2.2.1 v0 17)) (x58 ||| ((1 : Int32) <<< ((μ24.2.1 v0 17) &&& 31)))).bind fun μ60 =>
          (fX11_goes v0 μ60).bind fun μ64 =>
          some μ64
set_option maxHeartbeats 4000000 in
theorem tX11_readsStile_34 {ω : Wd} {l : Launch} (d : Nat) {res : Mem} : ∀ (v0 : Nat) (μ : Mem), fX11_readsStile_34 v0 μ = some res → μ.1 = NN → (kd v0).1 = 21 → J ω l mX11_readsStile (d + 2) 34 [(0, .ref v0)] [] μ 0 0 (PE (.inl none) res True) := by
  intro v0 μ h hN k0
  unfold fX11_readsStile_34 at h
  refine J.aload_n (pc := 34) dX11_readsStile_34 rfl 0 rfl ?_
  refine J.aload_n (pc := 35) dX11_readsStile_35 rfl 0 rfl ?_
  refine J.fI (pc := 36) dX11_readsStile_36 fl_RX11_221 k0 (okN hN k0 (by decide)) (Or.inl rfl) ?_
  obtain ⟨⟨r3, μ2⟩, e1, h⟩ := bnd h
  try dsimp only at h
  refine J.callV (Y := mX11_readsStile) (Z := mX11_isOneOf) (pc := 39) (st := []) (k2 := 0) (n2 := 0) dX11_readsStile_39 ml_RX11_228 mo_X11_isOneOf mv_X11_isOneOf rfl (tX11_isOneOf d e1 hN k0) k0 (okN hN k0 (by decide)).1 (okN hN k0 (by decide)).2 cq_11 (by decide) rfl rfl (Nat.le_of_ble_eq_true rfl) (by decide) (by decide) (fun v ν hp => ?_) (fun i ν hp => nrm hp.1)
  obtain ⟨rfl, rfl, hN4, hb5⟩ := QEl hp
  show J _ _ _ _ 42 _ ([.int r3]) _ _ _ _
  rcases ifc h with ⟨hc, h⟩ | ⟨hc, h⟩
  · refine J.zne (pc := 42) (tgt := 46) dX11_readsStile_42 (by decide) (fun _ => ?_) (fun q => absurd hc q)
    cases h
    exact J.vret (pc := 45) dX11_readsStile_45 rfl ⟨rfl, rfl, hN4, trivial⟩
  · refine J.zne (pc := 42) (tgt := 46) dX11_readsStile_42 (by decide) (fun q => absurd q hc) (fun _ => ?_)
    refine J.aload_n (pc := 46) dX11_readsStile_46 rfl 0 rfl ?_
    refine J.fI (pc := 47) dX11_readsStile_47 fl_RX11_126 k0 (okN hN4 k0 (by decide)) (Or.inl rfl) ?_
    refine J.istore_n (pc := 50) ([(1, .int (μ2.2.1 v0 17)), (0, .ref v0)]) dX11_readsStile_50 rfl (Nat.le_of_ble_eq_true rfl) rfl ?_
    refine J.aload_n (pc := 51) dX11_readsStile_51 rfl 1 rfl ?_
    obtain ⟨μ7, e6, h⟩ := bnd h
    refine J.callV (Y := mX11_readsStile) (Z := mX11_goes) (pc := 52) (st := []) (k2 := 0) (n2 := 0) dX11_readsStile_52 ml_RX11_162 mo_X11_goes mv_X11_goes rfl (tX11_goes d e6 hN4 k0) k0 (okN hN4 k0 (by decide)).1 (okN hN4 k0 (by decide)).2 cq_11 (by decide) rfl rfl (Nat.le_of_ble_eq_true rfl) (by decide) (by decide) (fun v ν hp => ?_) (fun i ν hp => nrm hp.1)
    obtain ⟨rfl, rfl, hN8, hb9⟩ := QEl hp
    show J _ _ _ _ 55 _ ([]) _ _ _ _
    refine J.aload_n (pc := 55) dX11_readsStile_55 rfl 1 rfl ?_
    refine J.aload_n (pc := 56) dX11_readsStile_56 rfl 1 rfl ?_
    obtain ⟨a10, e11, h⟩ := bnd h
    have k12 : (kd a10).1 = 0 := gR_k e11
    refine J.fR (pc := 57) dX11_readsStile_57 fl_RX11_32 k0 (okN hN8 k0 (by decide)) rfl e11 ?_
    refine J.iload_n (pc := 60) dX11_readsStile_60 rfl 0 rfl ?_
    obtain ⟨x13, e14, h⟩ := bnd h
    refine J.aI (pc := 61) dX11_readsStile_61 k12 (okN hN8 k12 (by decide)) e14 ?_
    refine J.aload_n (pc := 62) dX11_readsStile_62 rfl 1 rfl ?_
    obtain ⟨a15, e16, h⟩ := bnd h
    have k17 : (kd a15).1 = 0 := gR_k e16
    refine J.fR (pc := 63) dX11_readsStile_63 fl_RX11_32 k0 (okN hN8 k0 (by decide)) rfl e16 ?_
    refine J.iload_n (pc := 66) dX11_readsStile_66 rfl 0 rfl ?_
    refine J.iconst (pc := 67) dX11_readsStile_67 ic_1 ?_
    refine J.iadd (pc := 68) dX11_readsStile_68 ?_
    obtain ⟨x18, e19, h⟩ := bnd h
    refine J.aI (pc := 69) dX11_readsStile_69 k17 (okN hN8 k17 (by decide)) e19 ?_
    refine J.callS (Y := mX11_readsStile) (Z := mX11_lesser) (pc := 70) (st := [.ref v0]) (k2 := 0) (n2 := 0) dX11_readsStile_70 ml_RX11_231 mo_X11_lesser ms_X11_lesser rfl (tX11_lesser (d + 1) x13 x18 μ7 hN8 ) rfl rfl (Nat.le_of_ble_eq_true rfl) (by decide) (by decide) (fun v ν hp => ?_) (fun i ν hp => nrm hp.1)
    obtain ⟨rfl, rfl, hN21, hb22⟩ := QEl hp
    show J _ _ _ _ 73 _ ([.int (fX11_lesser x13 x18), .ref v0]) _ _ _ _
    obtain ⟨⟨r25, μ24⟩, e23, h⟩ := bnd h
    try dsimp only at h
    refine J.callV (Y := mX11_readsStile) (Z := mX11_isOneOf) (pc := 73) (st := []) (k2 := 0) (n2 := 0) dX11_readsStile_73 ml_RX11_228 mo_X11_isOneOf mv_X11_isOneOf rfl (tX11_isOneOf d e23 hN21 k0) k0 (okN hN21 k0 (by decide)).1 (okN hN21 k0 (by decide)).2 cq_11 (by decide) rfl rfl (Nat.le_of_ble_eq_true rfl) (by decide) (by decide) (fun v ν hp => ?_) (fun i ν hp => nrm hp.1)
    obtain ⟨rfl, rfl, hN26, hb27⟩ := QEl hp
    show J _ _ _ _ 76 _ ([.int r25]) _ _ _ _
    rcases ifc h with ⟨hc, h⟩ | ⟨hc, h⟩
    · refine J.zne (pc := 76) (tgt := 80) dX11_readsStile_76 (by decide) (fun _ => ?_) (fun q => absurd hc q)
      cases h
      exact J.vret (pc := 79) dX11_readsStile_79 rfl ⟨rfl, rfl, hN26, trivial⟩
    · refine J.zne (pc := 76) (tgt := 80) dX11_readsStile_76 (by decide) (fun q => absurd q hc) (fun _ => ?_)
      refine J.aload_n (pc := 80) dX11_readsStile_80 rfl 1 rfl ?_
      obtain ⟨a28, e29, h⟩ := bnd h
      have k30 : (kd a28).1 = 0 := gR_k e29
      refine J.fR (pc := 81) dX11_readsStile_81 fl_RX11_35 k0 (okN hN26 k0 (by decide)) rfl e29 ?_
      refine J.bipush (pc := 84) dX11_readsStile_84 ib_49 ?_
      refine J.iload_n (pc := 86) dX11_readsStile_86 rfl 0 rfl ?_
      refine J.iadd (pc := 87) dX11_readsStile_87 ?_
      obtain ⟨x31, e32, h⟩ := bnd h
      refine J.aI (pc := 88) dX11_readsStile_88 k30 (okN hN26 k30 (by decide)) e32 ?_
      refine J.aload_n (pc := 89) dX11_readsStile_89 rfl 1 rfl ?_
      refine J.fI (pc := 90) dX11_readsStile_90 fl_RX11_126 k0 (okN hN26 k0 (by decide)) (Or.inl rfl) ?_
      refine J.ishr (pc := 93) dX11_readsStile_93 ?_
      refine J.iconst (pc := 94) dX11_readsStile_94 ic_1 ?_
      refine J.iand (pc := 95) dX11_readsStile_95 ?_
      refine J.iconst (pc := 96) dX11_readsStile_96 ic_1 ?_
      rcases ifc h with ⟨hc, h⟩ | ⟨hc, h⟩
      · refine J.cne (pc := 97) (tgt := 105) dX11_readsStile_97 (by decide) (fun _ => ?_) (fun q => absurd hc q)
        refine J.aload_n (pc := 100) dX11_readsStile_100 rfl 1 rfl ?_
        refine J.iconst (pc := 101) dX11_readsStile_101 ic_4 ?_
        obtain ⟨μ34, e33, h⟩ := bnd h
        refine J.callV (Y := mX11_readsStile) (Z := mX11_wrong) (pc := 102) (st := []) (k2 := 0) (n2 := 0) dX11_readsStile_102 ml_RX11_165 mo_X11_wrong mv_X11_wrong rfl (tX11_wrong (d + 1) e33 hN26 k0) k0 (okN hN26 k0 (by decide)).1 (okN hN26 k0 (by decide)).2 cq_11 (by decide) rfl rfl (Nat.le_of_ble_eq_true rfl) (by decide) (by decide) (fun v ν hp => ?_) (fun i ν hp => nrm hp.1)
        obtain ⟨rfl, rfl, hN35, hb36⟩ := QEl hp
        show J _ _ _ _ 105 _ ([]) _ _ _ _
        refine J.aload_n (pc := 105) dX11_readsStile_105 rfl 1 rfl ?_
        refine J.callV (Y := mX11_readsStile) (Z := mX11_isGood) (pc := 106) (st := []) (k2 := 0) (n2 := 0) dX11_readsStile_106 ml_RX11_158 mo_X11_isGood mv_X11_isGood rfl (tX11_isGood (d + 1) v0 μ34 hN35 k0) k0 (okN hN35 k0 (by decide)).1 (okN hN35 k0 (by decide)).2 cq_11 (by decide) rfl rfl (Nat.le_of_ble_eq_true rfl) (by decide) (by decide) (fun v ν hp => ?_) (fun i ν hp => nrm hp.1)
        obtain ⟨rfl, rfl, hN38, hb39⟩ := QEl hp
        show J _ _ _ _ 109 _ ([.int (fX11_isGood v0 μ34)]) _ _ _ _
        rcases ifc h with ⟨hc, h⟩ | ⟨hc, h⟩
        · refine J.zne (pc := 109) (tgt := 113) dX11_readsStile_109 (by decide) (fun _ => ?_) (fun q => absurd hc q)
          cases h
          exact J.vret (pc := 112) dX11_readsStile_112 rfl ⟨rfl, rfl, hN38, trivial⟩
        · refine J.zne (pc := 109) (tgt := 113) dX11_readsStile_109 (by decide) (fun q => absurd q hc) (fun _ => ?_)
          refine J.aload_n (pc := 113) dX11_readsStile_113 rfl 1 rfl ?_
          obtain ⟨a40, e41, h⟩ := bnd h
          have k42 : (kd a40).1 = 0 := gR_k e41
          refine J.fR (pc := 114) dX11_readsStile_114 fl_RX11_35 k0 (okN hN38 k0 (by decide)) rfl e41 ?_
          refine J.bipush (pc := 117) dX11_readsStile_117 ib_49 ?_
          refine J.iload_n (pc := 119) dX11_readsStile_119 rfl 0 rfl ?_
          refine J.iadd (pc := 120) dX11_readsStile_120 ?_
          refine J.dup2 (pc := 121) dX11_readsStile_121 rfl rfl ?_
          obtain ⟨x43, e44, h⟩ := bnd h
          refine J.aI (pc := 122) dX11_readsStile_122 k42 (okN hN38 k42 (by decide)) e44 ?_
          refine J.iconst (pc := 123) dX11_readsStile_123 ic_1 ?_
          refine J.aload_n (pc := 124) dX11_readsStile_124 rfl 1 rfl ?_
          refine J.fI (pc := 125) dX11_readsStile_125 fl_RX11_126 k0 (okN hN38 k0 (by decide)) (Or.inl rfl) ?_
          refine J.ishl (pc := 128) dX11_readsStile_128 ?_
          refine J.ior (pc := 129) dX11_readsStile_129 ?_
          obtain ⟨μ45, e46, h⟩ := bnd h
          have hN47 : μ45.1 = NN := stI_N e46 hN38
          refine J.wI (pc := 130) dX11_readsStile_130 k42 (okN hN38 k42 (by decide)) e46 ?_
          refine J.aload_n (pc := 131) dX11_readsStile_131 rfl 1 rfl ?_
          obtain ⟨μ49, e48, h⟩ := bnd h
          refine J.callV (Y := mX11_readsStile) (Z := mX11_goes) (pc := 132) (st := []) (k2 := 0) (n2 := 0) dX11_readsStile_132 ml_RX11_162 mo_X11_goes mv_X11_goes rfl (tX11_goes d e48 hN47 k0) k0 (okN hN47 k0 (by decide)).1 (okN hN47 k0 (by decide)).2 cq_11 (by decide) rfl rfl (Nat.le_of_ble_eq_true rfl) (by decide) (by decide) (fun v ν hp => ?_) (fun i ν hp => nrm hp.1)
          obtain ⟨rfl, rfl, hN50, hb51⟩ := QEl hp
          show J _ _ _ _ 135 _ ([]) _ _ _ _
          cases h
          exact J.vret (pc := 135) dX11_readsStile_135 rfl ⟨rfl, rfl, hN50, trivial⟩
      · refine J.cne (pc := 97) (tgt := 105) dX11_readsStile_97 (by decide) (fun q => absurd q hc) (fun _ => ?_)
        refine J.aload_n (pc := 105) dX11_readsStile_105 rfl 1 rfl ?_
        refine J.callV (Y := mX11_readsStile) (Z := mX11_isGood) (pc := 106) (st := []) (k2 := 0) (n2 := 0) dX11_readsStile_106 ml_RX11_158 mo_X11_isGood mv_X11_isGood rfl (tX11_isGood (d + 1) v0 μ24 hN26 k0) k0 (okN hN26 k0 (by decide)).1 (okN hN26 k0 (by decide)).2 cq_11 (by decide) rfl rfl (Nat.le_of_ble_eq_true rfl) (by decide) (by decide) (fun v ν hp => ?_) (fun i ν hp => nrm hp.1)
        obtain ⟨rfl, rfl, hN53, hb54⟩ := QEl hp
        show J _ _ _ _ 109 _ ([.int (fX11_isGood v0 μ24)]) _ _ _ _
        rcases ifc h with ⟨hc, h⟩ | ⟨hc, h⟩
        · refine J.zne (pc := 109) (tgt := 113) dX11_readsStile_109 (by decide) (fun _ => ?_) (fun q => absurd hc q)
          cases h
          exact J.vret (pc := 112) dX11_readsStile_112 rfl ⟨rfl, rfl, hN53, trivial⟩
        · refine J.zne (pc := 109) (tgt := 113) dX11_readsStile_109 (by decide) (fun q => absurd q hc) (fun _ => ?_)
          refine J.aload_n (pc := 113) dX11_readsStile_113 rfl 1 rfl ?_
          obtain ⟨a55, e56, h⟩ := bnd h
          have k57 : (kd a55).1 = 0 := gR_k e56
          refine J.fR (pc := 114) dX11_readsStile_114 fl_RX11_35 k0 (okN hN53 k0 (by decide)) rfl e56 ?_
          refine J.bipush (pc := 117) dX11_readsStile_117 ib_49 ?_
          refine J.iload_n (pc := 119) dX11_readsStile_119 rfl 0 rfl ?_
          refine J.iadd (pc := 120) dX11_readsStile_120 ?_
          refine J.dup2 (pc := 121) dX11_readsStile_121 rfl rfl ?_
          obtain ⟨x58, e59, h⟩ := bnd h
          refine J.aI (pc := 122) dX11_readsStile_122 k57 (okN hN53 k57 (by decide)) e59 ?_
          refine J.iconst (pc := 123) dX11_readsStile_123 ic_1 ?_
          refine J.aload_n (pc := 124) dX11_readsStile_124 rfl 1 rfl ?_
          refine J.fI (pc := 125) dX11_readsStile_125 fl_RX11_126 k0 (okN hN53 k0 (by decide)) (Or.inl rfl) ?_
          refine J.ishl (pc := 128) dX11_readsStile_128 ?_
          refine J.ior (pc := 129) dX11_readsStile_129 ?_
          obtain ⟨μ60, e61, h⟩ := bnd h
          have hN62 : μ60.1 = NN := stI_N e61 hN53
          refine J.wI (pc := 130) dX11_readsStile_130 k57 (okN hN53 k57 (by decide)) e61 ?_
          refine J.aload_n (pc := 131) dX11_readsStile_131 rfl 1 rfl ?_
          obtain ⟨μ64, e63, h⟩ := bnd h
          refine J.callV (Y := mX11_readsStile) (Z := mX11_goes) (pc := 132) (st := []) (k2 := 0) (n2 := 0) dX11_readsStile_132 ml_RX11_162 mo_X11_goes mv_X11_goes rfl (tX11_goes d e63 hN62 k0) k0 (okN hN62 k0 (by decide)).1 (okN hN62 k0 (by decide)).2 cq_11 (by decide) rfl rfl (Nat.le_of_ble_eq_true rfl) (by decide) (by decide) (fun v ν hp => ?_) (fun i ν hp => nrm hp.1)
          obtain ⟨rfl, rfl, hN65, hb66⟩ := QEl hp
          show J _ _ _ _ 135 _ ([]) _ _ _ _
          cases h
          exact J.vret (pc := 135) dX11_readsStile_135 rfl ⟨rfl, rfl, hN65, trivial⟩
def fX11_readsStile (v0 : Nat) (μ : Mem) : Option (Mem) :=
  if (μ.2.1 v0 14) = (2 : Int32) then
    if (4 : Int32) < (μ.2.1 v0 16) then
      (fX11_readsStile_34) v0 μ
    else
      if ((μ.2.1 v0 17) + (1 : Int32)) < (μ.2.1 v0 20) then
        (fX11_readsStile_34) v0 μ
      else
        (fX11_wrong v0 (3 : Int32) μ).bind fun μ2 =>
        (fX11_readsStile_34) v0 μ2
  else
    (fX11_readsStile_34) v0 μ
set_option maxHeartbeats 4000000 in
theorem tX11_readsStile {ω : Wd} {l : Launch} (d : Nat) {v0 : Nat} {μ : Mem} {res : Mem} (h : fX11_readsStile v0 μ = some res) (hN : μ.1 = NN) (k0 : (kd v0).1 = 21) : Ct ω l mX11_readsStile (d + 2) [.ref v0] μ 0 0 (PE (.inl none) res True) := by
  refine Ct.of pn_RX11 (Nat.le_of_ble_eq_true rfl) ?_
  show J ω l mX11_readsStile (d + 2) 0 [(0, .ref v0)] [] μ 0 0 _
  unfold fX11_readsStile at h
  refine J.aload_n (pc := 0) dX11_readsStile_0 rfl 0 rfl ?_
  refine J.fI (pc := 1) dX11_readsStile_1 fl_RX11_132 k0 (okN hN k0 (by decide)) (Or.inl rfl) ?_
  refine J.iconst (pc := 4) dX11_readsStile_4 ic_2 ?_
  rcases ifc h with ⟨hc, h⟩ | ⟨hc, h⟩
  · refine J.cne (pc := 5) (tgt := 34) dX11_readsStile_5 (by decide) (fun _ => ?_) (fun q => absurd hc q)
    refine J.aload_n (pc := 8) dX11_readsStile_8 rfl 0 rfl ?_
    refine J.fI (pc := 9) dX11_readsStile_9 fl_RX11_142 k0 (okN hN k0 (by decide)) (Or.inl rfl) ?_
    refine J.iconst (pc := 12) dX11_readsStile_12 ic_4 ?_
    rcases ifc h with ⟨hc, h⟩ | ⟨hc, h⟩
    · refine J.cgt (pc := 13) (tgt := 34) dX11_readsStile_13 (by decide) (fun _ => ?_) (fun q => absurd hc q)
      exact (tX11_readsStile_34 d) v0 μ h hN k0
    · refine J.cgt (pc := 13) (tgt := 34) dX11_readsStile_13 (by decide) (fun q => absurd q hc) (fun _ => ?_)
      refine J.aload_n (pc := 16) dX11_readsStile_16 rfl 0 rfl ?_
      refine J.fI (pc := 17) dX11_readsStile_17 fl_RX11_126 k0 (okN hN k0 (by decide)) (Or.inl rfl) ?_
      refine J.iconst (pc := 20) dX11_readsStile_20 ic_1 ?_
      refine J.iadd (pc := 21) dX11_readsStile_21 ?_
      refine J.aload_n (pc := 22) dX11_readsStile_22 rfl 0 rfl ?_
      refine J.fI (pc := 23) dX11_readsStile_23 fl_RX11_221 k0 (okN hN k0 (by decide)) (Or.inl rfl) ?_
      rcases ifc h with ⟨hc, h⟩ | ⟨hc, h⟩
      · refine J.clt (pc := 26) (tgt := 34) dX11_readsStile_26 (by decide) (fun _ => ?_) (fun q => absurd hc q)
        exact (tX11_readsStile_34 d) v0 μ h hN k0
      · refine J.clt (pc := 26) (tgt := 34) dX11_readsStile_26 (by decide) (fun q => absurd q hc) (fun _ => ?_)
        refine J.aload_n (pc := 29) dX11_readsStile_29 rfl 0 rfl ?_
        refine J.iconst (pc := 30) dX11_readsStile_30 ic_3 ?_
        obtain ⟨μ2, e1, h⟩ := bnd h
        refine J.callV (Y := mX11_readsStile) (Z := mX11_wrong) (pc := 31) (st := []) (k2 := 0) (n2 := 0) dX11_readsStile_31 ml_RX11_165 mo_X11_wrong mv_X11_wrong rfl (tX11_wrong (d + 1) e1 hN k0) k0 (okN hN k0 (by decide)).1 (okN hN k0 (by decide)).2 cq_11 (by decide) rfl rfl (Nat.le_of_ble_eq_true rfl) (by decide) (by decide) (fun v ν hp => ?_) (fun i ν hp => nrm hp.1)
        obtain ⟨rfl, rfl, hN3, hb4⟩ := QEl hp
        show J _ _ _ _ 34 _ ([]) _ _ _ _
        exact (tX11_readsStile_34 d) v0 μ2 h hN3 k0
  · refine J.cne (pc := 5) (tgt := 34) dX11_readsStile_5 (by decide) (fun q => absurd q hc) (fun _ => ?_)
    exact (tX11_readsStile_34 d) v0 μ h hN k0
