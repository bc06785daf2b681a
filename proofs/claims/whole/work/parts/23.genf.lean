def fX11_part (v0 : Nat) (μ : Mem) : Option (Mem) :=
  if (fX11_isGood v0 μ) = 0 then
    some μ
  else
    if (μ.2.1 v0 14) = (2 : Int32) then
      if (4 : Int32) < (μ.2.1 v0 16) then
        (fX11_wrong v0 (2 : Int32) μ).bind fun μ5 =>
        (fX11_puts v0 (1 : Int32) μ5).bind fun μ9 =>
        (fX11_puts v0 (μ9.2.1 v0 17) μ9).bind fun μ13 =>
        if (fX11_isGood v0 μ13) = 0 then
          some μ13
        else
          (fX11_goes v0 μ13).bind fun μ20 =>
          some μ20
      else
        (fX11_puts v0 (1 : Int32) μ).bind fun μ24 =>
        (fX11_puts v0 (μ24.2.1 v0 17) μ24).bind fun μ28 =>
        if (fX11_isGood v0 μ28) = 0 then
          some μ28
        else
          (fX11_goes v0 μ28).bind fun μ35 =>
          some μ35
    else
      if (μ.2.1 v0 14) = (1 : Int32) then
        (fX11_knownWord v0 μ).bind fun r39 =>
        if r39 < (μ.2.1 v0 25) then
          (fX11_wrong v0 (3 : Int32) μ).bind fun μ43 =>
          (fX11_puts v0 (2 : Int32) μ43).bind fun μ47 =>
          (fX11_puts v0 r39 μ47).bind fun μ51 =>
          if (fX11_isGood v0 μ51) = 0 then
            some μ51
          else
            (fX11_goes v0 μ51).bind fun μ58 =>
            some μ58
        else
          if (μ.2.1 v0 26) < r39 then
            (fX11_wrong v0 (3 : Int32) μ).bind fun μ62 =>
            (fX11_puts v0 (2 : Int32) μ62).bind fun μ66 =>
            (fX11_puts v0 r39 μ66).bind fun μ70 =>
            if (fX11_isGood v0 μ70) = 0 then
              some μ70
            else
              (fX11_goes v0 μ70).bind fun μ77 =>
              some μ77
          else
            (fX11_puts v0 (2 : Int32) μ).bind fun μ81 =>
            (fX11_puts v0 r39 μ81).bind fun μ85 =>
            if (fX11_isGood v0 μ85) = 0 then
              some μ85
            else
              (fX11_goes v0 μ85).bind fun μ92 =>
              some μ92
      else
        (fX11_wrong v0 (1 : Int32) μ).bind fun μ96 =>
        if (fX11_isGood v0 μ96) = 0 then
          some μ96
        else
          (fX11_goes v0 μ96).bind fun μ103 =>
          some μ103
set_option maxHeartbeats 4000000 in
theorem tX11_part {ω : Wd} {l : Launch} (d : Nat) {v0 : Nat} {μ : Mem} {res : Mem} (h : fX11_part v0 μ = some res) (hN : μ.1 = NN) (k0 : (kd v0).1 = 21) : Ct ω l mX11_part (d + 3) [.ref v0] μ 0 0 (PE (.inl none) res True) := by
  refine Ct.of pn_RX11 (Nat.le_of_ble_eq_true rfl) ?_
  show J ω l mX11_part (d + 3) 0 [(0, .ref v0)] [] μ 0 0 _
  unfold fX11_part at h
  refine J.aload_n (pc := 0) dX11_part_0 rfl 0 rfl ?_
  refine J.callV (Y := mX11_part) (Z := mX11_isGood) (pc := 1) (st := []) (k2 := 0) (n2 := 0) dX11_part_1 ml_RX11_158 mo_X11_isGood mv_X11_isGood rfl (tX11_isGood (d + 2) v0 μ hN k0) k0 (okN hN k0 (by decide)).1 (okN hN k0 (by decide)).2 cq_11 (by decide) rfl rfl (Nat.le_of_ble_eq_true rfl) (by decide) (by decide) (fun v ν hp => ?_) (fun i ν hp => nrm hp.1)
  obtain ⟨rfl, rfl, hN2, hb3⟩ := QEl hp
  show J _ _ _ _ 4 _ ([.int (fX11_isGood v0 μ)]) _ _ _ _
  rcases ifc h with ⟨hc, h⟩ | ⟨hc, h⟩
  · refine J.zne (pc := 4) (tgt := 8) dX11_part_4 (by decide) (fun _ => ?_) (fun q => absurd hc q)
    cases h
    exact J.vret (pc := 7) dX11_part_7 rfl ⟨rfl, rfl, hN2, trivial⟩
  · refine J.zne (pc := 4) (tgt := 8) dX11_part_4 (by decide) (fun q => absurd q hc) (fun _ => ?_)
    refine J.aload_n (pc := 8) dX11_part_8 rfl 0 rfl ?_
    refine J.fI (pc := 9) dX11_part_9 fl_RX11_132 k0 (okN hN2 k0 (by decide)) (Or.inl rfl) ?_
    refine J.iconst (pc := 12) dX11_part_12 ic_2 ?_
    rcases ifc h with ⟨hc, h⟩ | ⟨hc, h⟩
    · refine J.cne (pc := 13) (tgt := 45) dX11_part_13 (by decide) (fun _ => ?_) (fun q => absurd hc q)
      refine J.aload_n (pc := 16) dX11_part_16 rfl 0 rfl ?_
      refine J.fI (pc := 17) dX11_part_17 fl_RX11_142 k0 (okN hN2 k0 (by decide)) (Or.inl rfl) ?_
      refine J.iconst (pc := 20) dX11_part_20 ic_4 ?_
      rcases ifc h with ⟨hc, h⟩ | ⟨hc, h⟩
      · refine J.cle (pc := 21) (tgt := 29) dX11_part_21 (by decide) (fun _ => ?_) (fun q => absurd hc q)
        refine J.aload_n (pc := 24) dX11_part_24 rfl 0 rfl ?_
        refine J.iconst (pc := 25) dX11_part_25 ic_2 ?_
        obtain ⟨μ5, e4, h⟩ := bnd h
        refine J.callV (Y := mX11_part) (Z := mX11_wrong) (pc := 26) (st := []) (k2 := 0) (n2 := 0) dX11_part_26 ml_RX11_165 mo_X11_wrong mv_X11_wrong rfl (tX11_wrong (d + 2) e4 hN2 k0) k0 (okN hN2 k0 (by decide)).1 (okN hN2 k0 (by decide)).2 cq_11 (by decide) rfl rfl (Nat.le_of_ble_eq_true rfl) (by decide) (by decide) (fun v ν hp => ?_) (fun i ν hp => nrm hp.1)
        obtain ⟨rfl, rfl, hN6, hb7⟩ := QEl hp
        show J _ _ _ _ 29 _ ([]) _ _ _ _
        refine J.aload_n (pc := 29) dX11_part_29 rfl 0 rfl ?_
        refine J.iconst (pc := 30) dX11_part_30 ic_1 ?_
        obtain ⟨μ9, e8, h⟩ := bnd h
        refine J.callV (Y := mX11_part) (Z := mX11_puts) (pc := 31) (st := []) (k2 := 0) (n2 := 0) dX11_part_31 ml_RX11_180 mo_X11_puts mv_X11_puts rfl (tX11_puts (d + 2) e8 hN6 k0) k0 (okN hN6 k0 (by decide)).1 (okN hN6 k0 (by decide)).2 cq_11 (by decide) rfl rfl (Nat.le_of_ble_eq_true rfl) (by decide) (by decide) (fun v ν hp => ?_) (fun i ν hp => nrm hp.1)
        obtain ⟨rfl, rfl, hN10, hb11⟩ := QEl hp
        show J _ _ _ _ 34 _ ([]) _ _ _ _
        refine J.aload_n (pc := 34) dX11_part_34 rfl 0 rfl ?_
        refine J.aload_n (pc := 35) dX11_part_35 rfl 0 rfl ?_
        refine J.fI (pc := 36) dX11_part_36 fl_RX11_126 k0 (okN hN10 k0 (by decide)) (Or.inl rfl) ?_
        obtain ⟨μ13, e12, h⟩ := bnd h
        refine J.callV (Y := mX11_part) (Z := mX11_puts) (pc := 39) (st := []) (k2 := 0) (n2 := 0) dX11_part_39 ml_RX11_180 mo_X11_puts mv_X11_puts rfl (tX11_puts (d + 2) e12 hN10 k0) k0 (okN hN10 k0 (by decide)).1 (okN hN10 k0 (by decide)).2 cq_11 (by decide) rfl rfl (Nat.le_of_ble_eq_true rfl) (by decide) (by decide) (fun v ν hp => ?_) (fun i ν hp => nrm hp.1)
        obtain ⟨rfl, rfl, hN14, hb15⟩ := QEl hp
        show J _ _ _ _ 42 _ ([]) _ _ _ _
        refine J.goto (pc := 42) (tgt := 97) dX11_part_42 (by decide) ?_
        refine J.aload_n (pc := 97) dX11_part_97 rfl 0 rfl ?_
        refine J.callV (Y := mX11_part) (Z := mX11_isGood) (pc := 98) (st := []) (k2 := 0) (n2 := 0) dX11_part_98 ml_RX11_158 mo_X11_isGood mv_X11_isGood rfl (tX11_isGood (d + 2) v0 μ13 hN14 k0) k0 (okN hN14 k0 (by decide)).1 (okN hN14 k0 (by decide)).2 cq_11 (by decide) rfl rfl (Nat.le_of_ble_eq_true rfl) (by decide) (by decide) (fun v ν hp => ?_) (fun i ν hp => nrm hp.1)
        obtain ⟨rfl, rfl, hN17, hb18⟩ := QEl hp
        show J _ _ _ _ 101 _ ([.int (fX11_isGood v0 μ13)]) _ _ _ _
        rcases ifc h with ⟨hc, h⟩ | ⟨hc, h⟩
        · refine J.zeq (pc := 101) (tgt := 108) dX11_part_101 (by decide) (fun _ => ?_) (fun q => absurd hc q)
          cases h
          exact J.vret (pc := 108) dX11_part_108 rfl ⟨rfl, rfl, hN17, trivial⟩
        · refine J.zeq (pc := 101) (tgt := 108) dX11_part_101 (by decide) (fun q => absurd q hc) (fun _ => ?_)
          refine J.aload_n (pc := 104) dX11_part_104 rfl 0 rfl ?_
          obtain ⟨μ20, e19, h⟩ := bnd h
          refine J.callV (Y := mX11_part) (Z := mX11_goes) (pc := 105) (st := []) (k2 := 0) (n2 := 0) dX11_part_105 ml_RX11_162 mo_X11_goes mv_X11_goes rfl (tX11_goes (d + 1) e19 hN17 k0) k0 (okN hN17 k0 (by decide)).1 (okN hN17 k0 (by decide)).2 cq_11 (by decide) rfl rfl (Nat.le_of_ble_eq_true rfl) (by decide) (by decide) (fun v ν hp => ?_) (fun i ν hp => nrm hp.1)
          obtain ⟨rfl, rfl, hN21, hb22⟩ := QEl hp
          show J _ _ _ _ 108 _ ([]) _ _ _ _
          cases h
          exact J.vret (pc := 108) dX11_part_108 rfl ⟨rfl, rfl, hN21, trivial⟩
      · refine J.cle (pc := 21) (tgt := 29) dX11_part_21 (by decide) (fun q => absurd q hc) (fun _ => ?_)
        refine J.aload_n (pc := 29) dX11_part_29 rfl 0 rfl ?_
        refine J.iconst (pc := 30) dX11_part_30 ic_1 ?_
        obtain ⟨μ24, e23, h⟩ := bnd h
        refine J.callV (Y := mX11_part) (Z := mX11_puts) (pc := 31) (st := []) (k2 := 0) (n2 := 0) dX11_part_31 ml_RX11_180 mo_X11_puts mv_X11_puts rfl (tX11_puts (d + 2) e23 hN2 k0) k0 (okN hN2 k0 (by decide)).1 (okN hN2 k0 (by decide)).2 cq_11 (by decide) rfl rfl (Nat.le_of_ble_eq_true rfl) (by decide) (by decide) (fun v ν hp => ?_) (fun i ν hp => nrm hp.1)
        obtain ⟨rfl, rfl, hN25, hb26⟩ := QEl hp
        show J _ _ _ _ 34 _ ([]) _ _ _ _
        refine J.aload_n (pc := 34) dX11_part_34 rfl 0 rfl ?_
        refine J.aload_n (pc := 35) dX11_part_35 rfl 0 rfl ?_
        refine J.fI (pc := 36) dX11_part_36 fl_RX11_126 k0 (okN hN25 k0 (by decide)) (Or.inl rfl) ?_
        obtain ⟨μ28, e27, h⟩ := bnd h
        refine J.callV (Y := mX11_part) (Z := mX11_puts) (pc := 39) (st := []) (k2 := 0) (n2 := 0) dX11_part_39 ml_RX11_180 mo_X11_puts mv_X11_puts rfl (tX11_puts (d + 2) e27 hN25 k0) k0 (okN hN25 k0 (by decide)).1 (okN hN25 k0 (by decide)).2 cq_11 (by decide) rfl rfl (Nat.le_of_ble_eq_true rfl) (by decide) (by decide) (fun v ν hp => ?_) (fun i ν hp => nrm hp.1)
        obtain ⟨rfl, rfl, hN29, hb30⟩ := QEl hp
        show J _ _ _ _ 42 _ ([]) _ _ _ _
        refine J.goto (pc := 42) (tgt := 97) dX11_part_42 (by decide) ?_
        refine J.aload_n (pc := 97) dX11_part_97 rfl 0 rfl ?_
        refine J.callV (Y := mX11_part) (Z := mX11_isGood) (pc := 98) (st := []) (k2 := 0) (n2 := 0) dX11_part_98 ml_RX11_158 mo_X11_isGood mv_X11_isGood rfl (tX11_isGood (d + 2) v0 μ28 hN29 k0) k0 (okN hN29 k0 (by decide)).1 (okN hN29 k0 (by decide)).2 cq_11 (by decide) rfl rfl (Nat.le_of_ble_eq_true rfl) (by decide) (by decide) (fun v ν hp => ?_) (fun i ν hp => nrm hp.1)
        obtain ⟨rfl, rfl, hN32, hb33⟩ := QEl hp
        show J _ _ _ _ 101 _ ([.int (fX11_isGood v0 μ28)]) _ _ _ _
        rcases ifc h with ⟨hc, h⟩ | ⟨hc, h⟩
        · refine J.zeq (pc := 101) (tgt := 108) dX11_part_101 (by decide) (fun _ => ?_) (fun q => absurd hc q)
          cases h
          exact J.vret (pc := 108) dX11_part_108 rfl ⟨rfl, rfl, hN32, trivial⟩
        · refine J.zeq (pc := 101) (tgt := 108) dX11_part_101 (by decide) (fun q => absurd q hc) (fun _ => ?_)
          refine J.aload_n (pc := 104) dX11_part_104 rfl 0 rfl ?_
          obtain ⟨μ35, e34, h⟩ := bnd h
          refine J.callV (Y := mX11_part) (Z := mX11_goes) (pc := 105) (st := []) (k2 := 0) (n2 := 0) dX11_part_105 ml_RX11_162 mo_X11_goes mv_X11_goes rfl (tX11_goes (d + 1) e34 hN32 k0) k0 (okN hN32 k0 (by decide)).1 (okN hN32 k0 (by decide)).2 cq_11 (by decide) rfl rfl (Nat.le_of_ble_eq_true rfl) (by decide) (by decide) (fun v ν hp => ?_) (fun i ν hp => nrm hp.1)
          obtain ⟨rfl, rfl, hN36, hb37⟩ := QEl hp
          show J _ _ _ _ 108 _ ([]) _ _ _ _
          cases h
          exact J.vret (pc := 108) dX11_part_108 rfl ⟨rfl, rfl, hN36, trivial⟩
    · refine J.cne (pc := 13) (tgt := 45) dX11_part_13 (by decide) (fun q => absurd q hc) (fun _ => ?_)
      refine J.aload_n (pc := 45) dX11_part_45 rfl 0 rfl ?_
      refine J.fI (pc := 46) dX11_part_46 fl_RX11_132 k0 (okN hN2 k0 (by decide)) (Or.inl rfl) ?_
      refine J.iconst (pc := 49) dX11_part_49 ic_1 ?_
      rcases ifc h with ⟨hc, h⟩ | ⟨hc, h⟩
      · refine J.cne (pc := 50) (tgt := 92) dX11_part_50 (by decide) (fun _ => ?_) (fun q => absurd hc q)
        refine J.aload_n (pc := 53) dX11_part_53 rfl 0 rfl ?_
        obtain ⟨r39, e38, h⟩ := bnd h
        refine J.callV (Y := mX11_part) (Z := mX11_knownWord) (pc := 54) (st := []) (k2 := 0) (n2 := 0) dX11_part_54 ml_RX11_183 mo_X11_knownWord mv_X11_knownWord rfl (tX11_knownWord d e38 hN2 k0) k0 (okN hN2 k0 (by decide)).1 (okN hN2 k0 (by decide)).2 cq_11 (by decide) rfl rfl (Nat.le_of_ble_eq_true rfl) (by decide) (by decide) (fun v ν hp => ?_) (fun i ν hp => nrm hp.1)
        obtain ⟨rfl, rfl, hN40, hb41⟩ := QEl hp
        show J _ _ _ _ 57 _ ([.int r39]) _ _ _ _
        refine J.istore_n (pc := 57) ([(1, .int r39), (0, .ref v0)]) dX11_part_57 rfl (Nat.le_of_ble_eq_true rfl) rfl ?_
        refine J.iload_n (pc := 58) dX11_part_58 rfl 0 rfl ?_
        refine J.aload_n (pc := 59) dX11_part_59 rfl 1 rfl ?_
        refine J.fI (pc := 60) dX11_part_60 fl_RX11_187 k0 (okN hN40 k0 (by decide)) (Or.inl rfl) ?_
        rcases ifc h with ⟨hc, h⟩ | ⟨hc, h⟩
        · refine J.clt (pc := 63) (tgt := 74) dX11_part_63 (by decide) (fun _ => ?_) (fun q => absurd hc q)
          refine J.aload_n (pc := 74) dX11_part_74 rfl 1 rfl ?_
          refine J.iconst (pc := 75) dX11_part_75 ic_3 ?_
          obtain ⟨μ43, e42, h⟩ := bnd h
          refine J.callV (Y := mX11_part) (Z := mX11_wrong) (pc := 76) (st := []) (k2 := 0) (n2 := 0) dX11_part_76 ml_RX11_165 mo_X11_wrong mv_X11_wrong rfl (tX11_wrong (d + 2) e42 hN40 k0) k0 (okN hN40 k0 (by decide)).1 (okN hN40 k0 (by decide)).2 cq_11 (by decide) rfl rfl (Nat.le_of_ble_eq_true rfl) (by decide) (by decide) (fun v ν hp => ?_) (fun i ν hp => nrm hp.1)
          obtain ⟨rfl, rfl, hN44, hb45⟩ := QEl hp
          show J _ _ _ _ 79 _ ([]) _ _ _ _
          refine J.aload_n (pc := 79) dX11_part_79 rfl 1 rfl ?_
          refine J.iconst (pc := 80) dX11_part_80 ic_2 ?_
          obtain ⟨μ47, e46, h⟩ := bnd h
          refine J.callV (Y := mX11_part) (Z := mX11_puts) (pc := 81) (st := []) (k2 := 0) (n2 := 0) dX11_part_81 ml_RX11_180 mo_X11_puts mv_X11_puts rfl (tX11_puts (d + 2) e46 hN44 k0) k0 (okN hN44 k0 (by decide)).1 (okN hN44 k0 (by decide)).2 cq_11 (by decide) rfl rfl (Nat.le_of_ble_eq_true rfl) (by decide) (by decide) (fun v ν hp => ?_) (fun i ν hp => nrm hp.1)
          obtain ⟨rfl, rfl, hN48, hb49⟩ := QEl hp
          show J _ _ _ _ 84 _ ([]) _ _ _ _
          refine J.aload_n (pc := 84) dX11_part_84 rfl 1 rfl ?_
          refine J.iload_n (pc := 85) dX11_part_85 rfl 0 rfl ?_
          obtain ⟨μ51, e50, h⟩ := bnd h
          refine J.callV (Y := mX11_part) (Z := mX11_puts) (pc := 86) (st := []) (k2 := 0) (n2 := 0) dX11_part_86 ml_RX11_180 mo_X11_puts mv_X11_puts rfl (tX11_puts (d + 2) e50 hN48 k0) k0 (okN hN48 k0 (by decide)).1 (okN hN48 k0 (by decide)).2 cq_11 (by decide) rfl rfl (Nat.le_of_ble_eq_true rfl) (by decide) (by decide) (fun v ν hp => ?_) (fun i ν hp => nrm hp.1)
          obtain ⟨rfl, rfl, hN52, hb53⟩ := QEl hp
          show J _ _ _ _ 89 _ ([]) _ _ _ _
          refine J.goto (pc := 89) (tgt := 97) dX11_part_89 (by decide) ?_
          refine J.aload_n (pc := 97) dX11_part_97 rfl 1 rfl ?_
          refine J.callV (Y := mX11_part) (Z := mX11_isGood) (pc := 98) (st := []) (k2 := 0) (n2 := 0) dX11_part_98 ml_RX11_158 mo_X11_isGood mv_X11_isGood rfl (tX11_isGood (d + 2) v0 μ51 hN52 k0) k0 (okN hN52 k0 (by decide)).1 (okN hN52 k0 (by decide)).2 cq_11 (by decide) rfl rfl (Nat.le_of_ble_eq_true rfl) (by decide) (by decide) (fun v ν hp => ?_) (fun i ν hp => nrm hp.1)
          obtain ⟨rfl, rfl, hN55, hb56⟩ := QEl hp
          show J _ _ _ _ 101 _ ([.int (fX11_isGood v0 μ51)]) _ _ _ _
          rcases ifc h with ⟨hc, h⟩ | ⟨hc, h⟩
          · refine J.zeq (pc := 101) (tgt := 108) dX11_part_101 (by decide) (fun _ => ?_) (fun q => absurd hc q)
            cases h
            exact J.vret (pc := 108) dX11_part_108 rfl ⟨rfl, rfl, hN55, trivial⟩
          · refine J.zeq (pc := 101) (tgt := 108) dX11_part_101 (by decide) (fun q => absurd q hc) (fun _ => ?_)
            refine J.aload_n (pc := 104) dX11_part_104 rfl 1 rfl ?_
            obtain ⟨μ58, e57, h⟩ := bnd h
            refine J.callV (Y := mX11_part) (Z := mX11_goes) (pc := 105) (st := []) (k2 := 0) (n2 := 0) dX11_part_105 ml_RX11_162 mo_X11_goes mv_X11_goes rfl (tX11_goes (d + 1) e57 hN55 k0) k0 (okN hN55 k0 (by decide)).1 (okN hN55 k0 (by decide)).2 cq_11 (by decide) rfl rfl (Nat.le_of_ble_eq_true rfl) (by decide) (by decide) (fun v ν hp => ?_) (fun i ν hp => nrm hp.1)
            obtain ⟨rfl, rfl, hN59, hb60⟩ := QEl hp
            show J _ _ _ _ 108 _ ([]) _ _ _ _
            cases h
            exact J.vret (pc := 108) dX11_part_108 rfl ⟨rfl, rfl, hN59, trivial⟩
        · refine J.clt (pc := 63) (tgt := 74) dX11_part_63 (by decide) (fun q => absurd q hc) (fun _ => ?_)
          refine J.iload_n (pc := 66) dX11_part_66 rfl 0 rfl ?_
          refine J.aload_n (pc := 67) dX11_part_67 rfl 1 rfl ?_
          refine J.fI (pc := 68) dX11_part_68 fl_RX11_190 k0 (okN hN40 k0 (by decide)) (Or.inl rfl) ?_
          rcases ifc h with ⟨hc, h⟩ | ⟨hc, h⟩
          · refine J.cle (pc := 71) (tgt := 79) dX11_part_71 (by decide) (fun _ => ?_) (fun q => absurd hc q)
            refine J.aload_n (pc := 74) dX11_part_74 rfl 1 rfl ?_
            refine J.iconst (pc := 75) dX11_part_75 ic_3 ?_
            obtain ⟨μ62, e61, h⟩ := bnd h
            refine J.callV (Y := mX11_part) (Z := mX11_wrong) (pc := 76) (st := []) (k2 := 0) (n2 := 0) dX11_part_76 ml_RX11_165 mo_X11_wrong mv_X11_wrong rfl (tX11_wrong (d + 2) e61 hN40 k0) k0 (okN hN40 k0 (by decide)).1 (okN hN40 k0 (by decide)).2 cq_11 (by decide) rfl rfl (Nat.le_of_ble_eq_true rfl) (by decide) (by decide) (fun v ν hp => ?_) (fun i ν hp => nrm hp.1)
            obtain ⟨rfl, rfl, hN63, hb64⟩ := QEl hp
            show J _ _ _ _ 79 _ ([]) _ _ _ _
            refine J.aload_n (pc := 79) dX11_part_79 rfl 1 rfl ?_
            refine J.iconst (pc := 80) dX11_part_80 ic_2 ?_
            obtain ⟨μ66, e65, h⟩ := bnd h
            refine J.callV (Y := mX11_part) (Z := mX11_puts) (pc := 81) (st := []) (k2 := 0) (n2 := 0) dX11_part_81 ml_RX11_180 mo_X11_puts mv_X11_puts rfl (tX11_puts (d + 2) e65 hN63 k0) k0 (okN hN63 k0 (by decide)).1 (okN hN63 k0 (by decide)).2 cq_11 (by decide) rfl rfl (Nat.le_of_ble_eq_true rfl) (by decide) (by decide) (fun v ν hp => ?_) (fun i ν hp => nrm hp.1)
            obtain ⟨rfl, rfl, hN67, hb68⟩ := QEl hp
            show J _ _ _ _ 84 _ ([]) _ _ _ _
            refine J.aload_n (pc := 84) dX11_part_84 rfl 1 rfl ?_
            refine J.iload_n (pc := 85) dX11_part_85 rfl 0 rfl ?_
            obtain ⟨μ70, e69, h⟩ := bnd h
            refine J.callV (Y := mX11_part) (Z := mX11_puts) (pc := 86) (st := []) (k2 := 0) (n2 := 0) dX11_part_86 ml_RX11_180 mo_X11_puts mv_X11_puts rfl (tX11_puts (d + 2) e69 hN67 k0) k0 (okN hN67 k0 (by decide)).1 (okN hN67 k0 (by decide)).2 cq_11 (by decide) rfl rfl (Nat.le_of_ble_eq_true rfl) (by decide) (by decide) (fun v ν hp => ?_) (fun i ν hp => nrm hp.1)
            obtain ⟨rfl, rfl, hN71, hb72⟩ := QEl hp
            show J _ _ _ _ 89 _ ([]) _ _ _ _
            refine J.goto (pc := 89) (tgt := 97) dX11_part_89 (by decide) ?_
            refine J.aload_n (pc := 97) dX11_part_97 rfl 1 rfl ?_
            refine J.callV (Y := mX11_part) (Z := mX11_isGood) (pc := 98) (st := []) (k2 := 0) (n2 := 0) dX11_part_98 ml_RX11_158 mo_X11_isGood mv_X11_isGood rfl (tX11_isGood (d + 2) v0 μ70 hN71 k0) k0 (okN hN71 k0 (by decide)).1 (okN hN71 k0 (by decide)).2 cq_11 (by decide) rfl rfl (Nat.le_of_ble_eq_true rfl) (by decide) (by decide) (fun v ν hp => ?_) (fun i ν hp => nrm hp.1)
            obtain ⟨rfl, rfl, hN74, hb75⟩ := QEl hp
            show J _ _ _ _ 101 _ ([.int (fX11_isGood v0 μ70)]) _ _ _ _
            rcases ifc h with ⟨hc, h⟩ | ⟨hc, h⟩
            · refine J.zeq (pc := 101) (tgt := 108) dX11_part_101 (by decide) (fun _ => ?_) (fun q => absurd hc q)
              cases h
              exact J.vret (pc := 108) dX11_part_108 rfl ⟨rfl, rfl, hN74, trivial⟩
            · refine J.zeq (pc := 101) (tgt := 108) dX11_part_101 (by decide) (fun q => absurd q hc) (fun _ => ?_)
              refine J.aload_n (pc := 104) dX11_part_104 rfl 1 rfl ?_
              obtain ⟨μ77, e76, h⟩ := bnd h
              refine J.callV (Y := mX11_part) (Z := mX11_goes) (pc := 105) (st := []) (k2 := 0) (n2 := 0) dX11_part_105 ml_RX11_162 mo_X11_goes mv_X11_goes rfl (tX11_goes (d + 1) e76 hN74 k0) k0 (okN hN74 k0 (by decide)).1 (okN hN74 k0 (by decide)).2 cq_11 (by decide) rfl rfl (Nat.le_of_ble_eq_true rfl) (by decide) (by decide) (fun v ν hp => ?_) (fun i ν hp => nrm hp.1)
              obtain ⟨rfl, rfl, hN78, hb79⟩ := QEl hp
              show J _ _ _ _ 108 _ ([]) _ _ _ _
              cases h
              exact J.vret (pc := 108) dX11_part_108 rfl ⟨rfl, rfl, hN78, trivial⟩
          · refine J.cle (pc := 71) (tgt := 79) dX11_part_71 (by decide) (fun q => absurd q hc) (fun _ => ?_)
            refine J.aload_n (pc := 79) dX11_part_79 rfl 1 rfl ?_
            refine J.iconst (pc := 80) dX11_part_80 ic_2 ?_
            obtain ⟨μ81, e80, h⟩ := bnd h
            refine J.callV (Y := mX11_part) (Z := mX11_puts) (pc := 81) (st := []) (k2 := 0) (n2 := 0) dX11_part_81 ml_RX11_180 mo_X11_puts mv_X11_puts rfl (tX11_puts (d + 2) e80 hN40 k0) k0 (okN hN40 k0 (by decide)).1 (okN hN40 k0 (by decide)).2 cq_11 (by decide) rfl rfl (Nat.le_of_ble_eq_true rfl) (by decide) (by decide) (fun v ν hp => ?_) (fun i ν hp => nrm hp.1)
            obtain ⟨rfl, rfl, hN82, hb83⟩ := QEl hp
            show J _ _ _ _ 84 _ ([]) _ _ _ _
            refine J.aload_n (pc := 84) dX11_part_84 rfl 1 rfl ?_
            refine J.iload_n (pc := 85) dX11_part_85 rfl 0 rfl ?_
            obtain ⟨μ85, e84, h⟩ := bnd h
            refine J.callV (Y := mX11_part) (Z := mX11_puts) (pc := 86) (st := []) (k2 := 0) (n2 := 0) dX11_part_86 ml_RX11_180 mo_X11_puts mv_X11_puts rfl (tX11_puts (d + 2) e84 hN82 k0) k0 (okN hN82 k0 (by decide)).1 (okN hN82 k0 (by decide)).2 cq_11 (by decide) rfl rfl (Nat.le_of_ble_eq_true rfl) (by decide) (by decide) (fun v ν hp => ?_) (fun i ν hp => nrm hp.1)
            obtain ⟨rfl, rfl, hN86, hb87⟩ := QEl hp
            show J _ _ _ _ 89 _ ([]) _ _ _ _
            refine J.goto (pc := 89) (tgt := 97) dX11_part_89 (by decide) ?_
            refine J.aload_n (pc := 97) dX11_part_97 rfl 1 rfl ?_
            refine J.callV (Y := mX11_part) (Z := mX11_isGood) (pc := 98) (st := []) (k2 := 0) (n2 := 0) dX11_part_98 ml_RX11_158 mo_X11_isGood mv_X11_isGood rfl (tX11_isGood (d + 2) v0 μ85 hN86 k0) k0 (okN hN86 k0 (by decide)).1 (okN hN86 k0 (by decide)).2 cq_11 (by decide) rfl rfl (Nat.le_of_ble_eq_true rfl) (by decide) (by decide) (fun v ν hp => ?_) (fun i ν hp => nrm hp.1)
            obtain ⟨rfl, rfl, hN89, hb90⟩ := QEl hp
            show J _ _ _ _ 101 _ ([.int (fX11_isGood v0 μ85)]) _ _ _ _
            rcases ifc h with ⟨hc, h⟩ | ⟨hc, h⟩
            · refine J.zeq (pc := 101) (tgt := 108) dX11_part_101 (by decide) (fun _ => ?_) (fun q => absurd hc q)
              cases h
              exact J.vret (pc := 108) dX11_part_108 rfl ⟨rfl, rfl, hN89, trivial⟩
            · refine J.zeq (pc := 101) (tgt := 108) dX11_part_101 (by decide) (fun q => absurd q hc) (fun _ => ?_)
              refine J.aload_n (pc := 104) dX11_part_104 rfl 1 rfl ?_
              obtain ⟨μ92, e91, h⟩ := bnd h
              refine J.callV (Y := mX11_part) (Z := mX11_goes) (pc := 105) (st := []) (k2 := 0) (n2 := 0) dX11_part_105 ml_RX11_162 mo_X11_goes mv_X11_goes rfl (tX11_goes (d + 1) e91 hN89 k0) k0 (okN hN89 k0 (by decide)).1 (okN hN89 k0 (by decide)).2 cq_11 (by decide) rfl rfl (Nat.le_of_ble_eq_true rfl) (by decide) (by decide) (fun v ν hp => ?_) (fun i ν hp => nrm hp.1)
              obtain ⟨rfl, rfl, hN93, hb94⟩ := QEl hp
              show J _ _ _ _ 108 _ ([]) _ _ _ _
              cases h
              exact J.vret (pc := 108) dX11_part_108 rfl ⟨rfl, rfl, hN93, trivial⟩
      · refine J.cne (pc := 50) (tgt := 92) dX11_part_50 (by decide) (fun q => absurd q hc) (fun _ => ?_)
        refine J.aload_n (pc := 92) dX11_part_92 rfl 0 rfl ?_
        refine J.iconst (pc := 93) dX11_part_93 ic_1 ?_
        obtain ⟨μ96, e95, h⟩ := bnd h
        refine J.callV (Y := mX11_part) (Z := mX11_wrong) (pc := 94) (st := []) (k2 := 0) (n2 := 0) dX11_part_94 ml_RX11_165 mo_X11_wrong mv_X11_wrong rfl (tX11_wrong (d + 2) e95 hN2 k0) k0 (okN hN2 k0 (by decide)).1 (okN hN2 k0 (by decide)).2 cq_11 (by decide) rfl rfl (Nat.le_of_ble_eq_true rfl) (by decide) (by decide) (fun v ν hp => ?_) (fun i ν hp => nrm hp.1)
        obtain ⟨rfl, rfl, hN97, hb98⟩ := QEl hp
        show J _ _ _ _ 97 _ ([]) _ _ _ _
        refine J.aload_n (pc := 97) dX11_part_97 rfl 0 rfl ?_
        refine J.callV (Y := mX11_part) (Z := mX11_isGood) (pc := 98) (st := []) (k2 := 0) (n2 := 0) dX11_part_98 ml_RX11_158 mo_X11_isGood mv_X11_isGood rfl (tX11_isGood (d + 2) v0 μ96 hN97 k0) k0 (okN hN97 k0 (by decide)).1 (okN hN97 k0 (by decide)).2 cq_11 (by decide) rfl rfl (Nat.le_of_ble_eq_true rfl) (by decide) (by decide) (fun v ν hp => ?_) (fun i ν hp => nrm hp.1)
        obtain ⟨rfl, rfl, hN100, hb101⟩ := QEl hp
        show J _ _ _ _ 101 _ ([.int (fX11_isGood v0 μ96)]) _ _ _ _
        rcases ifc h with ⟨hc, h⟩ | ⟨hc, h⟩
        · refine J.zeq (pc := 101) (tgt := 108) dX11_part_101 (by decide) (fun _ => ?_) (fun q => absurd hc q)
          cases h
          exact J.vret (pc := 108) dX11_part_108 rfl ⟨rfl, rfl, hN100, trivial⟩
        · refine J.zeq (pc := 101) (tgt := 108) dX11_part_101 (by decide) (fun q => absurd q hc) (fun _ => ?_)
          refine J.aload_n (pc := 104) dX11_part_104 rfl 0 rfl ?_
          obtain ⟨μ103, e102, h⟩ := bnd h
          refine J.callV (Y := mX11_part) (Z := mX11_goes) (pc := 105) (st := []) (k2 := 0) (n2 := 0) dX11_part_105 ml_RX11_162 mo_X11_goes mv_X11_goes rfl (tX11_goes (d + 1) e102 hN100 k0) k0 (okN hN100 k0 (by decide)).1 (okN hN100 k0 (by decide)).2 cq_11 (by decide) rfl rfl (Nat.le_of_ble_eq_true rfl) (by decide) (by decide) (fun v ν hp => ?_) (fun i ν hp => nrm hp.1)
          obtain ⟨rfl, rfl, hN104, hb105⟩ := QEl hp
          show J _ _ _ _ 108 _ ([]) _ _ _ _
          cases h
          exact J.vret (pc := 108) dX11_part_108 rfl ⟨rfl, rfl, hN104, trivial⟩
def fX11_waitsFor (v0 : Nat) (v1 : Int32) (μ : Mem) : Option (Mem) :=
  (gR μ v0 32 0).bind fun a1 =>
  (stI μ a1 (μ.2.1 v0 27) v1).bind fun μ4 =>
  (some (sI μ4 v0 27 ((μ4.2.1 v0 27) + (1 : Int32)))).bind fun μ7 =>
  some μ7
set_option maxHeartbeats 4000000 in
theorem tX11_waitsFor {ω : Wd} {l : Launch} (d : Nat) {v0 : Nat} {v1 : Int32} {μ : Mem} {res : Mem} (h : fX11_waitsFor v0 v1 μ = some res) (hN : μ.1 = NN) (k0 : (kd v0).1 = 21) : Ct ω l mX11_waitsFor d [.ref v0, .int v1] μ 0 0 (PE (.inl none) res True) := by
  refine Ct.of pn_RX11 (Nat.le_of_ble_eq_true rfl) ?_
  show J ω l mX11_waitsFor d 0 [(0, .ref v0), (1, .int v1)] [] μ 0 0 _
  unfold fX11_waitsFor at h
  refine J.aload_n (pc := 0) dX11_waitsFor_0 rfl 0 rfl ?_
  obtain ⟨a1, e2, h⟩ := bnd h
  have k3 : (kd a1).1 = 0 := gR_k e2
  refine J.fR (pc := 1) dX11_waitsFor_1 fl_RX11_41 k0 (okN hN k0 (by decide)) rfl e2 ?_
  refine J.aload_n (pc := 4) dX11_waitsFor_4 rfl 0 rfl ?_
  refine J.fI (pc := 5) dX11_waitsFor_5 fl_RX11_171 k0 (okN hN k0 (by decide)) (Or.inl rfl) ?_
  refine J.iload_n (pc := 8) dX11_waitsFor_8 rfl 1 rfl ?_
  obtain ⟨μ4, e5, h⟩ := bnd h
  have hN6 : μ4.1 = NN := stI_N e5 hN
  refine J.wI (pc := 9) dX11_waitsFor_9 k3 (okN hN k3 (by decide)) e5 ?_
  refine J.aload_n (pc := 10) dX11_waitsFor_10 rfl 0 rfl ?_
  refine J.dup (pc := 11) dX11_waitsFor_11 rfl ?_
  refine J.fI (pc := 12) dX11_waitsFor_12 fl_RX11_171 k0 (okN hN6 k0 (by decide)) (Or.inl rfl) ?_
  refine J.iconst (pc := 15) dX11_waitsFor_15 ic_1 ?_
  refine J.iadd (pc := 16) dX11_waitsFor_16 ?_
  obtain ⟨μ7, e8, h⟩ := bnd h
  have hN9 : μ7.1 = NN := smN e8 hN6
  refine J.qI (pc := 17) dX11_waitsFor_17 fl_RX11_171 k0 (okN hN6 k0 (by decide)) rfl rfl e8 ?_
  cases h
  exact J.vret (pc := 20) dX11_waitsFor_20 rfl ⟨rfl, rfl, hN9, trivial⟩
def fX11_operand_18  (K4 : Nat → Int32 → Int32 → Mem → Option (Mem)) : Nat → Nat → Int32 → Int32 → Mem → Option (Mem)
  | 0, _, _, _, _ => none
  | n + 1, v0, v2, v4, μ =>
    if (fX11_isGood v0 μ) = 0 then
      if (fX11_isGood v0 μ) = 0 then
        if (0 : Int32) = 0 then
          K4 v0 v2 (0 : Int32) μ
        else
          (fX11_waitsFor v0 (14 : Int32) μ).bind fun μ8 =>
          (fX11_goes v0 μ8).bind fun μ12 =>
          (fX11_deeper v0 μ12).bind fun μ16 =>
          K4 v0 (1 : Int32) (0 : Int32) μ16
      else
        if (fX11_isSign v0 (40 : Int32) μ) = 0 then
          if (0 : Int32) = 0 then
            K4 v0 v2 (0 : Int32) μ
          else
            (fX11_waitsFor v0 (14 : Int32) μ).bind fun μ23 =>
            (fX11_goes v0 μ23).bind fun μ27 =>
            (fX11_deeper v0 μ27).bind fun μ31 =>
            K4 v0 (1 : Int32) (0 : Int32) μ31
        else
          if (1 : Int32) = 0 then
            K4 v0 v2 (1 : Int32) μ
          else
            (fX11_waitsFor v0 (14 : Int32) μ).bind fun μ35 =>
            (fX11_goes v0 μ35).bind fun μ39 =>
            (fX11_deeper v0 μ39).bind fun μ43 =>
            K4 v0 (1 : Int32) (1 : Int32) μ43
    else
      if v2 = 0 then
        if (fX11_isGood v0 μ) = 0 then
          if (0 : Int32) = 0 then
            K4 v0 v2 (0 : Int32) μ
          else
            (fX11_waitsFor v0 (14 : Int32) μ).bind fun μ50 =>
            (fX11_goes v0 μ50).bind fun μ54 =>
            (fX11_deeper v0 μ54).bind fun μ58 =>
            K4 v0 (1 : Int32) (0 : Int32) μ58
        else
          if (fX11_isSign v0 (40 : Int32) μ) = 0 then
            if (0 : Int32) = 0 then
              K4 v0 v2 (0 : Int32) μ
            else
              (fX11_waitsFor v0 (14 : Int32) μ).bind fun μ65 =>
              (fX11_goes v0 μ65).bind fun μ69 =>
              (fX11_deeper v0 μ69).bind fun μ73 =>
              K4 v0 (1 : Int32) (0 : Int32) μ73
          else
            if (1 : Int32) = 0 then
              K4 v0 v2 (1 : Int32) μ
            else
              (fX11_waitsFor v0 (14 : Int32) μ).bind fun μ77 =>
              (fX11_goes v0 μ77).bind fun μ81 =>
              (fX11_deeper v0 μ81).bind fun μ85 =>
              K4 v0 (1 : Int32) (1 : Int32) μ85
      else
        (fX11_knownWord v0 μ).bind fun r89 =>
        if r89 = (16 : Int32) then
          if v4 = (6 : Int32) then
            (fX11_wrong v0 (2 : Int32) μ).bind fun μ93 =>
            if (fX11_isGood v0 μ93) = 0 then
              (fX11_operand_18 K4 n) v0 v2 (v4 + (1 : Int32)) μ93
            else
              (fX11_waitsFor v0 (3 : Int32) μ93).bind fun μ100 =>
              (fX11_goes v0 μ100).bind fun μ104 =>
              (fX11_operand_18 K4 n) v0 v2 (v4 + (1 : Int32)) μ104
          else
            if (fX11_isGood v0 μ) = 0 then
              (fX11_operand_18 K4 n) v0 v2 (v4 + (1 : Int32)) μ
            else
              (fX11_waitsFor v0 (3 : Int32) μ).bind fun μ111 =>
              (fX11_goes v0 μ111).bind fun μ115 =>
              (fX11_operand_18 K4 n) v0 v2 (v4 + (1 : Int32)) μ115
        else
          if (fX11_isGood v0 μ) = 0 then
            if (0 : Int32) = 0 then
              K4 v0 v2 (0 : Int32) μ
            else
              (fX11_waitsFor v0 (14 : Int32) μ).bind fun μ122 =>
              (fX11_goes v0 μ122).bind fun μ126 =>
              (fX11_deeper v0 μ126).bind fun μ130 =>
              K4 v0 (1 : Int32) (0 : Int32) μ130
          else
            if (fX11_isSign v0 (40 : Int32) μ) = 0 then
              if (0 : Int32) = 0 then
                K4 v0 v2 (0 : Int32) μ
              else
                (fX11_waitsFor v0 (14 : Int32) μ).bind fun μ137 =>
                (fX11_goes v0 μ137).bind fun μ141 =>
                (fX11_deeper v0 μ141).bind fun μ145 =>
                K4 v0 (1 : Int32) (0 : Int32) μ145
            else
              if (1 : Int32) = 0 then
                K4 v0 v2 (1 : Int32) μ
              else
                (fX11_waitsFor v0 (14 : Int32) μ).bind fun μ149 =>
                (fX11_goes v0 μ149).bind fun μ153 =>
                (fX11_deeper v0 μ153).bind fun μ157 =>
                K4 v0 (1 : Int32) (1 : Int32) μ157
set_option maxHeartbeats 4000000 in
theorem tX11_operand_18 {ω : Wd} {l : Launch} (d : Nat) {res : Mem} (K4 : Nat → Int32 → Int32 → Mem → Option (Mem)) (hK4 : ∀ (v0 : Nat) (v2 : Int32) (v3 : Int32) (μ : Mem), K4 v0 v2 v3 μ = some res → μ.1 = NN → (kd v0).1 = 21 → J ω l mX11_operand (d + 4) 4 [(0, .ref v0), (2, .int v2), (3, .int v3)] [] μ 0 0 (PE (.inl none) res True)) : ∀ n : Nat, ∀ (v0 : Nat) (v2 : Int32) (v4 : Int32) (μ : Mem), fX11_operand_18 K4 n v0 v2 v4 μ = some res → μ.1 = NN → (kd v0).1 = 21 → J ω l mX11_operand (d + 4) 18 [(0, .ref v0), (2, .int v2), (4, .int v4)] [] μ 0 0 (PE (.inl none) res True) := by
  intro n
  induction n with
  | zero =>
    intro v0 v2 v4 μ h hN k0
    have h9 : (none : Option (Mem)) = some res := h
    cases h9
  | succ n ih =>
    intro v0 v2 v4 μ h hN k0
    unfold fX11_operand_18 at h
    refine J.aload_n (pc := 18) dX11_operand_18 rfl 0 rfl ?_
    refine J.callV (Y := mX11_operand) (Z := mX11_isGood) (pc := 19) (st := []) (k2 := 0) (n2 := 0) dX11_operand_19 ml_RX11_158 mo_X11_isGood mv_X11_isGood rfl (tX11_isGood (d + 3) v0 μ hN k0) k0 (okN hN k0 (by decide)).1 (okN hN k0 (by decide)).2 cq_11 (by decide) rfl rfl (Nat.le_of_ble_eq_true rfl) (by decide) (by decide) (fun v ν hp => ?_) (fun i ν hp => nrm hp.1)
    obtain ⟨rfl, rfl, hN2, hb3⟩ := QEl hp
    show J _ _ _ _ 22 _ ([.int (fX11_isGood v0 μ)]) _ _ _ _
    rcases ifc h with ⟨hc, h⟩ | ⟨hc, h⟩
    · refine J.zeq (pc := 22) (tgt := 75) dX11_operand_22 (by decide) (fun _ => ?_) (fun q => absurd hc q)
      refine J.aload_n (pc := 75) dX11_operand_75 rfl 0 rfl ?_
      refine J.callV (Y := mX11_operand) (Z := mX11_isGood) (pc := 76) (st := []) (k2 := 0) (n2 := 0) dX11_operand_76 ml_RX11_158 mo_X11_isGood mv_X11_isGood rfl (tX11_isGood (d + 3) v0 μ hN2 k0) k0 (okN hN2 k0 (by decide)).1 (okN hN2 k0 (by decide)).2 cq_11 (by decide) rfl rfl (Nat.le_of_ble_eq_true rfl) (by decide) (by decide) (fun v ν hp => ?_) (fun i ν hp => nrm hp.1)
      obtain ⟨rfl, rfl, hN5, hb6⟩ := QEl hp
      show J _ _ _ _ 79 _ ([.int (fX11_isGood v0 μ)]) _ _ _ _
      rcases ifc h with ⟨hc, h⟩ | ⟨hc, h⟩
      · refine J.zeq (pc := 79) (tgt := 95) dX11_operand_79 (by decide) (fun _ => ?_) (fun q => absurd hc q)
        refine J.iconst (pc := 95) dX11_operand_95 ic_0 ?_
        refine J.istore_n (pc := 96) ([(3, .int (0 : Int32)), (0, .ref v0), (2, .int v2), (4, .int v4)]) dX11_operand_96 rfl (Nat.le_of_ble_eq_true rfl) rfl ?_
        refine J.iload_n (pc := 97) dX11_operand_97 rfl 0 rfl ?_
        rcases ifc h with ⟨hc, h⟩ | ⟨hc, h⟩
        · refine J.zeq (pc := 98) (tgt := 117) dX11_operand_98 (by decide) (fun _ => ?_) (fun q => absurd hc q)
          refine J.goto (pc := 117) (tgt := 4) dX11_operand_117 (by decide) ?_
          refine J.pick [1, 2, 0] rfl ?_
          exact hK4 v0 v2 (0 : Int32) μ h hN5 k0
        · refine J.zeq (pc := 98) (tgt := 117) dX11_operand_98 (by decide) (fun q => absurd q hc) (fun _ => ?_)
          refine J.aload_n (pc := 101) dX11_operand_101 rfl 1 rfl ?_
          refine J.bipush (pc := 102) dX11_operand_102 ib_14 ?_
          obtain ⟨μ8, e7, h⟩ := bnd h
          refine J.callV (Y := mX11_operand) (Z := mX11_waitsFor) (pc := 104) (st := []) (k2 := 0) (n2 := 0) dX11_operand_104 ml_RX11_199 mo_X11_waitsFor mv_X11_waitsFor rfl (tX11_waitsFor (d + 3) e7 hN5 k0) k0 (okN hN5 k0 (by decide)).1 (okN hN5 k0 (by decide)).2 cq_11 (by decide) rfl rfl (Nat.le_of_ble_eq_true rfl) (by decide) (by decide) (fun v ν hp => ?_) (fun i ν hp => nrm hp.1)
          obtain ⟨rfl, rfl, hN9, hb10⟩ := QEl hp
          show J _ _ _ _ 107 _ ([]) _ _ _ _
          refine J.aload_n (pc := 107) dX11_operand_107 rfl 1 rfl ?_
          obtain ⟨μ12, e11, h⟩ := bnd h
          refine J.callV (Y := mX11_operand) (Z := mX11_goes) (pc := 108) (st := []) (k2 := 0) (n2 := 0) dX11_operand_108 ml_RX11_162 mo_X11_goes mv_X11_goes rfl (tX11_goes (d + 2) e11 hN9 k0) k0 (okN hN9 k0 (by decide)).1 (okN hN9 k0 (by decide)).2 cq_11 (by decide) rfl rfl (Nat.le_of_ble_eq_true rfl) (by decide) (by decide) (fun v ν hp => ?_) (fun i ν hp => nrm hp.1)
          obtain ⟨rfl, rfl, hN13, hb14⟩ := QEl hp
          show J _ _ _ _ 111 _ ([]) _ _ _ _
          refine J.aload_n (pc := 111) dX11_operand_111 rfl 1 rfl ?_
          obtain ⟨μ16, e15, h⟩ := bnd h
          refine J.callV (Y := mX11_operand) (Z := mX11_deeper) (pc := 112) (st := []) (k2 := 0) (n2 := 0) dX11_operand_112 ml_RX11_202 mo_X11_deeper mv_X11_deeper rfl (tX11_deeper (d + 2) e15 hN13 k0) k0 (okN hN13 k0 (by decide)).1 (okN hN13 k0 (by decide)).2 cq_11 (by decide) rfl rfl (Nat.le_of_ble_eq_true rfl) (by decide) (by decide) (fun v ν hp => ?_) (fun i ν hp => nrm hp.1)
          obtain ⟨rfl, rfl, hN17, hb18⟩ := QEl hp
          show J _ _ _ _ 115 _ ([]) _ _ _ _
          refine J.iconst (pc := 115) dX11_operand_115 ic_1 ?_
          refine J.istore_n (pc := 116) ([(2, .int (1 : Int32)), (3, .int (0 : Int32)), (0, .ref v0), (4, .int v4)]) dX11_operand_116 rfl (Nat.le_of_ble_eq_true rfl) rfl ?_
          refine J.goto (pc := 117) (tgt := 4) dX11_operand_117 (by decide) ?_
          refine J.pick [2, 0, 1] rfl ?_
          exact hK4 v0 (1 : Int32) (0 : Int32) μ16 h hN17 k0
      · refine J.zeq (pc := 79) (tgt := 95) dX11_operand_79 (by decide) (fun q => absurd q hc) (fun _ => ?_)
        refine J.aload_n (pc := 82) dX11_operand_82 rfl 0 rfl ?_
        refine J.bipush (pc := 83) dX11_operand_83 ib_40 ?_
        refine J.callV (Y := mX11_operand) (Z := mX11_isSign) (pc := 85) (st := []) (k2 := 0) (n2 := 0) dX11_operand_85 ml_RX11_196 mo_X11_isSign mv_X11_isSign rfl (tX11_isSign (d + 3) v0 (40 : Int32) μ hN5 k0) k0 (okN hN5 k0 (by decide)).1 (okN hN5 k0 (by decide)).2 cq_11 (by decide) rfl rfl (Nat.le_of_ble_eq_true rfl) (by decide) (by decide) (fun v ν hp => ?_) (fun i ν hp => nrm hp.1)
        obtain ⟨rfl, rfl, hN20, hb21⟩ := QEl hp
        show J _ _ _ _ 88 _ ([.int (fX11_isSign v0 (40 : Int32) μ)]) _ _ _ _
        rcases ifc h with ⟨hc, h⟩ | ⟨hc, h⟩
        · refine J.zeq (pc := 88) (tgt := 95) dX11_operand_88 (by decide) (fun _ => ?_) (fun q => absurd hc q)
          refine J.iconst (pc := 95) dX11_operand_95 ic_0 ?_
          refine J.istore_n (pc := 96) ([(3, .int (0 : Int32)), (0, .ref v0), (2, .int v2), (4, .int v4)]) dX11_operand_96 rfl (Nat.le_of_ble_eq_true rfl) rfl ?_
          refine J.iload_n (pc := 97) dX11_operand_97 rfl 0 rfl ?_
          rcases ifc h with ⟨hc, h⟩ | ⟨hc, h⟩
          · refine J.zeq (pc := 98) (tgt := 117) dX11_operand_98 (by decide) (fun _ => ?_) (fun q => absurd hc q)
            refine J.goto (pc := 117) (tgt := 4) dX11_operand_117 (by decide) ?_
            refine J.pick [1, 2, 0] rfl ?_
            exact hK4 v0 v2 (0 : Int32) μ h hN20 k0
          · refine J.zeq (pc := 98) (tgt := 117) dX11_operand_98 (by decide) (fun q => absurd q hc) (fun _ => ?_)
            refine J.aload_n (pc := 101) dX11_operand_101 rfl 1 rfl ?_
            refine J.bipush (pc := 102) dX11_operand_102 ib_14 ?_
            obtain ⟨μ23, e22, h⟩ := bnd h
            refine J.callV (Y := mX11_operand) (Z := mX11_waitsFor) (pc := 104) (st := []) (k2 := 0) (n2 := 0) dX11_operand_104 ml_RX11_199 mo_X11_waitsFor mv_X11_waitsFor rfl (tX11_waitsFor (d + 3) e22 hN20 k0) k0 (okN hN20 k0 (by decide)).1 (okN hN20 k0 (by decide)).2 cq_11 (by decide) rfl rfl (Nat.le_of_ble_eq_true rfl) (by decide) (by decide) (fun v ν hp => ?_) (fun i ν hp => nrm hp.1)
            obtain ⟨rfl, rfl, hN24, hb25⟩ := QEl hp
            show J _ _ _ _ 107 _ ([]) _ _ _ _
            refine J.aload_n (pc := 107) dX11_operand_107 rfl 1 rfl ?_
            obtain ⟨μ27, e26, h⟩ := bnd h
            refine J.callV (Y := mX11_operand) (Z := mX11_goes) (pc := 108) (st := []) (k2 := 0) (n2 := 0) dX11_operand_108 ml_RX11_162 mo_X11_goes mv_X11_goes rfl (tX11_goes (d + 2) e26 hN24 k0) k0 (okN hN24 k0 (by decide)).1 (okN hN24 k0 (by decide)).2 cq_11 (by decide) rfl rfl (Nat.le_of_ble_eq_true rfl) (by decide) (by decide) (fun v ν hp => ?_) (fun i ν hp => nrm hp.1)
            obtain ⟨rfl, rfl, hN28, hb29⟩ := QEl hp
            show J _ _ _ _ 111 _ ([]) _ _ _ _
            refine J.aload_n (pc := 111) dX11_operand_111 rfl 1 rfl ?_
            obtain ⟨μ31, e30, h⟩ := bnd h
            refine J.callV (Y := mX11_operand) (Z := mX11_deeper) (pc := 112) (st := []) (k2 := 0) (n2 := 0) dX11_operand_112 ml_RX11_202 mo_X11_deeper mv_X11_deeper rfl (tX11_deeper (d + 2) e30 hN28 k0) k0 (okN hN28 k0 (by decide)).1 (okN hN28 k0 (by decide)).2 cq_11 (by decide) rfl rfl (Nat.le_of_ble_eq_true rfl) (by decide) (by decide) (fun v ν hp => ?_) (fun i ν hp => nrm hp.1)
            obtain ⟨rfl, rfl, hN32, hb33⟩ := QEl hp
            show J _ _ _ _ 115 _ ([]) _ _ _ _
            refine J.iconst (pc := 115) dX11_operand_115 ic_1 ?_
            refine J.istore_n (pc := 116) ([(2, .int (1 : Int32)), (3, .int (0 : Int32)), (0, .ref v0), (4, .int v4)]) dX11_operand_116 rfl (Nat.le_of_ble_eq_true rfl) rfl ?_
            refine J.goto (pc := 117) (tgt := 4) dX11_operand_117 (by decide) ?_
            refine J.pick [2, 0, 1] rfl ?_
            exact hK4 v0 (1 : Int32) (0 : Int32) μ31 h hN32 k0
        · refine J.zeq (pc := 88) (tgt := 95) dX11_operand_88 (by decide) (fun q => absurd q hc) (fun _ => ?_)
          refine J.iconst (pc := 91) dX11_operand_91 ic_1 ?_
          refine J.goto (pc := 92) (tgt := 96) dX11_operand_92 (by decide) ?_
          refine J.istore_n (pc := 96) ([(3, .int (1 : Int32)), (0, .ref v0), (2, .int v2), (4, .int v4)]) dX11_operand_96 rfl (Nat.le_of_ble_eq_true rfl) rfl ?_
          refine J.iload_n (pc := 97) dX11_operand_97 rfl 0 rfl ?_
          rcases ifc h with ⟨hc, h⟩ | ⟨hc, h⟩
          · refine J.zeq (pc := 98) (tgt := 117) dX11_operand_98 (by decide) (fun _ => ?_) (fun q => absurd hc q)
            refine J.goto (pc := 117) (tgt := 4) dX11_operand_117 (by decide) ?_
            refine J.pick [1, 2, 0] rfl ?_
            exact hK4 v0 v2 (1 : Int32) μ h hN20 k0
          · refine J.zeq (pc := 98) (tgt := 117) dX11_operand_98 (by decide) (fun q => absurd q hc) (fun _ => ?_)
            refine J.aload_n (pc := 101) dX11_operand_101 rfl 1 rfl ?_
            refine J.bipush (pc := 102) dX11_operand_102 ib_14 ?_
            obtain ⟨μ35, e34, h⟩ := bnd h
            refine J.callV (Y := mX11_operand) (Z := mX11_waitsFor) (pc := 104) (st := []) (k2 := 0) (n2 := 0) dX11_operand_104 ml_RX11_199 mo_X11_waitsFor mv_X11_waitsFor rfl (tX11_waitsFor (d + 3) e34 hN20 k0) k0 (okN hN20 k0 (by decide)).1 (okN hN20 k0 (by decide)).2 cq_11 (by decide) rfl rfl (Nat.le_of_ble_eq_true rfl) (by decide) (by decide) (fun v ν hp => ?_) (fun i ν hp => nrm hp.1)
            obtain ⟨rfl, rfl, hN36, hb37⟩ := QEl hp
            show J _ _ _ _ 107 _ ([]) _ _ _ _
            refine J.aload_n (pc := 107) dX11_operand_107 rfl 1 rfl ?_
            obtain ⟨μ39, e38, h⟩ := bnd h
            refine J.callV (Y := mX11_operand) (Z := mX11_goes) (pc := 108) (st := []) (k2 := 0) (n2 := 0) dX11_operand_108 ml_RX11_162 mo_X11_goes mv_X11_goes rfl (tX11_goes (d + 2) e38 hN36 k0) k0 (okN hN36 k0 (by decide)).1 (okN hN36 k0 (by decide)).2 cq_11 (by decide) rfl rfl (Nat.le_of_ble_eq_true rfl) (by decide) (by decide) (fun v ν hp => ?_) (fun i ν hp => nrm hp.1)
            obtain ⟨rfl, rfl, hN40, hb41⟩ := QEl hp
            show J _ _ _ _ 111 _ ([]) _ _ _ _
            refine J.aload_n (pc := 111) dX11_operand_111 rfl 1 rfl ?_
            obtain ⟨μ43, e42, h⟩ := bnd h
            refine J.callV (Y := mX11_operand) (Z := mX11_deeper) (pc := 112) (st := []) (k2 := 0) (n2 := 0) dX11_operand_112 ml_RX11_202 mo_X11_deeper mv_X11_deeper rfl (tX11_deeper (d + 2) e42 hN40 k0) k0 (okN hN40 k0 (by decide)).1 (okN hN40 k0 (by decide)).2 cq_11 (by decide) rfl rfl (Nat.le_of_ble_eq_true rfl) (by decide) (by decide) (fun v ν hp => ?_) (fun i ν hp => nrm hp.1)
            obtain ⟨rfl, rfl, hN44, hb45⟩ := QEl hp
            show J _ _ _ _ 115 _ ([]) _ _ _ _
            refine J.iconst (pc := 115) dX11_operand_115 ic_1 ?_
            refine J.istore_n (pc := 116) ([(2, .int (1 : Int32)), (3, .int (1 : Int32)), (0, .ref v0), (4, .int v4)]) dX11_operand_116 rfl (Nat.le_of_ble_eq_true rfl) rfl ?_
            refine J.goto (pc := 117) (tgt := 4) dX11_operand_117 (by decide) ?_
            refine J.pick [2, 0, 1] rfl ?_
            exact hK4 v0 (1 : Int32) (1 : Int32) μ43 h hN44 k0
    · refine J.zeq (pc := 22) (tgt := 75) dX11_operand_22 (by decide) (fun q => absurd q hc) (fun _ => ?_)
      refine J.iload_n (pc := 25) dX11_operand_25 rfl 1 rfl ?_
      rcases ifc h with ⟨hc, h⟩ | ⟨hc, h⟩
      · refine J.zeq (pc := 26) (tgt := 75) dX11_operand_26 (by decide) (fun _ => ?_) (fun q => absurd hc q)
        refine J.aload_n (pc := 75) dX11_operand_75 rfl 0 rfl ?_
        refine J.callV (Y := mX11_operand) (Z := mX11_isGood) (pc := 76) (st := []) (k2 := 0) (n2 := 0) dX11_operand_76 ml_RX11_158 mo_X11_isGood mv_X11_isGood rfl (tX11_isGood (d + 3) v0 μ hN2 k0) k0 (okN hN2 k0 (by decide)).1 (okN hN2 k0 (by decide)).2 cq_11 (by decide) rfl rfl (Nat.le_of_ble_eq_true rfl) (by decide) (by decide) (fun v ν hp => ?_) (fun i ν hp => nrm hp.1)
        obtain ⟨rfl, rfl, hN47, hb48⟩ := QEl hp
        show J _ _ _ _ 79 _ ([.int (fX11_isGood v0 μ)]) _ _ _ _
        rcases ifc h with ⟨hc, h⟩ | ⟨hc, h⟩
        · refine J.zeq (pc := 79) (tgt := 95) dX11_operand_79 (by decide) (fun _ => ?_) (fun q => absurd hc q)
          refine J.iconst (pc := 95) dX11_operand_95 ic_0 ?_
          refine J.istore_n (pc := 96) ([(3, .int (0 : Int32)), (0, .ref v0), (2, .int v2), (4, .int v4)]) dX11_operand_96 rfl (Nat.le_of_ble_eq_true rfl) rfl ?_
          refine J.iload_n (pc := 97) dX11_operand_97 rfl 0 rfl ?_
          rcases ifc h with ⟨hc, h⟩ | ⟨hc, h⟩
          · refine J.zeq (pc := 98) (tgt := 117) dX11_operand_98 (by decide) (fun _ => ?_) (fun q => absurd hc q)
            refine J.goto (pc := 117) (tgt := 4) dX11_operand_117 (by decide) ?_
            refine J.pick [1, 2, 0] rfl ?_
            exact hK4 v0 v2 (0 : Int32) μ h hN47 k0
          · refine J.zeq (pc := 98) (tgt := 117) dX11_operand_98 (by decide) (fun q => absurd q hc) (fun _ => ?_)
            refine J.aload_n (pc := 101) dX11_operand_101 rfl 1 rfl ?_
            refine J.bipush (pc := 102) dX11_operand_102 ib_14 ?_
            obtain ⟨μ50, e49, h⟩ := bnd h
            refine J.callV (Y := mX11_operand) (Z := mX11_waitsFor) (pc := 104) (st := []) (k2 := 0) (n2 := 0) dX11_operand_104 ml_RX11_199 mo_X11_waitsFor mv_X11_waitsFor rfl (tX11_waitsFor (d + 3) e49 hN47 k0) k0 (okN hN47 k0 (by decide)).1 (okN hN47 k0 (by decide)).2 cq_11 (by decide) rfl rfl (Nat.le_of_ble_eq_true rfl) (by decide) (by decide) (fun v ν hp => ?_) (fun i ν hp => nrm hp.1)
            obtain ⟨rfl, rfl, hN51, hb52⟩ := QEl hp
            show J _ _ _ _ 107 _ ([]) _ _ _ _
            refine J.aload_n (pc := 107) dX11_operand_107 rfl 1 rfl ?_
            obtain ⟨μ54, e53, h⟩ := bnd h
            refine J.callV (Y := mX11_operand) (Z := mX11_goes) (pc := 108) (st := []) (k2 := 0) (n2 := 0) dX11_operand_108 ml_RX11_162 mo_X11_goes mv_X11_goes rfl (tX11_goes (d + 2) e53 hN51 k0) k0 (okN hN51 k0 (by decide)).1 (okN hN51 k0 (by decide)).2 cq_11 (by decide) rfl rfl (Nat.le_of_ble_eq_true rfl) (by decide) (by decide) (fun v ν hp => ?_) (fun i ν hp => nrm hp.1)
            obtain ⟨rfl, rfl, hN55, hb56⟩ := QEl hp
            show J _ _ _ _ 111 _ ([]) _ _ _ _
            refine J.aload_n (pc := 111) dX11_operand_111 rfl 1 rfl ?_
            obtain ⟨μ58, e57, h⟩ := bnd h
            refine J.callV (Y := mX11_operand) (Z := mX11_deeper) (pc := 112) (st := []) (k2 := 0) (n2 := 0) dX11_operand_112 ml_RX11_202 mo_X11_deeper mv_X11_deeper rfl (tX11_deeper (d + 2) e57 hN55 k0) k0 (okN hN55 k0 (by decide)).1 (okN hN55 k0 (by decide)).2 cq_11 (by decide) rfl rfl (Nat.le_of_ble_eq_true rfl) (by decide) (by decide) (fun v ν hp => ?_) (fun i ν hp => nrm hp.1)
            obtain ⟨rfl, rfl, hN59, hb60⟩ := QEl hp
            show J _ _ _ _ 115 _ ([]) _ _ _ _
            refine J.iconst (pc := 115) dX11_operand_115 ic_1 ?_
            refine J.istore_n (pc := 116) ([(2, .int (1 : Int32)), (3, .int (0 : Int32)), (0, .ref v0), (4, .int v4)]) dX11_operand_116 rfl (Nat.le_of_ble_eq_true rfl) rfl ?_
            refine J.goto (pc := 117) (tgt := 4) dX11_operand_117 (by decide) ?_
            refine J.pick [2, 0, 1] rfl ?_
            exact hK4 v0 (1 : Int32) (0 : Int32) μ58 h hN59 k0
        · refine J.zeq (pc := 79) (tgt := 95) dX11_operand_79 (by decide) (fun q => absurd q hc) (fun _ => ?_)
          refine J.aload_n (pc := 82) dX11_operand_82 rfl 0 rfl ?_
          refine J.bipush (pc := 83) dX11_operand_83 ib_40 ?_
          refine J.callV (Y := mX11_operand) (Z := mX11_isSign) (pc := 85) (st := []) (k2 := 0) (n2 := 0) dX11_operand_85 ml_RX11_196 mo_X11_isSign mv_X11_isSign rfl (tX11_isSign (d + 3) v0 (40 : Int32) μ hN47 k0) k0 (okN hN47 k0 (by decide)).1 (okN hN47 k0 (by decide)).2 cq_11 (by decide) rfl rfl (Nat.le_of_ble_eq_true rfl) (by decide) (by decide) (fun v ν hp => ?_) (fun i ν hp => nrm hp.1)
          obtain ⟨rfl, rfl, hN62, hb63⟩ := QEl hp
          show J _ _ _ _ 88 _ ([.int (fX11_isSign v0 (40 : Int32) μ)]) _ _ _ _
          rcases ifc h with ⟨hc, h⟩ | ⟨hc, h⟩
          · refine J.zeq (pc := 88) (tgt := 95) dX11_operand_88 (by decide) (fun _ => ?_) (fun q => absurd hc q)
            refine J.iconst (pc := 95) dX11_operand_95 ic_0 ?_
            refine J.istore_n (pc := 96) ([(3, .int (0 : Int32)), (0, .ref v0), (2, .int v2), (4, .int v4)]) dX11_operand_96 rfl (Nat.le_of_ble_eq_true rfl) rfl ?_
            refine J.iload_n (pc := 97) dX11_operand_97 rfl 0 rfl ?_
            rcases ifc h with ⟨hc, h⟩ | ⟨hc, h⟩
            · refine J.zeq (pc := 98) (tgt := 117) dX11_operand_98 (by decide) (fun _ => ?_) (fun q => absurd hc q)
              refine J.goto (pc := 117) (tgt := 4) dX11_operand_117 (by decide) ?_
              refine J.pick [1, 2, 0] rfl ?_
              exact hK4 v0 v2 (0 : Int32) μ h hN62 k0
            · refine J.zeq (pc := 98) (tgt := 117) dX11_operand_98 (by decide) (fun q => absurd q hc) (fun _ => ?_)
              refine J.aload_n (pc := 101) dX11_operand_101 rfl 1 rfl ?_
              refine J.bipush (pc := 102) dX11_operand_102 ib_14 ?_
              obtain ⟨μ65, e64, h⟩ := bnd h
              refine J.callV (Y := mX11_operand) (Z := mX11_waitsFor) (pc := 104) (st := []) (k2 := 0) (n2 := 0) dX11_operand_104 ml_RX11_199 mo_X11_waitsFor mv_X11_waitsFor rfl (tX11_waitsFor (d + 3) e64 hN62 k0) k0 (okN hN62 k0 (by decide)).1 (okN hN62 k0 (by decide)).2 cq_11 (by decide) rfl rfl (Nat.le_of_ble_eq_true rfl) (by decide) (by decide) (fun v ν hp => ?_) (fun i ν hp => nrm hp.1)
              obtain ⟨rfl, rfl, hN66, hb67⟩ := QEl hp
              show J _ _ _ _ 107 _ ([]) _ _ _ _
              refine J.aload_n (pc := 107) dX11_operand_107 rfl 1 rfl ?_
              obtain ⟨μ69, e68, h⟩ := bnd h
              refine J.callV (Y := mX11_operand) (Z := mX11_goes) (pc := 108) (st := []) (k2 := 0) (n2 := 0) dX11_operand_108 ml_RX11_162 mo_X11_goes mv_X11_goes rfl (tX11_goes (d + 2) e68 hN66 k0) k0 (okN hN66 k0 (by decide)).1 (okN hN66 k0 (by decide)).2 cq_11 (by decide) rfl rfl (Nat.le_of_ble_eq_true rfl) (by decide) (by decide) (fun v ν hp => ?_) (fun i ν hp => nrm hp.1)
              obtain ⟨rfl, rfl, hN70, hb71⟩ := QEl hp
              show J _ _ _ _ 111 _ ([]) _ _ _ _
              refine J.aload_n (pc := 111) dX11_operand_111 rfl 1 rfl ?_
              obtain ⟨μ73, e72, h⟩ := bnd h
              refine J.callV (Y := mX11_operand) (Z := mX11_deeper) (pc := 112) (st := []) (k2 := 0) (n2 := 0) dX11_operand_112 ml_RX11_202 mo_X11_deeper mv_X11_deeper rfl (tX11_deeper (d + 2) e72 hN70 k0) k0 (okN hN70 k0 (by decide)).1 (okN hN70 k0 (by decide)).2 cq_11 (by decide) rfl rfl (Nat.le_of_ble_eq_true rfl) (by decide) (by decide) (fun v ν hp => ?_) (fun i ν hp => nrm hp.1)
              obtain ⟨rfl, rfl, hN74, hb75⟩ := QEl hp
              show J _ _ _ _ 115 _ ([]) _ _ _ _
              refine J.iconst (pc := 115) dX11_operand_115 ic_1 ?_
              refine J.istore_n (pc := 116) ([(2, .int (1 : Int32)), (3, .int (0 : Int32)), (0, .ref v0), (4, .int v4)]) dX11_operand_116 rfl (Nat.le_of_ble_eq_true rfl) rfl ?_
              refine J.goto (pc := 117) (tgt := 4) dX11_operand_117 (by decide) ?_
              refine J.pick [2, 0, 1] rfl ?_
              exact hK4 v0 (1 : Int32) (0 : Int32) μ73 h hN74 k0
          · refine J.zeq (pc := 88) (tgt := 95) dX11_operand_88 (by decide) (fun q => absurd q hc) (fun _ => ?_)
            refine J.iconst (pc := 91) dX11_operand_91 ic_1 ?_
            refine J.goto (pc := 92) (tgt := 96) dX11_operand_92 (by decide) ?_
            refine J.istore_n (pc := 96) ([(3, .int (1 : Int32)), (0, .ref v0), (2, .int v2), (4, .int v4)]) dX11_operand_96 rfl (Nat.le_of_ble_eq_true rfl) rfl ?_
            refine J.iload_n (pc := 97) dX11_operand_97 rfl 0 rfl ?_
            rcases ifc h with ⟨hc, h⟩ | ⟨hc, h⟩
            · refine J.zeq (pc := 98) (tgt := 117) dX11_operand_98 (by decide) (fun _ => ?_) (fun q => absurd hc q)
              refine J.goto (pc := 117) (tgt := 4) dX11_operand_117 (by decide) ?_
              refine J.pick [1, 2, 0] rfl ?_
              exact hK4 v0 v2 (1 : Int32) μ h hN62 k0
            · refine J.zeq (pc := 98) (tgt := 117) dX11_operand_98 (by decide) (fun q => absurd q hc) (fun _ => ?_)
              refine J.aload_n (pc := 101) dX11_operand_101 rfl 1 rfl ?_
              refine J.bipush (pc := 102) dX11_operand_102 ib_14 ?_
              obtain ⟨μ77, e76, h⟩ := bnd h
              refine J.callV (Y := mX11_operand) (Z := mX11_waitsFor) (pc := 104) (st := []) (k2 := 0) (n2 := 0) dX11_operand_104 ml_RX11_199 mo_X11_waitsFor mv_X11_waitsFor rfl (tX11_waitsFor (d + 3) e76 hN62 k0) k0 (okN hN62 k0 (by decide)).1 (okN hN62 k0 (by decide)).2 cq_11 (by decide) rfl rfl (Nat.le_of_ble_eq_true rfl) (by decide) (by decide) (fun v ν hp => ?_) (fun i ν hp => nrm hp.1)
              obtain ⟨rfl, rfl, hN78, hb79⟩ := QEl hp
              show J _ _ _ _ 107 _ ([]) _ _ _ _
              refine J.aload_n (pc := 107) dX11_operand_107 rfl 1 rfl ?_
              obtain ⟨μ81, e80, h⟩ := bnd h
              refine J.callV (Y := mX11_operand) (Z := mX11_goes) (pc := 108) (st := []) (k2 := 0) (n2 := 0) dX11_operand_108 ml_RX11_162 mo_X11_goes mv_X11_goes rfl (tX11_goes (d + 2) e80 hN78 k0) k0 (okN hN78 k0 (by decide)).1 (okN hN78 k0 (by decide)).2 cq_11 (by decide) rfl rfl (Nat.le_of_ble_eq_true rfl) (by decide) (by decide) (fun v ν hp => ?_) (fun i ν hp => nrm hp.1)
              obtain ⟨rfl, rfl, hN82, hb83⟩ := QEl hp
              show J _ _ _ _ 111 _ ([]) _ _ _ _
              refine J.aload_n (pc := 111) dX11_operand_111 rfl 1 rfl ?_
              obtain ⟨μ85, e84, h⟩ := bnd h
              refine J.callV (Y := mX11_operand) (Z := mX11_deeper) (pc := 112) (st := []) (k2 := 0) (n2 := 0) dX11_operand_112 ml_RX11_202 mo_X11_deeper mv_X11_deeper rfl (tX11_deeper (d + 2) e84 hN82 k0) k0 (okN hN82 k0 (by decide)).1 (okN hN82 k0 (by decide)).2 cq_11 (by decide) rfl rfl (Nat.le_of_ble_eq_true rfl) (by decide) (by decide) (fun v ν hp => ?_) (fun i ν hp => nrm hp.1)
              obtain ⟨rfl, rfl, hN86, hb87⟩ := QEl hp
              show J _ _ _ _ 115 _ ([]) _ _ _ _
              refine J.iconst (pc := 115) dX11_operand_115 ic_1 ?_
              refine J.istore_n (pc := 116) ([(2, .int (1 : Int32)), (3, .int (1 : Int32)), (0, .ref v0), (4, .int v4)]) dX11_operand_116 rfl (Nat.le_of_ble_eq_true rfl) rfl ?_
              refine J.goto (pc := 117) (tgt := 4) dX11_operand_117 (by decide) ?_
              refine J.pick [2, 0, 1] rfl ?_
              exact hK4 v0 (1 : Int32) (1 : Int32) μ85 h hN86 k0
      · refine J.zeq (pc := 26) (tgt := 75) dX11_operand_26 (by decide) (fun q => absurd q hc) (fun _ => ?_)
        refine J.aload_n (pc := 29) dX11_operand_29 rfl 0 rfl ?_
        obtain ⟨r89, e88, h⟩ := bnd h
        refine J.callV (Y := mX11_operand) (Z := mX11_knownWord) (pc := 30) (st := []) (k2 := 0) (n2 := 0) dX11_operand_30 ml_RX11_183 mo_X11_knownWord mv_X11_knownWord rfl (tX11_knownWord (d + 1) e88 hN2 k0) k0 (okN hN2 k0 (by decide)).1 (okN hN2 k0 (by decide)).2 cq_11 (by decide) rfl rfl (Nat.le_of_ble_eq_true rfl) (by decide) (by decide) (fun v ν hp => ?_) (fun i ν hp => nrm hp.1)
        obtain ⟨rfl, rfl, hN90, hb91⟩ := QEl hp
        show J _ _ _ _ 33 _ ([.int r89]) _ _ _ _
        refine J.bipush (pc := 33) dX11_operand_33 ib_16 ?_
        rcases ifc h with ⟨hc, h⟩ | ⟨hc, h⟩
        · refine J.cne (pc := 35) (tgt := 75) dX11_operand_35 (by decide) (fun _ => ?_) (fun q => absurd hc q)
          refine J.iload (pc := 38) dX11_operand_38 2 rfl ?_
          refine J.bipush (pc := 40) dX11_operand_40 ib_6 ?_
          rcases ifc h with ⟨hc, h⟩ | ⟨hc, h⟩
          · refine J.cne (pc := 42) (tgt := 50) dX11_operand_42 (by decide) (fun _ => ?_) (fun q => absurd hc q)
            refine J.aload_n (pc := 45) dX11_operand_45 rfl 0 rfl ?_
            refine J.iconst (pc := 46) dX11_operand_46 ic_2 ?_
            obtain ⟨μ93, e92, h⟩ := bnd h
            refine J.callV (Y := mX11_operand) (Z := mX11_wrong) (pc := 47) (st := []) (k2 := 0) (n2 := 0) dX11_operand_47 ml_RX11_165 mo_X11_wrong mv_X11_wrong rfl (tX11_wrong (d + 3) e92 hN90 k0) k0 (okN hN90 k0 (by decide)).1 (okN hN90 k0 (by decide)).2 cq_11 (by decide) rfl rfl (Nat.le_of_ble_eq_true rfl) (by decide) (by decide) (fun v ν hp => ?_) (fun i ν hp => nrm hp.1)
            obtain ⟨rfl, rfl, hN94, hb95⟩ := QEl hp
            show J _ _ _ _ 50 _ ([]) _ _ _ _
            refine J.iinc (pc := 50) (j := 2) ([(4, .int (v4 + (1 : Int32))), (0, .ref v0), (2, .int v2)]) dX11_operand_50 rfl (iincv ic_1) (Nat.le_of_ble_eq_true rfl) rfl ?_
            refine J.aload_n (pc := 53) dX11_operand_53 rfl 1 rfl ?_
            refine J.callV (Y := mX11_operand) (Z := mX11_isGood) (pc := 54) (st := []) (k2 := 0) (n2 := 0) dX11_operand_54 ml_RX11_158 mo_X11_isGood mv_X11_isGood rfl (tX11_isGood (d + 3) v0 μ93 hN94 k0) k0 (okN hN94 k0 (by decide)).1 (okN hN94 k0 (by decide)).2 cq_11 (by decide) rfl rfl (Nat.le_of_ble_eq_true rfl) (by decide) (by decide) (fun v ν hp => ?_) (fun i ν hp => nrm hp.1)
            obtain ⟨rfl, rfl, hN97, hb98⟩ := QEl hp
            show J _ _ _ _ 57 _ ([.int (fX11_isGood v0 μ93)]) _ _ _ _
            rcases ifc h with ⟨hc, h⟩ | ⟨hc, h⟩
            · refine J.zne (pc := 57) (tgt := 63) dX11_operand_57 (by decide) (fun _ => ?_) (fun q => absurd hc q)
              refine J.goto (pc := 60) (tgt := 18) dX11_operand_60 (by decide) ?_
              refine J.pick [1, 2, 0] rfl ?_
              exact ih v0 v2 (v4 + (1 : Int32)) μ93 h hN97 k0
            · refine J.zne (pc := 57) (tgt := 63) dX11_operand_57 (by decide) (fun q => absurd q hc) (fun _ => ?_)
              refine J.aload_n (pc := 63) dX11_operand_63 rfl 1 rfl ?_
              refine J.iconst (pc := 64) dX11_operand_64 ic_3 ?_
              obtain ⟨μ100, e99, h⟩ := bnd h
              refine J.callV (Y := mX11_operand) (Z := mX11_waitsFor) (pc := 65) (st := []) (k2 := 0) (n2 := 0) dX11_operand_65 ml_RX11_199 mo_X11_waitsFor mv_X11_waitsFor rfl (tX11_waitsFor (d + 3) e99 hN97 k0) k0 (okN hN97 k0 (by decide)).1 (okN hN97 k0 (by decide)).2 cq_11 (by decide) rfl rfl (Nat.le_of_ble_eq_true rfl) (by decide) (by decide) (fun v ν hp => ?_) (fun i ν hp => nrm hp.1)
              obtain ⟨rfl, rfl, hN101, hb102⟩ := QEl hp
              show J _ _ _ _ 68 _ ([]) _ _ _ _
              refine J.aload_n (pc := 68) dX11_operand_68 rfl 1 rfl ?_
              obtain ⟨μ104, e103, h⟩ := bnd h
              refine J.callV (Y := mX11_operand) (Z := mX11_goes) (pc := 69) (st := []) (k2 := 0) (n2 := 0) dX11_operand_69 ml_RX11_162 mo_X11_goes mv_X11_goes rfl (tX11_goes (d + 2) e103 hN101 k0) k0 (okN hN101 k0 (by decide)).1 (okN hN101 k0 (by decide)).2 cq_11 (by decide) rfl rfl (Nat.le_of_ble_eq_true rfl) (by decide) (by decide) (fun v ν hp => ?_) (fun i ν hp => nrm hp.1)
              obtain ⟨rfl, rfl, hN105, hb106⟩ := QEl hp
              show J _ _ _ _ 72 _ ([]) _ _ _ _
              refine J.goto (pc := 72) (tgt := 18) dX11_operand_72 (by decide) ?_
              refine J.pick [1, 2, 0] rfl ?_
              exact ih v0 v2 (v4 + (1 : Int32)) μ104 h hN105 k0
          · refine J.cne (pc := 42) (tgt := 50) dX11_operand_42 (by decide) (fun q => absurd q hc) (fun _ => ?_)
            refine J.iinc (pc := 50) (j := 2) ([(4, .int (v4 + (1 : Int32))), (0, .ref v0), (2, .int v2)]) dX11_operand_50 rfl (iincv ic_1) (Nat.le_of_ble_eq_true rfl) rfl ?_
            refine J.aload_n (pc := 53) dX11_operand_53 rfl 1 rfl ?_
            refine J.callV (Y := mX11_operand) (Z := mX11_isGood) (pc := 54) (st := []) (k2 := 0) (n2 := 0) dX11_operand_54 ml_RX11_158 mo_X11_isGood mv_X11_isGood rfl (tX11_isGood (d + 3) v0 μ hN90 k0) k0 (okN hN90 k0 (by decide)).1 (okN hN90 k0 (by decide)).2 cq_11 (by decide) rfl rfl (Nat.le_of_ble_eq_true rfl) (by decide) (by decide) (fun v ν hp => ?_) (fun i ν hp => nrm hp.1)
            obtain ⟨rfl, rfl, hN108, hb109⟩ := QEl hp
            show J _ _ _ _ 57 _ ([.int (fX11_isGood v0 μ)]) _ _ _ _
            rcases ifc h with ⟨hc, h⟩ | ⟨hc, h⟩
            · refine J.zne (pc := 57) (tgt := 63) dX11_operand_57 (by decide) (fun _ => ?_) (fun q => absurd hc q)
              refine J.goto (pc := 60) (tgt := 18) dX11_operand_60 (by decide) ?_
              refine J.pick [1, 2, 0] rfl ?_
              exact ih v0 v2 (v4 + (1 : Int32)) μ h hN108 k0
            · refine J.zne (pc := 57) (tgt := 63) dX11_operand_57 (by decide) (fun q => absurd q hc) (fun _ => ?_)
              refine J.aload_n (pc := 63) dX11_operand_63 rfl 1 rfl ?_
              refine J.iconst (pc := 64) dX11_operand_64 ic_3 ?_
              obtain ⟨μ111, e110, h⟩ := bnd h
              refine J.callV (Y := mX11_operand) (Z := mX11_waitsFor) (pc := 65) (st := []) (k2 := 0) (n2 := 0) dX11_operand_65 ml_RX11_199 mo_X11_waitsFor mv_X11_waitsFor rfl (tX11_waitsFor (d + 3) e110 hN108 k0) k0 (okN hN108 k0 (by decide)).1 (okN hN108 k0 (by decide)).2 cq_11 (by decide) rfl rfl (Nat.le_of_ble_eq_true rfl) (by decide) (by decide) (fun v ν hp => ?_) (fun i ν hp => nrm hp.1)
              obtain ⟨rfl, rfl, hN112, hb113⟩ := QEl hp
              show J _ _ _ _ 68 _ ([]) _ _ _ _
              refine J.aload_n (pc := 68) dX11_operand_68 rfl 1 rfl ?_
              obtain ⟨μ115, e114, h⟩ := bnd h
              refine J.callV (Y := mX11_operand) (Z := mX11_goes) (pc := 69) (st := []) (k2 := 0) (n2 := 0) dX11_operand_69 ml_RX11_162 mo_X11_goes mv_X11_goes rfl (tX11_goes (d + 2) e114 hN112 k0) k0 (okN hN112 k0 (by decide)).1 (okN hN112 k0 (by decide)).2 cq_11 (by decide) rfl rfl (Nat.le_of_ble_eq_true rfl) (by decide) (by decide) (fun v ν hp => ?_) (fun i ν hp => nrm hp.1)
              obtain ⟨rfl, rfl, hN116, hb117⟩ := QEl hp
              show J _ _ _ _ 72 _ ([]) _ _ _ _
              refine J.goto (pc := 72) (tgt := 18) dX11_operand_72 (by decide) ?_
              refine J.pick [1, 2, 0] rfl ?_
              exact ih v0 v2 (v4 + (1 : Int32)) μ115 h hN116 k0
        · refine J.cne (pc := 35) (tgt := 75) dX11_operand_35 (by decide) (fun q => absurd q hc) (fun _ => ?_)
          refine J.aload_n (pc := 75) dX11_operand_75 rfl 0 rfl ?_
          refine J.callV (Y := mX11_operand) (Z := mX11_isGood) (pc := 76) (st := []) (k2 := 0) (n2 := 0) dX11_operand_76 ml_RX11_158 mo_X11_isGood mv_X11_isGood rfl (tX11_isGood (d + 3) v0 μ hN90 k0) k0 (okN hN90 k0 (by decide)).1 (okN hN90 k0 (by decide)).2 cq_11 (by decide) rfl rfl (Nat.le_of_ble_eq_true rfl) (by decide) (by decide) (fun v ν hp => ?_) (fun i ν hp => nrm hp.1)
          obtain ⟨rfl, rfl, hN119, hb120⟩ := QEl hp
          show J _ _ _ _ 79 _ ([.int (fX11_isGood v0 μ)]) _ _ _ _
          rcases ifc h with ⟨hc, h⟩ | ⟨hc, h⟩
          · refine J.zeq (pc := 79) (tgt := 95) dX11_operand_79 (by decide) (fun _ => ?_) (fun q => absurd hc q)
            refine J.iconst (pc := 95) dX11_operand_95 ic_0 ?_
            refine J.istore_n (pc := 96) ([(3, .int (0 : Int32)), (0, .ref v0), (2, .int v2), (4, .int v4)]) dX11_operand_96 rfl (Nat.le_of_ble_eq_true rfl) rfl ?_
            refine J.iload_n (pc := 97) dX11_operand_97 rfl 0 rfl ?_
            rcases ifc h with ⟨hc, h⟩ | ⟨hc, h⟩
            · refine J.zeq (pc := 98) (tgt := 117) dX11_operand_98 (by decide) (fun _ => ?_) (fun q => absurd hc q)
              refine J.goto (pc := 117) (tgt := 4) dX11_operand_117 (by decide) ?_
              refine J.pick [1, 2, 0] rfl ?_
              exact hK4 v0 v2 (0 : Int32) μ h hN119 k0
            · refine J.zeq (pc := 98) (tgt := 117) dX11_operand_98 (by decide) (fun q => absurd q hc) (fun _ => ?_)
              refine J.aload_n (pc := 101) dX11_operand_101 rfl 1 rfl ?_
              refine J.bipush (pc := 102) dX11_operand_102 ib_14 ?_
              obtain ⟨μ122, e121, h⟩ := bnd h
              refine J.callV (Y := mX11_operand) (Z := mX11_waitsFor) (pc := 104) (st := []) (k2 := 0) (n2 := 0) dX11_operand_104 ml_RX11_199 mo_X11_waitsFor mv_X11_waitsFor rfl (tX11_waitsFor (d + 3) e121 hN119 k0) k0 (okN hN119 k0 (by decide)).1 (okN hN119 k0 (by decide)).2 cq_11 (by decide) rfl rfl (Nat.le_of_ble_eq_true rfl) (by decide) (by decide) (fun v ν hp => ?_) (fun i ν hp => nrm hp.1)
              obtain ⟨rfl, rfl, hN123, hb124⟩ := QEl hp
              show J _ _ _ _ 107 _ ([]) _ _ _ _
              refine J.aload_n (pc := 107) dX11_operand_107 rfl 1 rfl ?_
              obtain ⟨μ126, e125, h⟩ := bnd h
              refine J.callV (Y := mX11_operand) (Z := mX11_goes) (pc := 108) (st := []) (k2 := 0) (n2 := 0) dX11_operand_108 ml_RX11_162 mo_X11_goes mv_X11_goes rfl (tX11_goes (d + 2) e125 hN123 k0) k0 (okN hN123 k0 (by decide)).1 (okN hN123 k0 (by decide)).2 cq_11 (by decide) rfl rfl (Nat.le_of_ble_eq_true rfl) (by decide) (by decide) (fun v ν hp => ?_) (fun i ν hp => nrm hp.1)
              obtain ⟨rfl, rfl, hN127, hb128⟩ := QEl hp
              show J _ _ _ _ 111 _ ([]) _ _ _ _
              refine J.aload_n (pc := 111) dX11_operand_111 rfl 1 rfl ?_
              obtain ⟨μ130, e129, h⟩ := bnd h
              refine J.callV (Y := mX11_operand) (Z := mX11_deeper) (pc := 112) (st := []) (k2 := 0) (n2 := 0) dX11_operand_112 ml_RX11_202 mo_X11_deeper mv_X11_deeper rfl (tX11_deeper (d + 2) e129 hN127 k0) k0 (okN hN127 k0 (by decide)).1 (okN hN127 k0 (by decide)).2 cq_11 (by decide) rfl rfl (Nat.le_of_ble_eq_true rfl) (by decide) (by decide) (fun v ν hp => ?_) (fun i ν hp => nrm hp.1)
              obtain ⟨rfl, rfl, hN131, hb132⟩ := QEl hp
              show J _ _ _ _ 115 _ ([]) _ _ _ _
              refine J.iconst (pc := 115) dX11_operand_115 ic_1 ?_
              refine J.istore_n (pc := 116) ([(2, .int (1 : Int32)), (3, .int (0 : Int32)), (0, .ref v0), (4, .int v4)]) dX11_operand_116 rfl (Nat.le_of_ble_eq_true rfl) rfl ?_
              refine J.goto (pc := 117) (tgt := 4) dX11_operand_117 (by decide) ?_
              refine J.pick [2, 0, 1] rfl ?_
              exact hK4 v0 (1 : Int32) (0 : Int32) μ130 h hN131 k0
          · refine J.zeq (pc := 79) (tgt := 95) dX11_operand_79 (by decide) (fun q => absurd q hc) (fun _ => ?_)
            refine J.aload_n (pc := 82) dX11_operand_82 rfl 0 rfl ?_
            refine J.bipush (pc := 83) dX11_operand_83 ib_40 ?_
            refine J.callV (Y := mX11_operand) (Z := mX11_isSign) (pc := 85) (st := []) (k2 := 0) (n2 := 0) dX11_operand_85 ml_RX11_196 mo_X11_isSign mv_X11_isSign rfl (tX11_isSign (d + 3) v0 (40 : Int32) μ hN119 k0) k0 (okN hN119 k0 (by decide)).1 (okN hN119 k0 (by decide)).2 cq_11 (by decide) rfl rfl (Nat.le_of_ble_eq_true rfl) (by decide) (by decide) (fun v ν hp => ?_) (fun i ν hp => nrm hp.1)
            obtain ⟨rfl, rfl, hN134, hb135⟩ := QEl hp
            show J _ _ _ _ 88 _ ([.int (fX11_isSign v0 (40 : Int32) μ)]) _ _ _ _
            rcases ifc h with ⟨hc, h⟩ | ⟨hc, h⟩
            · refine J.zeq (pc := 88) (tgt := 95) dX11_operand_88 (by decide) (fun _ => ?_) (fun q => absurd hc q)
              refine J.iconst (pc := 95) dX11_operand_95 ic_0 ?_
              refine J.istore_n (pc := 96) ([(3, .int (0 : Int32)), (0, .ref v0), (2, .int v2), (4, .int v4)]) dX11_operand_96 rfl (Nat.le_of_ble_eq_true rfl) rfl ?_
              refine J.iload_n (pc := 97) dX11_operand_97 rfl 0 rfl ?_
              rcases ifc h with ⟨hc, h⟩ | ⟨hc, h⟩
              · refine J.zeq (pc := 98) (tgt := 117) dX11_operand_98 (by decide) (fun _ => ?_) (fun q => absurd hc q)
                refine J.goto (pc := 117) (tgt := 4) dX11_operand_117 (by decide) ?_
                refine J.pick [1, 2, 0] rfl ?_
                exact hK4 v0 v2 (0 : Int32) μ h hN134 k0
              · refine J.zeq (pc := 98) (tgt := 117) dX11_operand_98 (by decide) (fun q => absurd q hc) (fun _ => ?_)
                refine J.aload_n (pc := 101) dX11_operand_101 rfl 1 rfl ?_
                refine J.bipush (pc := 102) dX11_operand_102 ib_14 ?_
                obtain ⟨μ137, e136, h⟩ := bnd h
                refine J.callV (Y := mX11_operand) (Z := mX11_waitsFor) (pc := 104) (st := []) (k2 := 0) (n2 := 0) dX11_operand_104 ml_RX11_199 mo_X11_waitsFor mv_X11_waitsFor rfl (tX11_waitsFor (d + 3) e136 hN134 k0) k0 (okN hN134 k0 (by decide)).1 (okN hN134 k0 (by decide)).2 cq_11 (by decide) rfl rfl (Nat.le_of_ble_eq_true rfl) (by decide) (by decide) (fun v ν hp => ?_) (fun i ν hp => nrm hp.1)
                obtain ⟨rfl, rfl, hN138, hb139⟩ := QEl hp
                show J _ _ _ _ 107 _ ([]) _ _ _ _
                refine J.aload_n (pc := 107) dX11_operand_107 rfl 1 rfl ?_
                obtain ⟨μ141, e140, h⟩ := bnd h
                refine J.callV (Y := mX11_operand) (Z := mX11_goes) (pc := 108) (st := []) (k2 := 0) (n2 := 0) dX11_operand_108 ml_RX11_162 mo_X11_goes mv_X11_goes rfl (tX11_goes (d + 2) e140 hN138 k0) k0 (okN hN138 k0 (by decide)).1 (okN hN138 k0 (by decide)).2 cq_11 (by decide) rfl rfl (Nat.le_of_ble_eq_true rfl) (by decide) (by decide) (fun v ν hp => ?_) (fun i ν hp => nrm hp.1)
                obtain ⟨rfl, rfl, hN142, hb143⟩ := QEl hp
                show J _ _ _ _ 111 _ ([]) _ _ _ _
                refine J.aload_n (pc := 111) dX11_operand_111 rfl 1 rfl ?_
                obtain ⟨μ145, e144, h⟩ := bnd h
                refine J.callV (Y := mX11_operand) (Z := mX11_deeper) (pc := 112) (st := []) (k2 := 0) (n2 := 0) dX11_operand_112 ml_RX11_202 mo_X11_deeper mv_X11_deeper rfl (tX11_deeper (d + 2) e144 hN142 k0) k0 (okN hN142 k0 (by decide)).1 (okN hN142 k0 (by decide)).2 cq_11 (by decide) rfl rfl (Nat.le_of_ble_eq_true rfl) (by decide) (by decide) (fun v ν hp => ?_) (fun i ν hp => nrm hp.1)
                obtain ⟨rfl, rfl, hN146, hb147⟩ := QEl hp
                show J _ _ _ _ 115 _ ([]) _ _ _ _
                refine J.iconst (pc := 115) dX11_operand_115 ic_1 ?_
                refine J.istore_n (pc := 116) ([(2, .int (1 : Int32)), (3, .int (0 : Int32)), (0, .ref v0), (4, .int v4)]) dX11_operand_116 rfl (Nat.le_of_ble_eq_true rfl) rfl ?_
                refine J.goto (pc := 117) (tgt := 4) dX11_operand_117 (by decide) ?_
                refine J.pick [2, 0, 1] rfl ?_
                exact hK4 v0 (1 : Int32) (0 : Int32) μ145 h hN146 k0
            · refine J.zeq (pc := 88) (tgt := 95) dX11_operand_88 (by decide) (fun q => absurd q hc) (fun _ => ?_)
              refine J.iconst (pc := 91) dX11_operand_91 ic_1 ?_
              refine J.goto (pc := 92) (tgt := 96) dX11_operand_92 (by decide) ?_
              refine J.istore_n (pc := 96) ([(3, .int (1 : Int32)), (0, .ref v0), (2, .int v2), (4, .int v4)]) dX11_operand_96 rfl (Nat.le_of_ble_eq_true rfl) rfl ?_
              refine J.iload_n (pc := 97) dX11_operand_97 rfl 0 rfl ?_
              rcases ifc h with ⟨hc, h⟩ | ⟨hc, h⟩
              · refine J.zeq (pc := 98) (tgt := 117) dX11_operand_98 (by decide) (fun _ => ?_) (fun q => absurd hc q)
                refine J.goto (pc := 117) (tgt := 4) dX11_operand_117 (by decide) ?_
                refine J.pick [1, 2, 0] rfl ?_
                exact hK4 v0 v2 (1 : Int32) μ h hN134 k0
              · refine J.zeq (pc := 98) (tgt := 117) dX11_operand_98 (by decide) (fun q => absurd q hc) (fun _ => ?_)
                refine J.aload_n (pc := 101) dX11_operand_101 rfl 1 rfl ?_
                refine J.bipush (pc := 102) dX11_operand_102 ib_14 ?_
                obtain ⟨μ149, e148, h⟩ := bnd h
                refine J.callV (Y := mX11_operand) (Z := mX11_waitsFor) (pc := 104) (st := []) (k2 := 0) (n2 := 0) dX11_operand_104 ml_RX11_199 mo_X11_waitsFor mv_X11_waitsFor rfl (tX11_waitsFor (d + 3) e148 hN134 k0) k0 (okN hN134 k0 (by decide)).1 (okN hN134 k0 (by decide)).2 cq_11 (by decide) rfl rfl (Nat.le_of_ble_eq_true rfl) (by decide) (by decide) (fun v ν hp => ?_) (fun i ν hp => nrm hp.1)
                obtain ⟨rfl, rfl, hN150, hb151⟩ := QEl hp
                show J _ _ _ _ 107 _ ([]) _ _ _ _
                refine J.aload_n (pc := 107) dX11_operand_107 rfl 1 rfl ?_
                obtain ⟨μ153, e152, h⟩ := bnd h
                refine J.callV (Y := mX11_operand) (Z := mX11_goes) (pc := 108) (st := []) (k2 := 0) (n2 := 0) dX11_operand_108 ml_RX11_162 mo_X11_goes mv_X11_goes rfl (tX11_goes (d + 2) e152 hN150 k0) k0 (okN hN150 k0 (by decide)).1 (okN hN150 k0 (by decide)).2 cq_11 (by decide) rfl rfl (Nat.le_of_ble_eq_true rfl) (by decide) (by decide) (fun v ν hp => ?_) (fun i ν hp => nrm hp.1)
                obtain ⟨rfl, rfl, hN154, hb155⟩ := QEl hp
                show J _ _ _ _ 111 _ ([]) _ _ _ _
                refine J.aload_n (pc := 111) dX11_operand_111 rfl 1 rfl ?_
                obtain ⟨μ157, e156, h⟩ := bnd h
                refine J.callV (Y := mX11_operand) (Z := mX11_deeper) (pc := 112) (st := []) (k2 := 0) (n2 := 0) dX11_operand_112 ml_RX11_202 mo_X11_deeper mv_X11_deeper rfl (tX11_deeper (d + 2) e156 hN154 k0) k0 (okN hN154 k0 (by decide)).1 (okN hN154 k0 (by decide)).2 cq_11 (by decide) rfl rfl (Nat.le_of_ble_eq_true rfl) (by decide) (by decide) (fun v ν hp => ?_) (fun i ν hp => nrm hp.1)
                obtain ⟨rfl, rfl, hN158, hb159⟩ := QEl hp
                show J _ _ _ _ 115 _ ([]) _ _ _ _
                refine J.iconst (pc := 115) dX11_operand_115 ic_1 ?_
                refine J.istore_n (pc := 116) ([(2, .int (1 : Int32)), (3, .int (1 : Int32)), (0, .ref v0), (4, .int v4)]) dX11_operand_116 rfl (Nat.le_of_ble_eq_true rfl) rfl ?_
                refine J.goto (pc := 117) (tgt := 4) dX11_operand_117 (by decide) ?_
                refine J.pick [2, 0, 1] rfl ?_
                exact hK4 v0 (1 : Int32) (1 : Int32) μ157 h hN158 k0
def fX11_operand_4  : Nat → Nat → Int32 → Int32 → Mem → Option (Mem)
  | 0, _, _, _, _ => none
  | n + 1, v0, v2, v3, μ =>
    if v3 = 0 then
      (fX11_part v0 μ).bind fun μ2 =>
      some μ2
    else
      if (fX11_isGood v0 μ) = 0 then
        (fX11_part v0 μ).bind fun μ9 =>
        some μ9
      else
        (fX11_operand_18 (fX11_operand_4 n) fuel) v0 v2 (0 : Int32) μ
set_option maxHeartbeats 4000000 in
theorem tX11_operand_4 {ω : Wd} {l : Launch} (d : Nat) {res : Mem} : ∀ n : Nat, ∀ (v0 : Nat) (v2 : Int32) (v3 : Int32) (μ : Mem), fX11_operand_4 n v0 v2 v3 μ = some res → μ.1 = NN → (kd v0).1 = 21 → J ω l mX11_operand (d + 4) 4 [(0, .ref v0), (2, .int v2), (3, .int v3)] [] μ 0 0 (PE (.inl none) res True) := by
  intro n
  induction n with
  | zero =>
    intro v0 v2 v3 μ h hN k0
    have h9 : (none : Option (Mem)) = some res := h
    cases h9
  | succ n ih =>
    intro v0 v2 v3 μ h hN k0
    unfold fX11_operand_4 at h
    refine J.iload_n (pc := 4) dX11_operand_4 rfl 2 rfl ?_
    rcases ifc h with ⟨hc, h⟩ | ⟨hc, h⟩
    · refine J.zeq (pc := 5) (tgt := 120) dX11_operand_5 (by decide) (fun _ => ?_) (fun q => absurd hc q)
      refine J.aload_n (pc := 120) dX11_operand_120 rfl 0 rfl ?_
      obtain ⟨μ2, e1, h⟩ := bnd h
      refine J.callV (Y := mX11_operand) (Z := mX11_part) (pc := 121) (st := []) (k2 := 0) (n2 := 0) dX11_operand_121 ml_RX11_205 mo_X11_part mv_X11_part rfl (tX11_part d e1 hN k0) k0 (okN hN k0 (by decide)).1 (okN hN k0 (by decide)).2 cq_11 (by decide) rfl rfl (Nat.le_of_ble_eq_true rfl) (by decide) (by decide) (fun v ν hp => ?_) (fun i ν hp => nrm hp.1)
      obtain ⟨rfl, rfl, hN3, hb4⟩ := QEl hp
      show J _ _ _ _ 124 _ ([]) _ _ _ _
      cases h
      exact J.vret (pc := 124) dX11_operand_124 rfl ⟨rfl, rfl, hN3, trivial⟩
    · refine J.zeq (pc := 5) (tgt := 120) dX11_operand_5 (by decide) (fun q => absurd q hc) (fun _ => ?_)
      refine J.aload_n (pc := 8) dX11_operand_8 rfl 0 rfl ?_
      refine J.callV (Y := mX11_operand) (Z := mX11_isGood) (pc := 9) (st := []) (k2 := 0) (n2 := 0) dX11_operand_9 ml_RX11_158 mo_X11_isGood mv_X11_isGood rfl (tX11_isGood (d + 3) v0 μ hN k0) k0 (okN hN k0 (by decide)).1 (okN hN k0 (by decide)).2 cq_11 (by decide) rfl rfl (Nat.le_of_ble_eq_true rfl) (by decide) (by decide) (fun v ν hp => ?_) (fun i ν hp => nrm hp.1)
      obtain ⟨rfl, rfl, hN6, hb7⟩ := QEl hp
      show J _ _ _ _ 12 _ ([.int (fX11_isGood v0 μ)]) _ _ _ _
      rcases ifc h with ⟨hc, h⟩ | ⟨hc, h⟩
      · refine J.zeq (pc := 12) (tgt := 120) dX11_operand_12 (by decide) (fun _ => ?_) (fun q => absurd hc q)
        refine J.aload_n (pc := 120) dX11_operand_120 rfl 0 rfl ?_
        obtain ⟨μ9, e8, h⟩ := bnd h
        refine J.callV (Y := mX11_operand) (Z := mX11_part) (pc := 121) (st := []) (k2 := 0) (n2 := 0) dX11_operand_121 ml_RX11_205 mo_X11_part mv_X11_part rfl (tX11_part d e8 hN6 k0) k0 (okN hN6 k0 (by decide)).1 (okN hN6 k0 (by decide)).2 cq_11 (by decide) rfl rfl (Nat.le_of_ble_eq_true rfl) (by decide) (by decide) (fun v ν hp => ?_) (fun i ν hp => nrm hp.1)
        obtain ⟨rfl, rfl, hN10, hb11⟩ := QEl hp
        show J _ _ _ _ 124 _ ([]) _ _ _ _
        cases h
        exact J.vret (pc := 124) dX11_operand_124 rfl ⟨rfl, rfl, hN10, trivial⟩
      · refine J.zeq (pc := 12) (tgt := 120) dX11_operand_12 (by decide) (fun q => absurd q hc) (fun _ => ?_)
        refine J.iconst (pc := 15) dX11_operand_15 ic_0 ?_
        refine J.istore (pc := 16) ([(4, .int (0 : Int32)), (0, .ref v0), (2, .int v2), (3, .int v3)]) dX11_operand_16 (Nat.le_of_ble_eq_true rfl) rfl ?_
        refine J.pick [1, 2, 0] rfl ?_
        exact (tX11_operand_18 d (fX11_operand_4 n) ih fuel) v0 v2 (0 : Int32) μ h hN6 k0
def fX11_operand (v0 : Nat) (v1 : Int32) (μ : Mem) : Option (Mem) :=
  (fX11_operand_4 fuel) v0 v1 (1 : Int32) μ
set_option maxHeartbeats 4000000 in
theorem tX11_operand {ω : Wd} {l : Launch} (d : Nat) {v0 : Nat} {v1 : Int32} {μ : Mem} {res : Mem} (h : fX11_operand v0 v1 μ = some res) (hN : μ.1 = NN) (k0 : (kd v0).1 = 21) : Ct ω l mX11_operand (d + 4) [.ref v0, .int v1] μ 0 0 (PE (.inl none) res True) := by
  refine Ct.of pn_RX11 (Nat.le_of_ble_eq_true rfl) ?_
  show J ω l mX11_operand (d + 4) 0 [(0, .ref v0), (1, .int v1)] [] μ 0 0 _
  unfold fX11_operand at h
  refine J.iload_n (pc := 0) dX11_operand_0 rfl 1 rfl ?_
  refine J.istore_n (pc := 1) ([(2, .int v1), (0, .ref v0), (1, .int v1)]) dX11_operand_1 rfl (Nat.le_of_ble_eq_true rfl) rfl ?_
  refine J.iconst (pc := 2) dX11_operand_2 ic_1 ?_
  refine J.istore_n (pc := 3) ([(3, .int (1 : Int32)), (2, .int v1), (0, .ref v0), (1, .int v1)]) dX11_operand_3 rfl (Nat.le_of_ble_eq_true rfl) rfl ?_
  refine J.pick [2, 1, 0] rfl ?_
  exact (tX11_operand_4 d fuel) v0 v1 (1 : Int32) μ h hN k0
def fX11_expression_201  (K39 : Nat → Int32 → Mem → Option (Mem)) (v0 : Nat) (v3 : Int32) (μ : Mem) : Option (Mem) :=
  if (fX11_isSign v0 (43 : Int32) μ) = 0 then
    if (fX11_isSign v0 (45 : Int32) μ) = 0 then
      if (fX11_isSign v0 (42 : Int32) μ) = 0 then
        if (fX11_isSign v0 (47 : Int32) μ) = 0 then
          if (fX11_isSign v0 (41 : Int32) μ) = 0 then
            K39 v0 (0 : Int32) μ
          else
            (fX11_isOpened v0 μ).bind fun r17 =>
            if r17 = 0 then
              K39 v0 (0 : Int32) μ
            else
              (fX11_closes v0 μ).bind fun μ21 =>
              K39 v0 v3 μ21
        else
          (fX11_drops v0 (6 : Int32) μ).bind fun μ25 =>
          if (fX11_isSign v0 (42 : Int32) μ25) = 0 then
            (fX11_waitsFor v0 (11 : Int32) μ25).bind fun μ32 =>
            (fX11_goes v0 μ32).bind fun μ36 =>
            (fX11_operand v0 (0 : Int32) μ36).bind fun μ40 =>
            K39 v0 v3 μ40
          else
            (fX11_waitsFor v0 (10 : Int32) μ25).bind fun μ44 =>
            (fX11_goes v0 μ44).bind fun μ48 =>
            (fX11_operand v0 (0 : Int32) μ48).bind fun μ52 =>
            K39 v0 v3 μ52
      else
        (fX11_drops v0 (6 : Int32) μ).bind fun μ56 =>
        if (fX11_isSign v0 (42 : Int32) μ56) = 0 then
          (fX11_waitsFor v0 (11 : Int32) μ56).bind fun μ63 =>
          (fX11_goes v0 μ63).bind fun μ67 =>
          (fX11_operand v0 (0 : Int32) μ67).bind fun μ71 =>
          K39 v0 v3 μ71
        else
          (fX11_waitsFor v0 (10 : Int32) μ56).bind fun μ75 =>
          (fX11_goes v0 μ75).bind fun μ79 =>
          (fX11_operand v0 (0 : Int32) μ79).bind fun μ83 =>
          K39 v0 v3 μ83
    else
      (fX11_drops v0 (5 : Int32) μ).bind fun μ87 =>
      if (fX11_isSign v0 (43 : Int32) μ87) = 0 then
        (fX11_waitsFor v0 (9 : Int32) μ87).bind fun μ94 =>
        (fX11_goes v0 μ94).bind fun μ98 =>
        (fX11_operand v0 (0 : Int32) μ98).bind fun μ102 =>
        K39 v0 v3 μ102
      else
        (fX11_waitsFor v0 (8 : Int32) μ87).bind fun μ106 =>
        (fX11_goes v0 μ106).bind fun μ110 =>
        (fX11_operand v0 (0 : Int32) μ110).bind fun μ114 =>
        K39 v0 v3 μ114
  else
    (fX11_drops v0 (5 : Int32) μ).bind fun μ118 =>
    if (fX11_isSign v0 (43 : Int32) μ118) = 0 then
      (fX11_waitsFor v0 (9 : Int32) μ118).bind fun μ125 =>
      (fX11_goes v0 μ125).bind fun μ129 =>
      (fX11_operand v0 (0 : Int32) μ129).bind fun μ133 =>
      K39 v0 v3 μ133
    else
      (fX11_waitsFor v0 (8 : Int32) μ118).bind fun μ137 =>
      (fX11_goes v0 μ137).bind fun μ141 =>
      (fX11_operand v0 (0 : Int32) μ141).bind fun μ145 =>
      K39 v0 v3 μ145
set_option maxHeartbeats 4000000 in
theorem tX11_expression_201 {ω : Wd} {l : Launch} (d : Nat) {res : Mem} (K39 : Nat → Int32 → Mem → Option (Mem)) (hK39 : ∀ (v0 : Nat) (v3 : Int32) (μ : Mem), K39 v0 v3 μ = some res → μ.1 = NN → (kd v0).1 = 21 → J ω l mX11_expression (d + 5) 39 [(0, .ref v0), (3, .int v3)] [] μ 0 0 (PE (.inl none) res True)) : ∀ (v0 : Nat) (v3 : Int32) (μ : Mem), fX11_expression_201 K39 v0 v3 μ = some res → μ.1 = NN → (kd v0).1 = 21 → J ω l mX11_expression (d + 5) 201 [(0, .ref v0), (3, .int v3)] [] μ 0 0 (PE (.inl none) res True) := by
  intro v0 v3 μ h hN k0
  unfold fX11_expression_201 at h
  refine J.aload_n (pc := 201) dX11_expression_201 rfl 0 rfl ?_
  refine J.bipush (pc := 202) dX11_expression_202 ib_43 ?_
  refine J.callV (Y := mX11_expression) (Z := mX11_isSign) (pc := 204) (st := []) (k2 := 0) (n2 := 0) dX11_expression_204 ml_RX11_196 mo_X11_isSign mv_X11_isSign rfl (tX11_isSign (d + 4) v0 (43 : Int32) μ hN k0) k0 (okN hN k0 (by decide)).1 (okN hN k0 (by decide)).2 cq_11 (by decide) rfl rfl (Nat.le_of_ble_eq_true rfl) (by decide) (by decide) (fun v ν hp => ?_) (fun i ν hp => nrm hp.1)
  obtain ⟨rfl, rfl, hN2, hb3⟩ := QEl hp
  show J _ _ _ _ 207 _ ([.int (fX11_isSign v0 (43 : Int32) μ)]) _ _ _ _
  rcases ifc h with ⟨hc, h⟩ | ⟨hc, h⟩
  · refine J.zne (pc := 207) (tgt := 219) dX11_expression_207 (by decide) (fun _ => ?_) (fun q => absurd hc q)
    refine J.aload_n (pc := 210) dX11_expression_210 rfl 0 rfl ?_
    refine J.bipush (pc := 211) dX11_expression_211 ib_45 ?_
    refine J.callV (Y := mX11_expression) (Z := mX11_isSign) (pc := 213) (st := []) (k2 := 0) (n2 := 0) dX11_expression_213 ml_RX11_196 mo_X11_isSign mv_X11_isSign rfl (tX11_isSign (d + 4) v0 (45 : Int32) μ hN2 k0) k0 (okN hN2 k0 (by decide)).1 (okN hN2 k0 (by decide)).2 cq_11 (by decide) rfl rfl (Nat.le_of_ble_eq_true rfl) (by decide) (by decide) (fun v ν hp => ?_) (fun i ν hp => nrm hp.1)
    obtain ⟨rfl, rfl, hN5, hb6⟩ := QEl hp
    show J _ _ _ _ 216 _ ([.int (fX11_isSign v0 (45 : Int32) μ)]) _ _ _ _
    rcases ifc h with ⟨hc, h⟩ | ⟨hc, h⟩
    · refine J.zeq (pc := 216) (tgt := 256) dX11_expression_216 (by decide) (fun _ => ?_) (fun q => absurd hc q)
      refine J.aload_n (pc := 256) dX11_expression_256 rfl 0 rfl ?_
      refine J.bipush (pc := 257) dX11_expression_257 ib_42 ?_
      refine J.callV (Y := mX11_expression) (Z := mX11_isSign) (pc := 259) (st := []) (k2 := 0) (n2 := 0) dX11_expression_259 ml_RX11_196 mo_X11_isSign mv_X11_isSign rfl (tX11_isSign (d + 4) v0 (42 : Int32) μ hN5 k0) k0 (okN hN5 k0 (by decide)).1 (okN hN5 k0 (by decide)).2 cq_11 (by decide) rfl rfl (Nat.le_of_ble_eq_true rfl) (by decide) (by decide) (fun v ν hp => ?_) (fun i ν hp => nrm hp.1)
      obtain ⟨rfl, rfl, hN8, hb9⟩ := QEl hp
      show J _ _ _ _ 262 _ ([.int (fX11_isSign v0 (42 : Int32) μ)]) _ _ _ _
      rcases ifc h with ⟨hc, h⟩ | ⟨hc, h⟩
      · refine J.zne (pc := 262) (tgt := 274) dX11_expression_262 (by decide) (fun _ => ?_) (fun q => absurd hc q)
        refine J.aload_n (pc := 265) dX11_expression_265 rfl 0 rfl ?_
        refine J.bipush (pc := 266) dX11_expression_266 ib_47 ?_
        refine J.callV (Y := mX11_expression) (Z := mX11_isSign) (pc := 268) (st := []) (k2 := 0) (n2 := 0) dX11_expression_268 ml_RX11_196 mo_X11_isSign mv_X11_isSign rfl (tX11_isSign (d + 4) v0 (47 : Int32) μ hN8 k0) k0 (okN hN8 k0 (by decide)).1 (okN hN8 k0 (by decide)).2 cq_11 (by decide) rfl rfl (Nat.le_of_ble_eq_true rfl) (by decide) (by decide) (fun v ν hp => ?_) (fun i ν hp => nrm hp.1)
        obtain ⟨rfl, rfl, hN11, hb12⟩ := QEl hp
        show J _ _ _ _ 271 _ ([.int (fX11_isSign v0 (47 : Int32) μ)]) _ _ _ _
        rcases ifc h with ⟨hc, h⟩ | ⟨hc, h⟩
        · refine J.zeq (pc := 271) (tgt := 312) dX11_expression_271 (by decide) (fun _ => ?_) (fun q => absurd hc q)
          refine J.aload_n (pc := 312) dX11_expression_312 rfl 0 rfl ?_
          refine J.bipush (pc := 313) dX11_expression_313 ib_41 ?_
          refine J.callV (Y := mX11_expression) (Z := mX11_isSign) (pc := 315) (st := []) (k2 := 0) (n2 := 0) dX11_expression_315 ml_RX11_196 mo_X11_isSign mv_X11_isSign rfl (tX11_isSign (d + 4) v0 (41 : Int32) μ hN11 k0) k0 (okN hN11 k0 (by decide)).1 (okN hN11 k0 (by decide)).2 cq_11 (by decide) rfl rfl (Nat.le_of_ble_eq_true rfl) (by decide) (by decide) (fun v ν hp => ?_) (fun i ν hp => nrm hp.1)
          obtain ⟨rfl, rfl, hN14, hb15⟩ := QEl hp
          show J _ _ _ _ 318 _ ([.int (fX11_isSign v0 (41 : Int32) μ)]) _ _ _ _
          rcases ifc h with ⟨hc, h⟩ | ⟨hc, h⟩
          · refine J.zeq (pc := 318) (tgt := 335) dX11_expression_318 (by decide) (fun _ => ?_) (fun q => absurd hc q)
            refine J.iconst (pc := 335) dX11_expression_335 ic_0 ?_
            refine J.istore_n (pc := 336) ([(3, .int (0 : Int32)), (0, .ref v0)]) dX11_expression_336 rfl (Nat.le_of_ble_eq_true rfl) rfl ?_
            refine J.goto (pc := 337) (tgt := 39) dX11_expression_337 (by decide) ?_
            refine J.pick [1, 0] rfl ?_
            exact hK39 v0 (0 : Int32) μ h hN14 k0
          · refine J.zeq (pc := 318) (tgt := 335) dX11_expression_318 (by decide) (fun q => absurd q hc) (fun _ => ?_)
            refine J.aload_n (pc := 321) dX11_expression_321 rfl 0 rfl ?_
            obtain ⟨r17, e16, h⟩ := bnd h
            refine J.callV (Y := mX11_expression) (Z := mX11_isOpened) (pc := 322) (st := []) (k2 := 0) (n2 := 0) dX11_expression_322 ml_RX11_215 mo_X11_isOpened mv_X11_isOpened rfl (tX11_isOpened (d + 3) e16 hN14 k0) k0 (okN hN14 k0 (by decide)).1 (okN hN14 k0 (by decide)).2 cq_11 (by decide) rfl rfl (Nat.le_of_ble_eq_true rfl) (by decide) (by decide) (fun v ν hp => ?_) (fun i ν hp => nrm hp.1)
            obtain ⟨rfl, rfl, hN18, hb19⟩ := QEl hp
            show J _ _ _ _ 325 _ ([.int r17]) _ _ _ _
            rcases ifc h with ⟨hc, h⟩ | ⟨hc, h⟩
            · refine J.zeq (pc := 325) (tgt := 335) dX11_expression_325 (by decide) (fun _ => ?_) (fun q => absurd hc q)
              refine J.iconst (pc := 335) dX11_expression_335 ic_0 ?_
              refine J.istore_n (pc := 336) ([(3, .int (0 : Int32)), (0, .ref v0)]) dX11_expression_336 rfl (Nat.le_of_ble_eq_true rfl) rfl ?_
              refine J.goto (pc := 337) (tgt := 39) dX11_expression_337 (by decide) ?_
              refine J.pick [1, 0] rfl ?_
              exact hK39 v0 (0 : Int32) μ h hN18 k0
            · refine J.zeq (pc := 325) (tgt := 335) dX11_expression_325 (by decide) (fun q => absurd q hc) (fun _ => ?_)
              refine J.aload_n (pc := 328) dX11_expression_328 rfl 0 rfl ?_
              obtain ⟨μ21, e20, h⟩ := bnd h
              refine J.callV (Y := mX11_expression) (Z := mX11_closes) (pc := 329) (st := []) (k2 := 0) (n2 := 0) dX11_expression_329 ml_RX11_218 mo_X11_closes mv_X11_closes rfl (tX11_closes (d + 2) e20 hN18 k0) k0 (okN hN18 k0 (by decide)).1 (okN hN18 k0 (by decide)).2 cq_11 (by decide) rfl rfl (Nat.le_of_ble_eq_true rfl) (by decide) (by decide) (fun v ν hp => ?_) (fun i ν hp => nrm hp.1)
              obtain ⟨rfl, rfl, hN22, hb23⟩ := QEl hp
              show J _ _ _ _ 332 _ ([]) _ _ _ _
              refine J.goto (pc := 332) (tgt := 337) dX11_expression_332 (by decide) ?_
              refine J.goto (pc := 337) (tgt := 39) dX11_expression_337 (by decide) ?_
              exact hK39 v0 v3 μ21 h hN22 k0
        · refine J.zeq (pc := 271) (tgt := 312) dX11_expression_271 (by decide) (fun q => absurd q hc) (fun _ => ?_)
          refine J.aload_n (pc := 274) dX11_expression_274 rfl 0 rfl ?_
          refine J.bipush (pc := 275) dX11_expression_275 ib_6 ?_
          obtain ⟨μ25, e24, h⟩ := bnd h
          refine J.callV (Y := mX11_expression) (Z := mX11_drops) (pc := 277) (st := []) (k2 := 0) (n2 := 0) dX11_expression_277 ml_RX11_208 mo_X11_drops mv_X11_drops rfl (tX11_drops (d + 3) e24 hN11 k0) k0 (okN hN11 k0 (by decide)).1 (okN hN11 k0 (by decide)).2 cq_11 (by decide) rfl rfl (Nat.le_of_ble_eq_true rfl) (by decide) (by decide) (fun v ν hp => ?_) (fun i ν hp => nrm hp.1)
          obtain ⟨rfl, rfl, hN26, hb27⟩ := QEl hp
          show J _ _ _ _ 280 _ ([]) _ _ _ _
          refine J.aload_n (pc := 280) dX11_expression_280 rfl 0 rfl ?_
          refine J.aload_n (pc := 281) dX11_expression_281 rfl 0 rfl ?_
          refine J.bipush (pc := 282) dX11_expression_282 ib_42 ?_
          refine J.callV (Y := mX11_expression) (Z := mX11_isSign) (pc := 284) (st := [.ref v0]) (k2 := 0) (n2 := 0) dX11_expression_284 ml_RX11_196 mo_X11_isSign mv_X11_isSign rfl (tX11_isSign (d + 4) v0 (42 : Int32) μ25 hN26 k0) k0 (okN hN26 k0 (by decide)).1 (okN hN26 k0 (by decide)).2 cq_11 (by decide) rfl rfl (Nat.le_of_ble_eq_true rfl) (by decide) (by decide) (fun v ν hp => ?_) (fun i ν hp => nrm hp.1)
          obtain ⟨rfl, rfl, hN29, hb30⟩ := QEl hp
          show J _ _ _ _ 287 _ ([.int (fX11_isSign v0 (42 : Int32) μ25), .ref v0]) _ _ _ _
          rcases ifc h with ⟨hc, h⟩ | ⟨hc, h⟩
          · refine J.zeq (pc := 287) (tgt := 295) dX11_expression_287 (by decide) (fun _ => ?_) (fun q => absurd hc q)
            refine J.bipush (pc := 295) dX11_expression_295 ib_11 ?_
            obtain ⟨μ32, e31, h⟩ := bnd h
            refine J.callV (Y := mX11_expression) (Z := mX11_waitsFor) (pc := 297) (st := []) (k2 := 0) (n2 := 0) dX11_expression_297 ml_RX11_199 mo_X11_waitsFor mv_X11_waitsFor rfl (tX11_waitsFor (d + 4) e31 hN29 k0) k0 (okN hN29 k0 (by decide)).1 (okN hN29 k0 (by decide)).2 cq_11 (by decide) rfl rfl (Nat.le_of_ble_eq_true rfl) (by decide) (by decide) (fun v ν hp => ?_) (fun i ν hp => nrm hp.1)
            obtain ⟨rfl, rfl, hN33, hb34⟩ := QEl hp
            show J _ _ _ _ 300 _ ([]) _ _ _ _
            refine J.aload_n (pc := 300) dX11_expression_300 rfl 0 rfl ?_
            obtain ⟨μ36, e35, h⟩ := bnd h
            refine J.callV (Y := mX11_expression) (Z := mX11_goes) (pc := 301) (st := []) (k2 := 0) (n2 := 0) dX11_expression_301 ml_RX11_162 mo_X11_goes mv_X11_goes rfl (tX11_goes (d + 3) e35 hN33 k0) k0 (okN hN33 k0 (by decide)).1 (okN hN33 k0 (by decide)).2 cq_11 (by decide) rfl rfl (Nat.le_of_ble_eq_true rfl) (by decide) (by decide) (fun v ν hp => ?_) (fun i ν hp => nrm hp.1)
            obtain ⟨rfl, rfl, hN37, hb38⟩ := QEl hp
            show J _ _ _ _ 304 _ ([]) _ _ _ _
            refine J.aload_n (pc := 304) dX11_expression_304 rfl 0 rfl ?_
            refine J.iconst (pc := 305) dX11_expression_305 ic_0 ?_
            obtain ⟨μ40, e39, h⟩ := bnd h
            refine J.callV (Y := mX11_expression) (Z := mX11_operand) (pc := 306) (st := []) (k2 := 0) (n2 := 0) dX11_expression_306 ml_RX11_211 mo_X11_operand mv_X11_operand rfl (tX11_operand d e39 hN37 k0) k0 (okN hN37 k0 (by decide)).1 (okN hN37 k0 (by decide)).2 cq_11 (by decide) rfl rfl (Nat.le_of_ble_eq_true rfl) (by decide) (by decide) (fun v ν hp => ?_) (fun i ν hp => nrm hp.1)
            obtain ⟨rfl, rfl, hN41, hb42⟩ := QEl hp
            show J _ _ _ _ 309 _ ([]) _ _ _ _
            refine J.goto (pc := 309) (tgt := 337) dX11_expression_309 (by decide) ?_
            refine J.goto (pc := 337) (tgt := 39) dX11_expression_337 (by decide) ?_
            exact hK39 v0 v3 μ40 h hN41 k0
          · refine J.zeq (pc := 287) (tgt := 295) dX11_expression_287 (by decide) (fun q => absurd q hc) (fun _ => ?_)
            refine J.bipush (pc := 290) dX11_expression_290 ib_10 ?_
            refine J.goto (pc := 292) (tgt := 297) dX11_expression_292 (by decide) ?_
            obtain ⟨μ44, e43, h⟩ := bnd h
            refine J.callV (Y := mX11_expression) (Z := mX11_waitsFor) (pc := 297) (st := []) (k2 := 0) (n2 := 0) dX11_expression_297 ml_RX11_199 mo_X11_waitsFor mv_X11_waitsFor rfl (tX11_waitsFor (d + 4) e43 hN29 k0) k0 (okN hN29 k0 (by decide)).1 (okN hN29 k0 (by decide)).2 cq_11 (by decide) rfl rfl (Nat.le_of_ble_eq_true rfl) (by decide) (by decide) (fun v ν hp => ?_) (fun i ν hp => nrm hp.1)
            obtain ⟨rfl, rfl, hN45, hb46⟩ := QEl hp
            show J _ _ _ _ 300 _ ([]) _ _ _ _
            refine J.aload_n (pc := 300) dX11_expression_300 rfl 0 rfl ?_
            obtain ⟨μ48, e47, h⟩ := bnd h
            refine J.callV (Y := mX11_expression) (Z := mX11_goes) (pc := 301) (st := []) (k2 := 0) (n2 := 0) dX11_expression_301 ml_RX11_162 mo_X11_goes mv_X11_goes rfl (tX11_goes (d + 3) e47 hN45 k0) k0 (okN hN45 k0 (by decide)).1 (okN hN45 k0 (by decide)).2 cq_11 (by decide) rfl rfl (Nat.le_of_ble_eq_true rfl) (by decide) (by decide) (fun v ν hp => ?_) (fun i ν hp => nrm hp.1)
            obtain ⟨rfl, rfl, hN49, hb50⟩ := QEl hp
            show J _ _ _ _ 304 _ ([]) _ _ _ _
            refine J.aload_n (pc := 304) dX11_expression_304 rfl 0 rfl ?_
            refine J.iconst (pc := 305) dX11_expression_305 ic_0 ?_
            obtain ⟨μ52, e51, h⟩ := bnd h
            refine J.callV (Y := mX11_expression) (Z := mX11_operand) (pc := 306) (st := []) (k2 := 0) (n2 := 0) dX11_expression_306 ml_RX11_211 mo_X11_operand mv_X11_operand rfl (tX11_operand d e51 hN49 k0) k0 (okN hN49 k0 (by decide)).1 (okN hN49 k0 (by decide)).2 cq_11 (by decide) rfl rfl (Nat.le_of_ble_eq_true rfl) (by decide) (by decide) (fun v ν hp => ?_) (fun i ν hp => nrm hp.1)
            obtain ⟨rfl, rfl, hN53, hb54⟩ := QEl hp
            show J _ _ _ _ 309 _ ([]) _ _ _ _
            refine J.goto (pc := 309) (tgt := 337) dX11_expression_309 (by decide) ?_
            refine J.goto (pc := 337) (tgt := 39) dX11_expression_337 (by decide) ?_
            exact hK39 v0 v3 μ52 h hN53 k0
      · refine J.zne (pc := 262) (tgt := 274) dX11_expression_262 (by decide) (fun q => absurd q hc) (fun _ => ?_)
        refine J.aload_n (pc := 274) dX11_expression_274 rfl 0 rfl ?_
        refine J.bipush (pc := 275) dX11_expression_275 ib_6 ?_
        obtain ⟨μ56, e55, h⟩ := bnd h
        refine J.callV (Y := mX11_expression) (Z := mX11_drops) (pc := 277) (st := []) (k2 := 0) (n2 := 0) dX11_expression_277 ml_RX11_208 mo_X11_drops mv_X11_drops rfl (tX11_drops (d + 3) e55 hN8 k0) k0 (okN hN8 k0 (by decide)).1 (okN hN8 k0 (by decide)).2 cq_11 (by decide) rfl rfl (Nat.le_of_ble_eq_true rfl) (by decide) (by decide) (fun v ν hp => ?_) (fun i ν hp => nrm hp.1)
        obtain ⟨rfl, rfl, hN57, hb58⟩ := QEl hp
        show J _ _ _ _ 280 _ ([]) _ _ _ _
        refine J.aload_n (pc := 280) dX11_expression_280 rfl 0 rfl ?_
        refine J.aload_n (pc := 281) dX11_expression_281 rfl 0 rfl ?_
        refine J.bipush (pc := 282) dX11_expression_282 ib_42 ?_
        refine J.callV (Y := mX11_expression) (Z := mX11_isSign) (pc := 284) (st := [.ref v0]) (k2 := 0) (n2 := 0) dX11_expression_284 ml_RX11_196 mo_X11_isSign mv_X11_isSign rfl (tX11_isSign (d + 4) v0 (42 : Int32) μ56 hN57 k0) k0 (okN hN57 k0 (by decide)).1 (okN hN57 k0 (by decide)).2 cq_11 (by decide) rfl rfl (Nat.le_of_ble_eq_true rfl) (by decide) (by decide) (fun v ν hp => ?_) (fun i ν hp => nrm hp.1)
        obtain ⟨rfl, rfl, hN60, hb61⟩ := QEl hp
        show J _ _ _ _ 287 _ ([.int (fX11_isSign v0 (42 : Int32) μ56), .ref v0]) _ _ _ _
        rcases ifc h with ⟨hc, h⟩ | ⟨hc, h⟩
        · refine J.zeq (pc := 287) (tgt := 295) dX11_expression_287 (by decide) (fun _ => ?_) (fun q => absurd hc q)
          refine J.bipush (pc := 295) dX11_expression_295 ib_11 ?_
          obtain ⟨μ63, e62, h⟩ := bnd h
          refine J.callV (Y := mX11_expression) (Z := mX11_waitsFor) (pc := 297) (st := []) (k2 := 0) (n2 := 0) dX11_expression_297 ml_RX11_199 mo_X11_waitsFor mv_X11_waitsFor rfl (tX11_waitsFor (d + 4) e62 hN60 k0) k0 (okN hN60 k0 (by decide)).1 (okN hN60 k0 (by decide)).2 cq_11 (by decide) rfl rfl (Nat.le_of_ble_eq_true rfl) (by decide) (by decide) (fun v ν hp => ?_) (fun i ν hp => nrm hp.1)
          obtain ⟨rfl, rfl, hN64, hb65⟩ := QEl hp
          show J _ _ _ _ 300 _ ([]) _ _ _ _
          refine J.aload_n (pc := 300) dX11_expression_300 rfl 0 rfl ?_
          obtain ⟨μ67, e66, h⟩ := bnd h
          refine J.callV (Y := mX11_expression) (Z := mX11_goes) (pc := 301) (st := []) (k2 := 0) (n2 := 0) dX11_expression_301 ml_RX11_162 mo_X11_goes mv_X11_goes rfl (tX11_goes (d + 3) e66 hN64 k0) k0 (okN hN64 k0 (by decide)).1 (okN hN64 k0 (by decide)).2 cq_11 (by decide) rfl rfl (Nat.le_of_ble_eq_true rfl) (by decide) (by decide) (fun v ν hp => ?_) (fun i ν hp => nrm hp.1)
          obtain ⟨rfl, rfl, hN68, hb69⟩ := QEl hp
          show J _ _ _ _ 304 _ ([]) _ _ _ _
          refine J.aload_n (pc := 304) dX11_expression_304 rfl 0 rfl ?_
          refine J.iconst (pc := 305) dX11_expression_305 ic_0 ?_
          obtain ⟨μ71, e70, h⟩ := bnd h
          refine J.callV (Y := mX11_expression) (Z := mX11_operand) (pc := 306) (st := []) (k2 := 0) (n2 := 0) dX11_expression_306 ml_RX11_211 mo_X11_operand mv_X11_operand rfl (tX11_operand d e70 hN68 k0) k0 (okN hN68 k0 (by decide)).1 (okN hN68 k0 (by decide)).2 cq_11 (by decide) rfl rfl (Nat.le_of_ble_eq_true rfl) (by decide) (by decide) (fun v ν hp => ?_) (fun i ν hp => nrm hp.1)
          obtain ⟨rfl, rfl, hN72, hb73⟩ := QEl hp
          show J _ _ _ _ 309 _ ([]) _ _ _ _
          refine J.goto (pc := 309) (tgt := 337) dX11_expression_309 (by decide) ?_
          refine J.goto (pc := 337) (tgt := 39) dX11_expression_337 (by decide) ?_
          exact hK39 v0 v3 μ71 h hN72 k0
        · refine J.zeq (pc := 287) (tgt := 295) dX11_expression_287 (by decide) (fun q => absurd q hc) (fun _ => ?_)
          refine J.bipush (pc := 290) dX11_expression_290 ib_10 ?_
          refine J.goto (pc := 292) (tgt := 297) dX11_expression_292 (by decide) ?_
          obtain ⟨μ75, e74, h⟩ := bnd h
          refine J.callV (Y := mX11_expression) (Z := mX11_waitsFor) (pc := 297) (st := []) (k2 := 0) (n2 := 0) dX11_expression_297 ml_RX11_199 mo_X11_waitsFor mv_X11_waitsFor rfl (tX11_waitsFor (d + 4) e74 hN60 k0) k0 (okN hN60 k0 (by decide)).1 (okN hN60 k0 (by decide)).2 cq_11 (by decide) rfl rfl (Nat.le_of_ble_eq_true rfl) (by decide) (by decide) (fun v ν hp => ?_) (fun i ν hp => nrm hp.1)
          obtain ⟨rfl, rfl, hN76, hb77⟩ := QEl hp
          show J _ _ _ _ 300 _ ([]) _ _ _ _
          refine J.aload_n (pc := 300) dX11_expression_300 rfl 0 rfl ?_
          obtain ⟨μ79, e78, h⟩ := bnd h
          refine J.callV (Y := mX11_expression) (Z := mX11_goes) (pc := 301) (st := []) (k2 := 0) (n2 := 0) dX11_expression_301 ml_RX11_162 mo_X11_goes mv_X11_goes rfl (tX11_goes (d + 3) e78 hN76 k0) k0 (okN hN76 k0 (by decide)).1 (okN hN76 k0 (by decide)).2 cq_11 (by decide) rfl rfl (Nat.le_of_ble_eq_true rfl) (by decide) (by decide) (fun v ν hp => ?_) (fun i ν hp => nrm hp.1)
          obtain ⟨rfl, rfl, hN80, hb81⟩ := QEl hp
          show J _ _ _ _ 304 _ ([]) _ _ _ _
          refine J.aload_n (pc := 304) dX11_expression_304 rfl 0 rfl ?_
          refine J.iconst (pc := 305) dX11_expression_305 ic_0 ?_
          obtain ⟨μ83, e82, h⟩ := bnd h
          refine J.callV (Y := mX11_expression) (Z := mX11_operand) (pc := 306) (st := []) (k2 := 0) (n2 := 0) dX11_expression_306 ml_RX11_211 mo_X11_operand mv_X11_operand rfl (tX11_operand d e82 hN80 k0) k0 (okN hN80 k0 (by decide)).1 (okN hN80 k0 (by decide)).2 cq_11 (by decide) rfl rfl (Nat.le_of_ble_eq_true rfl) (by decide) (by decide) (fun v ν hp => ?_) (fun i ν hp => nrm hp.1)
          obtain ⟨rfl, rfl, hN84, hb85⟩ := QEl hp
          show J _ _ _ _ 309 _ ([]) _ _ _ _
          refine J.goto (pc := 309) (tgt := 337) dX11_expression_309 (by decide) ?_
          refine J.goto (pc := 337) (tgt := 39) dX11_expression_337 (by decide) ?_
          exact hK39 v0 v3 μ83 h hN84 k0
    · refine J.zeq (pc := 216) (tgt := 256) dX11_expression_216 (by decide) (fun q => absurd q hc) (fun _ => ?_)
      refine J.aload_n (pc := 219) dX11_expression_219 rfl 0 rfl ?_
      refine J.iconst (pc := 220) dX11_expression_220 ic_5 ?_
      obtain ⟨μ87, e86, h⟩ := bnd h
      refine J.callV (Y := mX11_expression) (Z := mX11_drops) (pc := 221) (st := []) (k2 := 0) (n2 := 0) dX11_expression_221 ml_RX11_208 mo_X11_drops mv_X11_drops rfl (tX11_drops (d + 3) e86 hN5 k0) k0 (okN hN5 k0 (by decide)).1 (okN hN5 k0 (by decide)).2 cq_11 (by decide) rfl rfl (Nat.le_of_ble_eq_true rfl) (by decide) (by decide) (fun v ν hp => ?_) (fun i ν hp => nrm hp.1)
      obtain ⟨rfl, rfl, hN88, hb89⟩ := QEl hp
      show J _ _ _ _ 224 _ ([]) _ _ _ _
      refine J.aload_n (pc := 224) dX11_expression_224 rfl 0 rfl ?_
      refine J.aload_n (pc := 225) dX11_expression_225 rfl 0 rfl ?_
      refine J.bipush (pc := 226) dX11_expression_226 ib_43 ?_
      refine J.callV (Y := mX11_expression) (Z := mX11_isSign) (pc := 228) (st := [.ref v0]) (k2 := 0) (n2 := 0) dX11_expression_228 ml_RX11_196 mo_X11_isSign mv_X11_isSign rfl (tX11_isSign (d + 4) v0 (43 : Int32) μ87 hN88 k0) k0 (okN hN88 k0 (by decide)).1 (okN hN88 k0 (by decide)).2 cq_11 (by decide) rfl rfl (Nat.le_of_ble_eq_true rfl) (by decide) (by decide) (fun v ν hp => ?_) (fun i ν hp => nrm hp.1)
      obtain ⟨rfl, rfl, hN91, hb92⟩ := QEl hp
      show J _ _ _ _ 231 _ ([.int (fX11_isSign v0 (43 : Int32) μ87), .ref v0]) _ _ _ _
      rcases ifc h with ⟨hc, h⟩ | ⟨hc, h⟩
      · refine J.zeq (pc := 231) (tgt := 239) dX11_expression_231 (by decide) (fun _ => ?_) (fun q => absurd hc q)
        refine J.bipush (pc := 239) dX11_expression_239 ib_9 ?_
        obtain ⟨μ94, e93, h⟩ := bnd h
        refine J.callV (Y := mX11_expression) (Z := mX11_waitsFor) (pc := 241) (st := []) (k2 := 0) (n2 := 0) dX11_expression_241 ml_RX11_199 mo_X11_waitsFor mv_X11_waitsFor rfl (tX11_waitsFor (d + 4) e93 hN91 k0) k0 (okN hN91 k0 (by decide)).1 (okN hN91 k0 (by decide)).2 cq_11 (by decide) rfl rfl (Nat.le_of_ble_eq_true rfl) (by decide) (by decide) (fun v ν hp => ?_) (fun i ν hp => nrm hp.1)
        obtain ⟨rfl, rfl, hN95, hb96⟩ := QEl hp
        show J _ _ _ _ 244 _ ([]) _ _ _ _
        refine J.aload_n (pc := 244) dX11_expression_244 rfl 0 rfl ?_
        obtain ⟨μ98, e97, h⟩ := bnd h
        refine J.callV (Y := mX11_expression) (Z := mX11_goes) (pc := 245) (st := []) (k2 := 0) (n2 := 0) dX11_expression_245 ml_RX11_162 mo_X11_goes mv_X11_goes rfl (tX11_goes (d + 3) e97 hN95 k0) k0 (okN hN95 k0 (by decide)).1 (okN hN95 k0 (by decide)).2 cq_11 (by decide) rfl rfl (Nat.le_of_ble_eq_true rfl) (by decide) (by decide) (fun v ν hp => ?_) (fun i ν hp => nrm hp.1)
        obtain ⟨rfl, rfl, hN99, hb100⟩ := QEl hp
        show J _ _ _ _ 248 _ ([]) _ _ _ _
        refine J.aload_n (pc := 248) dX11_expression_248 rfl 0 rfl ?_
        refine J.iconst (pc := 249) dX11_expression_249 ic_0 ?_
        obtain ⟨μ102, e101, h⟩ := bnd h
        refine J.callV (Y := mX11_expression) (Z := mX11_operand) (pc := 250) (st := []) (k2 := 0) (n2 := 0) dX11_expression_250 ml_RX11_211 mo_X11_operand mv_X11_operand rfl (tX11_operand d e101 hN99 k0) k0 (okN hN99 k0 (by decide)).1 (okN hN99 k0 (by decide)).2 cq_11 (by decide) rfl rfl (Nat.le_of_ble_eq_true rfl) (by decide) (by decide) (fun v ν hp => ?_) (fun i ν hp => nrm hp.1)
        obtain ⟨rfl, rfl, hN103, hb104⟩ := QEl hp
        show J _ _ _ _ 253 _ ([]) _ _ _ _
        refine J.goto (pc := 253) (tgt := 337) dX11_expression_253 (by decide) ?_
        refine J.goto (pc := 337) (tgt := 39) dX11_expression_337 (by decide) ?_
        exact hK39 v0 v3 μ102 h hN103 k0
      · refine J.zeq (pc := 231) (tgt := 239) dX11_expression_231 (by decide) (fun q => absurd q hc) (fun _ => ?_)
        refine J.bipush (pc := 234) dX11_expression_234 ib_8 ?_
        refine J.goto (pc := 236) (tgt := 241) dX11_expression_236 (by decide) ?_
        obtain ⟨μ106, e105, h⟩ := bnd h
        refine J.callV (Y := mX11_expression) (Z := mX11_waitsFor) (pc := 241) (st := []) (k2 := 0) (n2 := 0) dX11_expression_241 ml_RX11_199 mo_X11_waitsFor mv_X11_waitsFor rfl (tX11_waitsFor (d + 4) e105 hN91 k0) k0 (okN hN91 k0 (by decide)).1 (okN hN91 k0 (by decide)).2 cq_11 (by decide) rfl rfl (Nat.le_of_ble_eq_true rfl) (by decide) (by decide) (fun v ν hp => ?_) (fun i ν hp => nrm hp.1)
        obtain ⟨rfl, rfl, hN107, hb108⟩ := QEl hp
        show J _ _ _ _ 244 _ ([]) _ _ _ _
        refine J.aload_n (pc := 244) dX11_expression_244 rfl 0 rfl ?_
        obtain ⟨μ110, e109, h⟩ := bnd h
        refine J.callV (Y := mX11_expression) (Z := mX11_goes) (pc := 245) (st := []) (k2 := 0) (n2 := 0) dX11_expression_245 ml_RX11_162 mo_X11_goes mv_X11_goes rfl (tX11_goes (d + 3) e109 hN107 k0) k0 (okN hN107 k0 (by decide)).1 (okN hN107 k0 (by decide)).2 cq_11 (by decide) rfl rfl (Nat.le_of_ble_eq_true rfl) (by decide) (by decide) (fun v ν hp => ?_) (fun i ν hp => nrm hp.1)
        obtain ⟨rfl, rfl, hN111, hb112⟩ := QEl hp
        show J _ _ _ _ 248 _ ([]) _ _ _ _
        refine J.aload_n (pc := 248) dX11_expression_248 rfl 0 rfl ?_
        refine J.iconst (pc := 249) dX11_expression_249 ic_0 ?_
        obtain ⟨μ114, e113, h⟩ := bnd h
        refine J.callV (Y := mX11_expression) (Z := mX11_operand) (pc := 250) (st := []) (k2 := 0) (n2 := 0) dX11_expression_250 ml_RX11_211 mo_X11_operand mv_X11_operand rfl (tX11_operand d e113 hN111 k0) k0 (okN hN111 k0 (by decide)).1 (okN hN111 k0 (by decide)).2 cq_11 (by decide) rfl rfl (Nat.le_of_ble_eq_true rfl) (by decide) (by decide) (fun v ν hp => ?_) (fun i ν hp => nrm hp.1)
        obtain ⟨rfl, rfl, hN115, hb116⟩ := QEl hp
        show J _ _ _ _ 253 _ ([]) _ _ _ _
        refine J.goto (pc := 253) (tgt := 337) dX11_expression_253 (by decide) ?_
        refine J.goto (pc := 337) (tgt := 39) dX11_expression_337 (by decide) ?_
        exact hK39 v0 v3 μ114 h hN115 k0
  · refine J.zne (pc := 207) (tgt := 219) dX11_expression_207 (by decide) (fun q => absurd q hc) (fun _ => ?_)
    refine J.aload_n (pc := 219) dX11_expression_219 rfl 0 rfl ?_
    refine J.iconst (pc := 220) dX11_expression_220 ic_5 ?_
    obtain ⟨μ118, e117, h⟩ := bnd h
    refine J.callV (Y := mX11_expression) (Z := mX11_drops) (pc := 221) (st := []) (k2 := 0) (n2 := 0) dX11_expression_221 ml_RX11_208 mo_X11_drops mv_X11_drops rfl (tX11_drops (d + 3) e117 hN2 k0) k0 (okN hN2 k0 (by decide)).1 (okN hN2 k0 (by decide)).2 cq_11 (by decide) rfl rfl (Nat.le_of_ble_eq_true rfl) (by decide) (by decide) (fun v ν hp => ?_) (fun i ν hp => nrm hp.1)
    obtain ⟨rfl, rfl, hN119, hb120⟩ := QEl hp
    show J _ _ _ _ 224 _ ([]) _ _ _ _
    refine J.aload_n (pc := 224) dX11_expression_224 rfl 0 rfl ?_
    refine J.aload_n (pc := 225) dX11_expression_225 rfl 0 rfl ?_
    refine J.bipush (pc := 226) dX11_expression_226 ib_43 ?_
    refine J.callV (Y := mX11_expression) (Z := mX11_isSign) (pc := 228) (st := [.ref v0]) (k2 := 0) (n2 := 0) dX11_expression_228 ml_RX11_196 mo_X11_isSign mv_X11_isSign rfl (tX11_isSign (d + 4) v0 (43 : Int32) μ118 hN119 k0) k0 (okN hN119 k0 (by decide)).1 (okN hN119 k0 (by decide)).2 cq_11 (by decide) rfl rfl (Nat.le_of_ble_eq_true rfl) (by decide) (by decide) (fun v ν hp => ?_) (fun i ν hp => nrm hp.1)
    obtain ⟨rfl, rfl, hN122, hb123⟩ := QEl hp
    show J _ _ _ _ 231 _ ([.int (fX11_isSign v0 (43 : Int32) μ118), .ref v0]) _ _ _ _
    rcases ifc h with ⟨hc, h⟩ | ⟨hc, h⟩
    · refine J.zeq (pc := 231) (tgt := 239) dX11_expression_231 (by decide) (fun _ => ?_) (fun q => absurd hc q)
      refine J.bipush (pc := 239) dX11_expression_239 ib_9 ?_
      obtain ⟨μ125, e124, h⟩ := bnd h
      refine J.callV (Y := mX11_expression) (Z := mX11_waitsFor) (pc := 241) (st := []) (k2 := 0) (n2 := 0) dX11_expression_241 ml_RX11_199 mo_X11_waitsFor mv_X11_waitsFor rfl (tX11_waitsFor (d + 4) e124 hN122 k0) k0 (okN hN122 k0 (by decide)).1 (okN hN122 k0 (by decide)).2 cq_11 (by decide) rfl rfl (Nat.le_of_ble_eq_true rfl) (by decide) (by decide) (fun v ν hp => ?_) (fun i ν hp => nrm hp.1)
      obtain ⟨rfl, rfl, hN126, hb127⟩ := QEl hp
      show J _ _ _ _ 244 _ ([]) _ _ _ _
      refine J.aload_n (pc := 244) dX11_expression_244 rfl 0 rfl ?_
      obtain ⟨μ129, e128, h⟩ := bnd h
      refine J.callV (Y := mX11_expression) (Z := mX11_goes) (pc := 245) (st := []) (k2 := 0) (n2 := 0) dX11_expression_245 ml_RX11_162 mo_X11_goes mv_X11_goes rfl (tX11_goes (d + 3) e128 hN126 k0) k0 (okN hN126 k0 (by decide)).1 (okN hN126 k0 (by decide)).2 cq_11 (by decide) rfl rfl (Nat.le_of_ble_eq_true rfl) (by decide) (by decide) (fun v ν hp => ?_) (fun i ν hp => nrm hp.1)
      obtain ⟨rfl, rfl, hN130, hb131⟩ := QEl hp
      show J _ _ _ _ 248 _ ([]) _ _ _ _
      refine J.aload_n (pc := 248) dX11_expression_248 rfl 0 rfl ?_
      refine J.iconst (pc := 249) dX11_expression_249 ic_0 ?_
      obtain ⟨μ133, e132, h⟩ := bnd h
      refine J.callV (Y := mX11_expression) (Z := mX11_operand) (pc := 250) (st := []) (k2 := 0) (n2 := 0) dX11_expression_250 ml_RX11_211 mo_X11_operand mv_X11_operand rfl (tX11_operand d e132 hN130 k0) k0 (okN hN130 k0 (by decide)).1 (okN hN130 k0 (by decide)).2 cq_11 (by decide) rfl rfl (Nat.le_of_ble_eq_true rfl) (by decide) (by decide) (fun v ν hp => ?_) (fun i ν hp => nrm hp.1)
      obtain ⟨rfl, rfl, hN134, hb135⟩ := QEl hp
      show J _ _ _ _ 253 _ ([]) _ _ _ _
      refine J.goto (pc := 253) (tgt := 337) dX11_expression_253 (by decide) ?_
      refine J.goto (pc := 337) (tgt := 39) dX11_expression_337 (by decide) ?_
      exact hK39 v0 v3 μ133 h hN134 k0
    · refine J.zeq (pc := 231) (tgt := 239) dX11_expression_231 (by decide) (fun q => absurd q hc) (fun _ => ?_)
      refine J.bipush (pc := 234) dX11_expression_234 ib_8 ?_
      refine J.goto (pc := 236) (tgt := 241) dX11_expression_236 (by decide) ?_
      obtain ⟨μ137, e136, h⟩ := bnd h
      refine J.callV (Y := mX11_expression) (Z := mX11_waitsFor) (pc := 241) (st := []) (k2 := 0) (n2 := 0) dX11_expression_241 ml_RX11_199 mo_X11_waitsFor mv_X11_waitsFor rfl (tX11_waitsFor (d + 4) e136 hN122 k0) k0 (okN hN122 k0 (by decide)).1 (okN hN122 k0 (by decide)).2 cq_11 (by decide) rfl rfl (Nat.le_of_ble_eq_true rfl) (by decide) (by decide) (fun v ν hp => ?_) (fun i ν hp => nrm hp.1)
      obtain ⟨rfl, rfl, hN138, hb139⟩ := QEl hp
      show J _ _ _ _ 244 _ ([]) _ _ _ _
      refine J.aload_n (pc := 244) dX11_expression_244 rfl 0 rfl ?_
      obtain ⟨μ141, e140, h⟩ := bnd h
      refine J.callV (Y := mX11_expression) (Z := mX11_goes) (pc := 245) (st := []) (k2 := 0) (n2 := 0) dX11_expression_245 ml_RX11_162 mo_X11_goes mv_X11_goes rfl (tX11_goes (d + 3) e140 hN138 k0) k0 (okN hN138 k0 (by decide)).1 (okN hN138 k0 (by decide)).2 cq_11 (by decide) rfl rfl (Nat.le_of_ble_eq_true rfl) (by decide) (by decide) (fun v ν hp => ?_) (fun i ν hp => nrm hp.1)
      obtain ⟨rfl, rfl, hN142, hb143⟩ := QEl hp
      show J _ _ _ _ 248 _ ([]) _ _ _ _
      refine J.aload_n (pc := 248) dX11_expression_248 rfl 0 rfl ?_
      refine J.iconst (pc := 249) dX11_expression_249 ic_0 ?_
      obtain ⟨μ145, e144, h⟩ := bnd h
      refine J.callV (Y := mX11_expression) (Z := mX11_operand) (pc := 250) (st := []) (k2 := 0) (n2 := 0) dX11_expression_250 ml_RX11_211 mo_X11_operand mv_X11_operand rfl (tX11_operand d e144 hN142 k0) k0 (okN hN142 k0 (by decide)).1 (okN hN142 k0 (by decide)).2 cq_11 (by decide) rfl rfl (Nat.le_of_ble_eq_true rfl) (by decide) (by decide) (fun v ν hp => ?_) (fun i ν hp => nrm hp.1)
      obtain ⟨rfl, rfl, hN146, hb147⟩ := QEl hp
      show J _ _ _ _ 253 _ ([]) _ _ _ _
      refine J.goto (pc := 253) (tgt := 337) dX11_expression_253 (by decide) ?_
      refine J.goto (pc := 337) (tgt := 39) dX11_expression_337 (by decide) ?_
      exact hK39 v0 v3 μ145 h hN146 k0
def fX11_expression_142  (K39 : Nat → Int32 → Mem → Option (Mem)) (K201 : Nat → Int32 → Mem → Option (Mem)) (v0 : Nat) (v3 : Int32) (μ : Mem) : Option (Mem) :=
  (gR μ v0 33 2).bind fun a1 =>
  (ldI μ a1 (μ.2.1 v0 28)).bind fun x4 =>
  if x4 = 0 then
    (fX11_drops v0 (4 : Int32) μ).bind fun μ7 =>
    if (fX11_isSign v0 (60 : Int32) μ7) = 0 then
      (fX11_waitsFor v0 (7 : Int32) μ7).bind fun μ14 =>
      (gR μ14 v0 33 2).bind fun a17 =>
      (stI μ14 a17 (μ14.2.1 v0 28) (1 : Int32)).bind fun μ20 =>
      (fX11_goes v0 μ20).bind fun μ24 =>
      (fX11_operand v0 (0 : Int32) μ24).bind fun μ28 =>
      K39 v0 v3 μ28
    else
      (fX11_waitsFor v0 (6 : Int32) μ7).bind fun μ32 =>
      (gR μ32 v0 33 2).bind fun a35 =>
      (stI μ32 a35 (μ32.2.1 v0 28) (1 : Int32)).bind fun μ38 =>
      (fX11_goes v0 μ38).bind fun μ42 =>
      (fX11_operand v0 (0 : Int32) μ42).bind fun μ46 =>
      K39 v0 v3 μ46
  else
    K201 v0 v3 μ
set_option maxHeartbeats 4000000 in
theorem tX11_expression_142 {ω : Wd} {l : Launch} (d : Nat) {res : Mem} (K39 : Nat → Int32 → Mem → Option (Mem)) (K201 : Nat → Int32 → Mem → Option (Mem)) (hK39 : ∀ (v0 : Nat) (v3 : Int32) (μ : Mem), K39 v0 v3 μ = some res → μ.1 = NN → (kd v0).1 = 21 → J ω l mX11_expression (d + 5) 39 [(0, .ref v0), (3, .int v3)] [] μ 0 0 (PE (.inl none) res True)) (hK201 : ∀ (v0 : Nat) (v3 : Int32) (μ : Mem), K201 v0 v3 μ = some res → μ.1 = NN → (kd v0).1 = 21 → J ω l mX11_expression (d + 5) 201 [(0, .ref v0), (3, .int v3)] [] μ 0 0 (PE (.inl none) res True)) : ∀ (v0 : Nat) (v3 : Int32) (μ : Mem), fX11_expression_142 K39 K201 v0 v3 μ = some res → μ.1 = NN → (kd v0).1 = 21 → J ω l mX11_expression (d + 5) 142 [(0, .ref v0), (3, .int v3)] [] μ 0 0 (PE (.inl none) res True) := by
  intro v0 v3 μ h hN k0
  unfold fX11_expression_142 at h
  refine J.aload_n (pc := 142) dX11_expression_142 rfl 0 rfl ?_
  obtain ⟨a1, e2, h⟩ := bnd h
  have k3 : (kd a1).1 = 2 := gR_k e2
  refine J.fR (pc := 143) dX11_expression_143 fl_RX11_44 k0 (okN hN k0 (by decide)) rfl e2 ?_
  refine J.aload_n (pc := 146) dX11_expression_146 rfl 0 rfl ?_
  refine J.fI (pc := 147) dX11_expression_147 fl_RX11_193 k0 (okN hN k0 (by decide)) (Or.inl rfl) ?_
  obtain ⟨x4, e5, h⟩ := bnd h
  refine J.aZ (pc := 150) dX11_expression_150 k3 (okN hN k3 (by decide)) e5 ?_
  rcases ifc h with ⟨hc, h⟩ | ⟨hc, h⟩
  · refine J.zne (pc := 151) (tgt := 201) dX11_expression_151 (by decide) (fun _ => ?_) (fun q => absurd hc q)
    refine J.aload_n (pc := 154) dX11_expression_154 rfl 0 rfl ?_
    refine J.iconst (pc := 155) dX11_expression_155 ic_4 ?_
    obtain ⟨μ7, e6, h⟩ := bnd h
    refine J.callV (Y := mX11_expression) (Z := mX11_drops) (pc := 156) (st := []) (k2 := 0) (n2 := 0) dX11_expression_156 ml_RX11_208 mo_X11_drops mv_X11_drops rfl (tX11_drops (d + 3) e6 hN k0) k0 (okN hN k0 (by decide)).1 (okN hN k0 (by decide)).2 cq_11 (by decide) rfl rfl (Nat.le_of_ble_eq_true rfl) (by decide) (by decide) (fun v ν hp => ?_) (fun i ν hp => nrm hp.1)
    obtain ⟨rfl, rfl, hN8, hb9⟩ := QEl hp
    show J _ _ _ _ 159 _ ([]) _ _ _ _
    refine J.aload_n (pc := 159) dX11_expression_159 rfl 0 rfl ?_
    refine J.aload_n (pc := 160) dX11_expression_160 rfl 0 rfl ?_
    refine J.bipush (pc := 161) dX11_expression_161 ib_60 ?_
    refine J.callV (Y := mX11_expression) (Z := mX11_isSign) (pc := 163) (st := [.ref v0]) (k2 := 0) (n2 := 0) dX11_expression_163 ml_RX11_196 mo_X11_isSign mv_X11_isSign rfl (tX11_isSign (d + 4) v0 (60 : Int32) μ7 hN8 k0) k0 (okN hN8 k0 (by decide)).1 (okN hN8 k0 (by decide)).2 cq_11 (by decide) rfl rfl (Nat.le_of_ble_eq_true rfl) (by decide) (by decide) (fun v ν hp => ?_) (fun i ν hp => nrm hp.1)
    obtain ⟨rfl, rfl, hN11, hb12⟩ := QEl hp
    show J _ _ _ _ 166 _ ([.int (fX11_isSign v0 (60 : Int32) μ7), .ref v0]) _ _ _ _
    rcases ifc h with ⟨hc, h⟩ | ⟨hc, h⟩
    · refine J.zeq (pc := 166) (tgt := 174) dX11_expression_166 (by decide) (fun _ => ?_) (fun q => absurd hc q)
      refine J.bipush (pc := 174) dX11_expression_174 ib_7 ?_
      obtain ⟨μ14, e13, h⟩ := bnd h
      refine J.callV (Y := mX11_expression) (Z := mX11_waitsFor) (pc := 176) (st := []) (k2 := 0) (n2 := 0) dX11_expression_176 ml_RX11_199 mo_X11_waitsFor mv_X11_waitsFor rfl (tX11_waitsFor (d + 4) e13 hN11 k0) k0 (okN hN11 k0 (by decide)).1 (okN hN11 k0 (by decide)).2 cq_11 (by decide) rfl rfl (Nat.le_of_ble_eq_true rfl) (by decide) (by decide) (fun v ν hp => ?_) (fun i ν hp => nrm hp.1)
      obtain ⟨rfl, rfl, hN15, hb16⟩ := QEl hp
      show J _ _ _ _ 179 _ ([]) _ _ _ _
      refine J.aload_n (pc := 179) dX11_expression_179 rfl 0 rfl ?_
      obtain ⟨a17, e18, h⟩ := bnd h
      have k19 : (kd a17).1 = 2 := gR_k e18
      refine J.fR (pc := 180) dX11_expression_180 fl_RX11_44 k0 (okN hN15 k0 (by decide)) rfl e18 ?_
      refine J.aload_n (pc := 183) dX11_expression_183 rfl 0 rfl ?_
      refine J.fI (pc := 184) dX11_expression_184 fl_RX11_193 k0 (okN hN15 k0 (by decide)) (Or.inl rfl) ?_
      refine J.iconst (pc := 187) dX11_expression_187 ic_1 ?_
      obtain ⟨μ20, e21, h⟩ := bnd h
      have hN22 : μ20.1 = NN := stI_N e21 hN15
      refine J.wZ (pc := 188) dX11_expression_188 k19 (okN hN15 k19 (by decide)) (Or.inr rfl) e21 ?_
      refine J.aload_n (pc := 189) dX11_expression_189 rfl 0 rfl ?_
      obtain ⟨μ24, e23, h⟩ := bnd h
      refine J.callV (Y := mX11_expression) (Z := mX11_goes) (pc := 190) (st := []) (k2 := 0) (n2 := 0) dX11_expression_190 ml_RX11_162 mo_X11_goes mv_X11_goes rfl (tX11_goes (d + 3) e23 hN22 k0) k0 (okN hN22 k0 (by decide)).1 (okN hN22 k0 (by decide)).2 cq_11 (by decide) rfl rfl (Nat.le_of_ble_eq_true rfl) (by decide) (by decide) (fun v ν hp => ?_) (fun i ν hp => nrm hp.1)
      obtain ⟨rfl, rfl, hN25, hb26⟩ := QEl hp
      show J _ _ _ _ 193 _ ([]) _ _ _ _
      refine J.aload_n (pc := 193) dX11_expression_193 rfl 0 rfl ?_
      refine J.iconst (pc := 194) dX11_expression_194 ic_0 ?_
      obtain ⟨μ28, e27, h⟩ := bnd h
      refine J.callV (Y := mX11_expression) (Z := mX11_operand) (pc := 195) (st := []) (k2 := 0) (n2 := 0) dX11_expression_195 ml_RX11_211 mo_X11_operand mv_X11_operand rfl (tX11_operand d e27 hN25 k0) k0 (okN hN25 k0 (by decide)).1 (okN hN25 k0 (by decide)).2 cq_11 (by decide) rfl rfl (Nat.le_of_ble_eq_true rfl) (by decide) (by decide) (fun v ν hp => ?_) (fun i ν hp => nrm hp.1)
      obtain ⟨rfl, rfl, hN29, hb30⟩ := QEl hp
      show J _ _ _ _ 198 _ ([]) _ _ _ _
      refine J.goto (pc := 198) (tgt := 337) dX11_expression_198 (by decide) ?_
      refine J.goto (pc := 337) (tgt := 39) dX11_expression_337 (by decide) ?_
      exact hK39 v0 v3 μ28 h hN29 k0
    · refine J.zeq (pc := 166) (tgt := 174) dX11_expression_166 (by decide) (fun q => absurd q hc) (fun _ => ?_)
      refine J.bipush (pc := 169) dX11_expression_169 ib_6 ?_
      refine J.goto (pc := 171) (tgt := 176) dX11_expression_171 (by decide) ?_
      obtain ⟨μ32, e31, h⟩ := bnd h
      refine J.callV (Y := mX11_expression) (Z := mX11_waitsFor) (pc := 176) (st := []) (k2 := 0) (n2 := 0) dX11_expression_176 ml_RX11_199 mo_X11_waitsFor mv_X11_waitsFor rfl (tX11_waitsFor (d + 4) e31 hN11 k0) k0 (okN hN11 k0 (by decide)).1 (okN hN11 k0 (by decide)).2 cq_11 (by decide) rfl rfl (Nat.le_of_ble_eq_true rfl) (by decide) (by decide) (fun v ν hp => ?_) (fun i ν hp => nrm hp.1)
      obtain ⟨rfl, rfl, hN33, hb34⟩ := QEl hp
      show J _ _ _ _ 179 _ ([]) _ _ _ _
      refine J.aload_n (pc := 179) dX11_expression_179 rfl 0 rfl ?_
      obtain ⟨a35, e36, h⟩ := bnd h
      have k37 : (kd a35).1 = 2 := gR_k e36
      refine J.fR (pc := 180) dX11_expression_180 fl_RX11_44 k0 (okN hN33 k0 (by decide)) rfl e36 ?_
      refine J.aload_n (pc := 183) dX11_expression_183 rfl 0 rfl ?_
      refine J.fI (pc := 184) dX11_expression_184 fl_RX11_193 k0 (okN hN33 k0 (by decide)) (Or.inl rfl) ?_
      refine J.iconst (pc := 187) dX11_expression_187 ic_1 ?_
      obtain ⟨μ38, e39, h⟩ := bnd h
      have hN40 : μ38.1 = NN := stI_N e39 hN33
      refine J.wZ (pc := 188) dX11_expression_188 k37 (okN hN33 k37 (by decide)) (Or.inr rfl) e39 ?_
      refine J.aload_n (pc := 189) dX11_expression_189 rfl 0 rfl ?_
      obtain ⟨μ42, e41, h⟩ := bnd h
      refine J.callV (Y := mX11_expression) (Z := mX11_goes) (pc := 190) (st := []) (k2 := 0) (n2 := 0) dX11_expression_190 ml_RX11_162 mo_X11_goes mv_X11_goes rfl (tX11_goes (d + 3) e41 hN40 k0) k0 (okN hN40 k0 (by decide)).1 (okN hN40 k0 (by decide)).2 cq_11 (by decide) rfl rfl (Nat.le_of_ble_eq_true rfl) (by decide) (by decide) (fun v ν hp => ?_) (fun i ν hp => nrm hp.1)
      obtain ⟨rfl, rfl, hN43, hb44⟩ := QEl hp
      show J _ _ _ _ 193 _ ([]) _ _ _ _
      refine J.aload_n (pc := 193) dX11_expression_193 rfl 0 rfl ?_
      refine J.iconst (pc := 194) dX11_expression_194 ic_0 ?_
      obtain ⟨μ46, e45, h⟩ := bnd h
      refine J.callV (Y := mX11_expression) (Z := mX11_operand) (pc := 195) (st := []) (k2 := 0) (n2 := 0) dX11_expression_195 ml_RX11_211 mo_X11_operand mv_X11_operand rfl (tX11_operand d e45 hN43 k0) k0 (okN hN43 k0 (by decide)).1 (okN hN43 k0 (by decide)).2 cq_11 (by decide) rfl rfl (Nat.le_of_ble_eq_true rfl) (by decide) (by decide) (fun v ν hp => ?_) (fun i ν hp => nrm hp.1)
      obtain ⟨rfl, rfl, hN47, hb48⟩ := QEl hp
      show J _ _ _ _ 198 _ ([]) _ _ _ _
      refine J.goto (pc := 198) (tgt := 337) dX11_expression_198 (by decide) ?_
      refine J.goto (pc := 337) (tgt := 39) dX11_expression_337 (by decide) ?_
      exact hK39 v0 v3 μ46 h hN47 k0
  · refine J.zne (pc := 151) (tgt := 201) dX11_expression_151 (by decide) (fun q => absurd q hc) (fun _ => ?_)
    exact hK201 v0 v3 μ h hN k0
def fX11_expression_39  : Nat → Nat → Int32 → Mem → Option (Mem)
  | 0, _, _, _ => none
  | n + 1, v0, v3, μ =>
    if v3 = 0 then
      if (fX11_isGood v0 μ) = 0 then
        (fX11_drops v0 (0 : Int32) μ).bind fun μ5 =>
        (fX11_puts v0 (0 : Int32) μ5).bind fun μ9 =>
        some μ9
      else
        if (1 : Int32) < (μ.2.1 v0 28) then
          (fX11_wrong v0 (1 : Int32) μ).bind fun μ13 =>
          (fX11_drops v0 (0 : Int32) μ13).bind fun μ17 =>
          (fX11_puts v0 (0 : Int32) μ17).bind fun μ21 =>
          some μ21
        else
          (fX11_drops v0 (0 : Int32) μ).bind fun μ25 =>
          (fX11_puts v0 (0 : Int32) μ25).bind fun μ29 =>
          some μ29
    else
      if (fX11_isGood v0 μ) = 0 then
        if (fX11_isGood v0 μ) = 0 then
          (fX11_drops v0 (0 : Int32) μ).bind fun μ39 =>
          (fX11_puts v0 (0 : Int32) μ39).bind fun μ43 =>
          some μ43
        else
          if (1 : Int32) < (μ.2.1 v0 28) then
            (fX11_wrong v0 (1 : Int32) μ).bind fun μ47 =>
            (fX11_drops v0 (0 : Int32) μ47).bind fun μ51 =>
            (fX11_puts v0 (0 : Int32) μ51).bind fun μ55 =>
            some μ55
          else
            (fX11_drops v0 (0 : Int32) μ).bind fun μ59 =>
            (fX11_puts v0 (0 : Int32) μ59).bind fun μ63 =>
            some μ63
      else
        (fX11_knownWord v0 μ).bind fun r67 =>
        if r67 = (14 : Int32) then
          if r67 = (14 : Int32) then
            (fX11_drops v0 (2 : Int32) μ).bind fun μ71 =>
            if r67 = (14 : Int32) then
              (fX11_waitsFor v0 (4 : Int32) μ71).bind fun μ75 =>
              (gR μ75 v0 33 2).bind fun a78 =>
              (stI μ75 a78 (μ75.2.1 v0 28) (0 : Int32)).bind fun μ81 =>
              (fX11_goes v0 μ81).bind fun μ85 =>
              (fX11_operand v0 (1 : Int32) μ85).bind fun μ89 =>
              (fX11_expression_39 n) v0 v3 μ89
            else
              (fX11_waitsFor v0 (5 : Int32) μ71).bind fun μ93 =>
              (gR μ93 v0 33 2).bind fun a96 =>
              (stI μ93 a96 (μ93.2.1 v0 28) (0 : Int32)).bind fun μ99 =>
              (fX11_goes v0 μ99).bind fun μ103 =>
              (fX11_operand v0 (1 : Int32) μ103).bind fun μ107 =>
              (fX11_expression_39 n) v0 v3 μ107
          else
            (fX11_drops v0 (1 : Int32) μ).bind fun μ111 =>
            if r67 = (14 : Int32) then
              (fX11_waitsFor v0 (4 : Int32) μ111).bind fun μ115 =>
              (gR μ115 v0 33 2).bind fun a118 =>
              (stI μ115 a118 (μ115.2.1 v0 28) (0 : Int32)).bind fun μ121 =>
              (fX11_goes v0 μ121).bind fun μ125 =>
              (fX11_operand v0 (1 : Int32) μ125).bind fun μ129 =>
              (fX11_expression_39 n) v0 v3 μ129
            else
              (fX11_waitsFor v0 (5 : Int32) μ111).bind fun μ133 =>
              (gR μ133 v0 33 2).bind fun a136 =>
              (stI μ133 a136 (μ133.2.1 v0 28) (0 : Int32)).bind fun μ139 =>
              (fX11_goes v0 μ139).bind fun μ143 =>
              (fX11_operand v0 (1 : Int32) μ143).bind fun μ147 =>
              (fX11_expression_39 n) v0 v3 μ147
        else
          if r67 = (15 : Int32) then
            if r67 = (14 : Int32) then
              (fX11_drops v0 (2 : Int32) μ).bind fun μ151 =>
              if r67 = (14 : Int32) then
                (fX11_waitsFor v0 (4 : Int32) μ151).bind fun μ155 =>
                (gR μ155 v0 33 2).bind fun a158 =>
                (stI μ155 a158 (μ155.2.1 v0 28) (0 : Int32)).bind fun μ161 =>
                (fX11_goes v0 μ161).bind fun μ165 =>
                (fX11_operand v0 (1 : Int32) μ165).bind fun μ169 =>
                (fX11_expression_39 n) v0 v3 μ169
              else
                (fX11_waitsFor v0 (5 : Int32) μ151).bind fun μ173 =>
                (gR μ173 v0 33 2).bind fun a176 =>
                (stI μ173 a176 (μ173.2.1 v0 28) (0 : Int32)).bind fun μ179 =>
                (fX11_goes v0 μ179).bind fun μ183 =>
                (fX11_operand v0 (1 : Int32) μ183).bind fun μ187 =>
                (fX11_expression_39 n) v0 v3 μ187
            else
              (fX11_drops v0 (1 : Int32) μ).bind fun μ191 =>
              if r67 = (14 : Int32) then
                (fX11_waitsFor v0 (4 : Int32) μ191).bind fun μ195 =>
                (gR μ195 v0 33 2).bind fun a198 =>
                (stI μ195 a198 (μ195.2.1 v0 28) (0 : Int32)).bind fun μ201 =>
                (fX11_goes v0 μ201).bind fun μ205 =>
                (fX11_operand v0 (1 : Int32) μ205).bind fun μ209 =>
                (fX11_expression_39 n) v0 v3 μ209
              else
                (fX11_waitsFor v0 (5 : Int32) μ191).bind fun μ213 =>
                (gR μ213 v0 33 2).bind fun a216 =>
                (stI μ213 a216 (μ213.2.1 v0 28) (0 : Int32)).bind fun μ219 =>
                (fX11_goes v0 μ219).bind fun μ223 =>
                (fX11_operand v0 (1 : Int32) μ223).bind fun μ227 =>
                (fX11_expression_39 n) v0 v3 μ227
          else
            if (fX11_isSign v0 (60 : Int32) μ) = 0 then
              if (fX11_isSign v0 (61 : Int32) μ) = 0 then
                (fX11_expression_201 (fX11_expression_39 n)) v0 v3 μ
              else
                (fX11_expression_142 (fX11_expression_39 n) (fX11_expression_201 (fX11_expression_39 n))) v0 v3 μ
            else
              (fX11_expression_142 (fX11_expression_39 n) (fX11_expression_201 (fX11_expression_39 n))) v0 v3 μ
set_option maxHeartbeats 4000000 in
theorem tX11_expression_39 {ω : Wd} {l : Launch} (d : Nat) {res : Mem} : ∀ n : Nat, ∀ (v0 : Nat) (v3 : Int32) (μ : Mem), fX11_expression_39 n v0 v3 μ = some res → μ.1 = NN → (kd v0).1 = 21 → J ω l mX11_expression (d + 5) 39 [(0, .ref v0), (3, .int v3)] [] μ 0 0 (PE (.inl none) res True) := by
  intro n
  induction n with
  | zero =>
    intro v0 v3 μ h hN k0
    have h9 : (none : Option (Mem)) = some res := h
    cases h9
  | succ n ih =>
    intro v0 v3 μ h hN k0
    unfold fX11_expression_39 at h
    refine J.iload_n (pc := 39) dX11_expression_39 rfl 1 rfl ?_
    rcases ifc h with ⟨hc, h⟩ | ⟨hc, h⟩
    · refine J.zeq (pc := 40) (tgt := 340) dX11_expression_40 (by decide) (fun _ => ?_) (fun q => absurd hc q)
      refine J.aload_n (pc := 340) dX11_expression_340 rfl 0 rfl ?_
      refine J.callV (Y := mX11_expression) (Z := mX11_isGood) (pc := 341) (st := []) (k2 := 0) (n2 := 0) dX11_expression_341 ml_RX11_158 mo_X11_isGood mv_X11_isGood rfl (tX11_isGood (d + 4) v0 μ hN k0) k0 (okN hN k0 (by decide)).1 (okN hN k0 (by decide)).2 cq_11 (by decide) rfl rfl (Nat.le_of_ble_eq_true rfl) (by decide) (by decide) (fun v ν hp => ?_) (fun i ν hp => nrm hp.1)
      obtain ⟨rfl, rfl, hN2, hb3⟩ := QEl hp
      show J _ _ _ _ 344 _ ([.int (fX11_isGood v0 μ)]) _ _ _ _
      rcases ifc h with ⟨hc, h⟩ | ⟨hc, h⟩
      · refine J.zeq (pc := 344) (tgt := 360) dX11_expression_344 (by decide) (fun _ => ?_) (fun q => absurd hc q)
        refine J.aload_n (pc := 360) dX11_expression_360 rfl 0 rfl ?_
        refine J.iconst (pc := 361) dX11_expression_361 ic_0 ?_
        obtain ⟨μ5, e4, h⟩ := bnd h
        refine J.callV (Y := mX11_expression) (Z := mX11_drops) (pc := 362) (st := []) (k2 := 0) (n2 := 0) dX11_expression_362 ml_RX11_208 mo_X11_drops mv_X11_drops rfl (tX11_drops (d + 3) e4 hN2 k0) k0 (okN hN2 k0 (by decide)).1 (okN hN2 k0 (by decide)).2 cq_11 (by decide) rfl rfl (Nat.le_of_ble_eq_true rfl) (by decide) (by decide) (fun v ν hp => ?_) (fun i ν hp => nrm hp.1)
        obtain ⟨rfl, rfl, hN6, hb7⟩ := QEl hp
        show J _ _ _ _ 365 _ ([]) _ _ _ _
        refine J.aload_n (pc := 365) dX11_expression_365 rfl 0 rfl ?_
        refine J.iconst (pc := 366) dX11_expression_366 ic_0 ?_
        obtain ⟨μ9, e8, h⟩ := bnd h
        refine J.callV (Y := mX11_expression) (Z := mX11_puts) (pc := 367) (st := []) (k2 := 0) (n2 := 0) dX11_expression_367 ml_RX11_180 mo_X11_puts mv_X11_puts rfl (tX11_puts (d + 4) e8 hN6 k0) k0 (okN hN6 k0 (by decide)).1 (okN hN6 k0 (by decide)).2 cq_11 (by decide) rfl rfl (Nat.le_of_ble_eq_true rfl) (by decide) (by decide) (fun v ν hp => ?_) (fun i ν hp => nrm hp.1)
        obtain ⟨rfl, rfl, hN10, hb11⟩ := QEl hp
        show J _ _ _ _ 370 _ ([]) _ _ _ _
        cases h
        exact J.vret (pc := 370) dX11_expression_370 rfl ⟨rfl, rfl, hN10, trivial⟩
      · refine J.zeq (pc := 344) (tgt := 360) dX11_expression_344 (by decide) (fun q => absurd q hc) (fun _ => ?_)
        refine J.aload_n (pc := 347) dX11_expression_347 rfl 0 rfl ?_
        refine J.fI (pc := 348) dX11_expression_348 fl_RX11_193 k0 (okN hN2 k0 (by decide)) (Or.inl rfl) ?_
        refine J.iconst (pc := 351) dX11_expression_351 ic_1 ?_
        rcases ifc h with ⟨hc, h⟩ | ⟨hc, h⟩
        · refine J.cle (pc := 352) (tgt := 360) dX11_expression_352 (by decide) (fun _ => ?_) (fun q => absurd hc q)
          refine J.aload_n (pc := 355) dX11_expression_355 rfl 0 rfl ?_
          refine J.iconst (pc := 356) dX11_expression_356 ic_1 ?_
          obtain ⟨μ13, e12, h⟩ := bnd h
          refine J.callV (Y := mX11_expression) (Z := mX11_wrong) (pc := 357) (st := []) (k2 := 0) (n2 := 0) dX11_expression_357 ml_RX11_165 mo_X11_wrong mv_X11_wrong rfl (tX11_wrong (d + 4) e12 hN2 k0) k0 (okN hN2 k0 (by decide)).1 (okN hN2 k0 (by decide)).2 cq_11 (by decide) rfl rfl (Nat.le_of_ble_eq_true rfl) (by decide) (by decide) (fun v ν hp => ?_) (fun i ν hp => nrm hp.1)
          obtain ⟨rfl, rfl, hN14, hb15⟩ := QEl hp
          show J _ _ _ _ 360 _ ([]) _ _ _ _
          refine J.aload_n (pc := 360) dX11_expression_360 rfl 0 rfl ?_
          refine J.iconst (pc := 361) dX11_expression_361 ic_0 ?_
          obtain ⟨μ17, e16, h⟩ := bnd h
          refine J.callV (Y := mX11_expression) (Z := mX11_drops) (pc := 362) (st := []) (k2 := 0) (n2 := 0) dX11_expression_362 ml_RX11_208 mo_X11_drops mv_X11_drops rfl (tX11_drops (d + 3) e16 hN14 k0) k0 (okN hN14 k0 (by decide)).1 (okN hN14 k0 (by decide)).2 cq_11 (by decide) rfl rfl (Nat.le_of_ble_eq_true rfl) (by decide) (by decide) (fun v ν hp => ?_) (fun i ν hp => nrm hp.1)
          obtain ⟨rfl, rfl, hN18, hb19⟩ := QEl hp
          show J _ _ _ _ 365 _ ([]) _ _ _ _
          refine J.aload_n (pc := 365) dX11_expression_365 rfl 0 rfl ?_
          refine J.iconst (pc := 366) dX11_expression_366 ic_0 ?_
          obtain ⟨μ21, e20, h⟩ := bnd h
          refine J.callV (Y := mX11_expression) (Z := mX11_puts) (pc := 367) (st := []) (k2 := 0) (n2 := 0) dX11_expression_367 ml_RX11_180 mo_X11_puts mv_X11_puts rfl (tX11_puts (d + 4) e20 hN18 k0) k0 (okN hN18 k0 (by decide)).1 (okN hN18 k0 (by decide)).2 cq_11 (by decide) rfl rfl (Nat.le_of_ble_eq_true rfl) (by decide) (by decide) (fun v ν hp => ?_) (fun i ν hp => nrm hp.1)
          obtain ⟨rfl, rfl, hN22, hb23⟩ := QEl hp
          show J _ _ _ _ 370 _ ([]) _ _ _ _
          cases h
          exact J.vret (pc := 370) dX11_expression_370 rfl ⟨rfl, rfl, hN22, trivial⟩
        · refine J.cle (pc := 352) (tgt := 360) dX11_expression_352 (by decide) (fun q => absurd q hc) (fun _ => ?_)
          refine J.aload_n (pc := 360) dX11_expression_360 rfl 0 rfl ?_
          refine J.iconst (pc := 361) dX11_expression_361 ic_0 ?_
          obtain ⟨μ25, e24, h⟩ := bnd h
          refine J.callV (Y := mX11_expression) (Z := mX11_drops) (pc := 362) (st := []) (k2 := 0) (n2 := 0) dX11_expression_362 ml_RX11_208 mo_X11_drops mv_X11_drops rfl (tX11_drops (d + 3) e24 hN2 k0) k0 (okN hN2 k0 (by decide)).1 (okN hN2 k0 (by decide)).2 cq_11 (by decide) rfl rfl (Nat.le_of_ble_eq_true rfl) (by decide) (by decide) (fun v ν hp => ?_) (fun i ν hp => nrm hp.1)
          obtain ⟨rfl, rfl, hN26, hb27⟩ := QEl hp
          show J _ _ _ _ 365 _ ([]) _ _ _ _
          refine J.aload_n (pc := 365) dX11_expression_365 rfl 0 rfl ?_
          refine J.iconst (pc := 366) dX11_expression_366 ic_0 ?_
          obtain ⟨μ29, e28, h⟩ := bnd h
          refine J.callV (Y := mX11_expression) (Z := mX11_puts) (pc := 367) (st := []) (k2 := 0) (n2 := 0) dX11_expression_367 ml_RX11_180 mo_X11_puts mv_X11_puts rfl (tX11_puts (d + 4) e28 hN26 k0) k0 (okN hN26 k0 (by decide)).1 (okN hN26 k0 (by decide)).2 cq_11 (by decide) rfl rfl (Nat.le_of_ble_eq_true rfl) (by decide) (by decide) (fun v ν hp => ?_) (fun i ν hp => nrm hp.1)
          obtain ⟨rfl, rfl, hN30, hb31⟩ := QEl hp
          show J _ _ _ _ 370 _ ([]) _ _ _ _
          cases h
          exact J.vret (pc := 370) dX11_expression_370 rfl ⟨rfl, rfl, hN30, trivial⟩
    · refine J.zeq (pc := 40) (tgt := 340) dX11_expression_40 (by decide) (fun q => absurd q hc) (fun _ => ?_)
      refine J.aload_n (pc := 43) dX11_expression_43 rfl 0 rfl ?_
      refine J.callV (Y := mX11_expression) (Z := mX11_isGood) (pc := 44) (st := []) (k2 := 0) (n2 := 0) dX11_expression_44 ml_RX11_158 mo_X11_isGood mv_X11_isGood rfl (tX11_isGood (d + 4) v0 μ hN k0) k0 (okN hN k0 (by decide)).1 (okN hN k0 (by decide)).2 cq_11 (by decide) rfl rfl (Nat.le_of_ble_eq_true rfl) (by decide) (by decide) (fun v ν hp => ?_) (fun i ν hp => nrm hp.1)
      obtain ⟨rfl, rfl, hN33, hb34⟩ := QEl hp
      show J _ _ _ _ 47 _ ([.int (fX11_isGood v0 μ)]) _ _ _ _
      rcases ifc h with ⟨hc, h⟩ | ⟨hc, h⟩
      · refine J.zeq (pc := 47) (tgt := 340) dX11_expression_47 (by decide) (fun _ => ?_) (fun q => absurd hc q)
        refine J.aload_n (pc := 340) dX11_expression_340 rfl 0 rfl ?_
        refine J.callV (Y := mX11_expression) (Z := mX11_isGood) (pc := 341) (st := []) (k2 := 0) (n2 := 0) dX11_expression_341 ml_RX11_158 mo_X11_isGood mv_X11_isGood rfl (tX11_isGood (d + 4) v0 μ hN33 k0) k0 (okN hN33 k0 (by decide)).1 (okN hN33 k0 (by decide)).2 cq_11 (by decide) rfl rfl (Nat.le_of_ble_eq_true rfl) (by decide) (by decide) (fun v ν hp => ?_) (fun i ν hp => nrm hp.1)
        obtain ⟨rfl, rfl, hN36, hb37⟩ := QEl hp
        show J _ _ _ _ 344 _ ([.int (fX11_isGood v0 μ)]) _ _ _ _
        rcases ifc h with ⟨hc, h⟩ | ⟨hc, h⟩
        · refine J.zeq (pc := 344) (tgt := 360) dX11_expression_344 (by decide) (fun _ => ?_) (fun q => absurd hc q)
          refine J.aload_n (pc := 360) dX11_expression_360 rfl 0 rfl ?_
          refine J.iconst (pc := 361) dX11_expression_361 ic_0 ?_
          obtain ⟨μ39, e38, h⟩ := bnd h
          refine J.callV (Y := mX11_expression) (Z := mX11_drops) (pc := 362) (st := []) (k2 := 0) (n2 := 0) dX11_expression_362 ml_RX11_208 mo_X11_drops mv_X11_drops rfl (tX11_drops (d + 3) e38 hN36 k0) k0 (okN hN36 k0 (by decide)).1 (okN hN36 k0 (by decide)).2 cq_11 (by decide) rfl rfl (Nat.le_of_ble_eq_true rfl) (by decide) (by decide) (fun v ν hp => ?_) (fun i ν hp => nrm hp.1)
          obtain ⟨rfl, rfl, hN40, hb41⟩ := QEl hp
          show J _ _ _ _ 365 _ ([]) _ _ _ _
          refine J.aload_n (pc := 365) dX11_expression_365 rfl 0 rfl ?_
          refine J.iconst (pc := 366) dX11_expression_366 ic_0 ?_
          obtain ⟨μ43, e42, h⟩ := bnd h
          refine J.callV (Y := mX11_expression) (Z := mX11_puts) (pc := 367) (st := []) (k2 := 0) (n2 := 0) dX11_expression_367 ml_RX11_180 mo_X11_puts mv_X11_puts rfl (tX11_puts (d + 4) e42 hN40 k0) k0 (okN hN40 k0 (by decide)).1 (okN hN40 k0 (by decide)).2 cq_11 (by decide) rfl rfl (Nat.le_of_ble_eq_true rfl) (by decide) (by decide) (fun v ν hp => ?_) (fun i ν hp => nrm hp.1)
          obtain ⟨rfl, rfl, hN44, hb45⟩ := QEl hp
          show J _ _ _ _ 370 _ ([]) _ _ _ _
          cases h
          exact J.vret (pc := 370) dX11_expression_370 rfl ⟨rfl, rfl, hN44, trivial⟩
        · refine J.zeq (pc := 344) (tgt := 360) dX11_expression_344 (by decide) (fun q => absurd q hc) (fun _ => ?_)
          refine J.aload_n (pc := 347) dX11_expression_347 rfl 0 rfl ?_
          refine J.fI (pc := 348) dX11_expression_348 fl_RX11_193 k0 (okN hN36 k0 (by decide)) (Or.inl rfl) ?_
          refine J.iconst (pc := 351) dX11_expression_351 ic_1 ?_
          rcases ifc h with ⟨hc, h⟩ | ⟨hc, h⟩
          · refine J.cle (pc := 352) (tgt := 360) dX11_expression_352 (by decide) (fun _ => ?_) (fun q => absurd hc q)
            refine J.aload_n (pc := 355) dX11_expression_355 rfl 0 rfl ?_
            refine J.iconst (pc := 356) dX11_expression_356 ic_1 ?_
            obtain ⟨μ47, e46, h⟩ := bnd h
            refine J.callV (Y := mX11_expression) (Z := mX11_wrong) (pc := 357) (st := []) (k2 := 0) (n2 := 0) dX11_expression_357 ml_RX11_165 mo_X11_wrong mv_X11_wrong rfl (tX11_wrong (d + 4) e46 hN36 k0) k0 (okN hN36 k0 (by decide)).1 (okN hN36 k0 (by decide)).2 cq_11 (by decide) rfl rfl (Nat.le_of_ble_eq_true rfl) (by decide) (by decide) (fun v ν hp => ?_) (fun i ν hp => nrm hp.1)
            obtain ⟨rfl, rfl, hN48, hb49⟩ := QEl hp
            show J _ _ _ _ 360 _ ([]) _ _ _ _
            refine J.aload_n (pc := 360) dX11_expression_360 rfl 0 rfl ?_
            refine J.iconst (pc := 361) dX11_expression_361 ic_0 ?_
            obtain ⟨μ51, e50, h⟩ := bnd h
            refine J.callV (Y := mX11_expression) (Z := mX11_drops) (pc := 362) (st := []) (k2 := 0) (n2 := 0) dX11_expression_362 ml_RX11_208 mo_X11_drops mv_X11_drops rfl (tX11_drops (d + 3) e50 hN48 k0) k0 (okN hN48 k0 (by decide)).1 (okN hN48 k0 (by decide)).2 cq_11 (by decide) rfl rfl (Nat.le_of_ble_eq_true rfl) (by decide) (by decide) (fun v ν hp => ?_) (fun i ν hp => nrm hp.1)
            obtain ⟨rfl, rfl, hN52, hb53⟩ := QEl hp
            show J _ _ _ _ 365 _ ([]) _ _ _ _
            refine J.aload_n (pc := 365) dX11_expression_365 rfl 0 rfl ?_
            refine J.iconst (pc := 366) dX11_expression_366 ic_0 ?_
            obtain ⟨μ55, e54, h⟩ := bnd h
            refine J.callV (Y := mX11_expression) (Z := mX11_puts) (pc := 367) (st := []) (k2 := 0) (n2 := 0) dX11_expression_367 ml_RX11_180 mo_X11_puts mv_X11_puts rfl (tX11_puts (d + 4) e54 hN52 k0) k0 (okN hN52 k0 (by decide)).1 (okN hN52 k0 (by decide)).2 cq_11 (by decide) rfl rfl (Nat.le_of_ble_eq_true rfl) (by decide) (by decide) (fun v ν hp => ?_) (fun i ν hp => nrm hp.1)
            obtain ⟨rfl, rfl, hN56, hb57⟩ := QEl hp
            show J _ _ _ _ 370 _ ([]) _ _ _ _
            cases h
            exact J.vret (pc := 370) dX11_expression_370 rfl ⟨rfl, rfl, hN56, trivial⟩
          · refine J.cle (pc := 352) (tgt := 360) dX11_expression_352 (by decide) (fun q => absurd q hc) (fun _ => ?_)
            refine J.aload_n (pc := 360) dX11_expression_360 rfl 0 rfl ?_
            refine J.iconst (pc := 361) dX11_expression_361 ic_0 ?_
            obtain ⟨μ59, e58, h⟩ := bnd h
            refine J.callV (Y := mX11_expression) (Z := mX11_drops) (pc := 362) (st := []) (k2 := 0) (n2 := 0) dX11_expression_362 ml_RX11_208 mo_X11_drops mv_X11_drops rfl (tX11_drops (d + 3) e58 hN36 k0) k0 (okN hN36 k0 (by decide)).1 (okN hN36 k0 (by decide)).2 cq_11 (by decide) rfl rfl (Nat.le_of_ble_eq_true rfl) (by decide) (by decide) (fun v ν hp => ?_) (fun i ν hp => nrm hp.1)
            obtain ⟨rfl, rfl, hN60, hb61⟩ := QEl hp
            show J _ _ _ _ 365 _ ([]) _ _ _ _
            refine J.aload_n (pc := 365) dX11_expression_365 rfl 0 rfl ?_
            refine J.iconst (pc := 366) dX11_expression_366 ic_0 ?_
            obtain ⟨μ63, e62, h⟩ := bnd h
            refine J.callV (Y := mX11_expression) (Z := mX11_puts) (pc := 367) (st := []) (k2 := 0) (n2 := 0) dX11_expression_367 ml_RX11_180 mo_X11_puts mv_X11_puts rfl (tX11_puts (d + 4) e62 hN60 k0) k0 (okN hN60 k0 (by decide)).1 (okN hN60 k0 (by decide)).2 cq_11 (by decide) rfl rfl (Nat.le_of_ble_eq_true rfl) (by decide) (by decide) (fun v ν hp => ?_) (fun i ν hp => nrm hp.1)
            obtain ⟨rfl, rfl, hN64, hb65⟩ := QEl hp
            show J _ _ _ _ 370 _ ([]) _ _ _ _
            cases h
            exact J.vret (pc := 370) dX11_expression_370 rfl ⟨rfl, rfl, hN64, trivial⟩
      · refine J.zeq (pc := 47) (tgt := 340) dX11_expression_47 (by decide) (fun q => absurd q hc) (fun _ => ?_)
        refine J.aload_n (pc := 50) dX11_expression_50 rfl 0 rfl ?_
        obtain ⟨r67, e66, h⟩ := bnd h
        refine J.callV (Y := mX11_expression) (Z := mX11_knownWord) (pc := 51) (st := []) (k2 := 0) (n2 := 0) dX11_expression_51 ml_RX11_183 mo_X11_knownWord mv_X11_knownWord rfl (tX11_knownWord (d + 2) e66 hN33 k0) k0 (okN hN33 k0 (by decide)).1 (okN hN33 k0 (by decide)).2 cq_11 (by decide) rfl rfl (Nat.le_of_ble_eq_true rfl) (by decide) (by decide) (fun v ν hp => ?_) (fun i ν hp => nrm hp.1)
        obtain ⟨rfl, rfl, hN68, hb69⟩ := QEl hp
        show J _ _ _ _ 54 _ ([.int r67]) _ _ _ _
        refine J.istore (pc := 54) ([(4, .int r67), (0, .ref v0), (3, .int v3)]) dX11_expression_54 (Nat.le_of_ble_eq_true rfl) rfl ?_
        refine J.iload (pc := 56) dX11_expression_56 0 rfl ?_
        refine J.bipush (pc := 58) dX11_expression_58 ib_14 ?_
        rcases ifc h with ⟨hc, h⟩ | ⟨hc, h⟩
        · refine J.ceq (pc := 60) (tgt := 70) dX11_expression_60 (by decide) (fun _ => ?_) (fun q => absurd hc q)
          refine J.aload_n (pc := 70) dX11_expression_70 rfl 1 rfl ?_
          refine J.iload (pc := 71) dX11_expression_71 0 rfl ?_
          refine J.bipush (pc := 73) dX11_expression_73 ib_14 ?_
          rcases ifc h with ⟨hc, h⟩ | ⟨hc, h⟩
          · refine J.cne (pc := 75) (tgt := 82) dX11_expression_75 (by decide) (fun _ => ?_) (fun q => absurd hc q)
            refine J.iconst (pc := 78) dX11_expression_78 ic_2 ?_
            refine J.goto (pc := 79) (tgt := 83) dX11_expression_79 (by decide) ?_
            obtain ⟨μ71, e70, h⟩ := bnd h
            refine J.callV (Y := mX11_expression) (Z := mX11_drops) (pc := 83) (st := []) (k2 := 0) (n2 := 0) dX11_expression_83 ml_RX11_208 mo_X11_drops mv_X11_drops rfl (tX11_drops (d + 3) e70 hN68 k0) k0 (okN hN68 k0 (by decide)).1 (okN hN68 k0 (by decide)).2 cq_11 (by decide) rfl rfl (Nat.le_of_ble_eq_true rfl) (by decide) (by decide) (fun v ν hp => ?_) (fun i ν hp => nrm hp.1)
            obtain ⟨rfl, rfl, hN72, hb73⟩ := QEl hp
            show J _ _ _ _ 86 _ ([]) _ _ _ _
            refine J.aload_n (pc := 86) dX11_expression_86 rfl 1 rfl ?_
            refine J.iload (pc := 87) dX11_expression_87 0 rfl ?_
            refine J.bipush (pc := 89) dX11_expression_89 ib_14 ?_
            rcases ifc h with ⟨hc, h⟩ | ⟨hc, h⟩
            · refine J.cne (pc := 91) (tgt := 98) dX11_expression_91 (by decide) (fun _ => ?_) (fun q => absurd hc q)
              refine J.iconst (pc := 94) dX11_expression_94 ic_4 ?_
              refine J.goto (pc := 95) (tgt := 99) dX11_expression_95 (by decide) ?_
              obtain ⟨μ75, e74, h⟩ := bnd h
              refine J.callV (Y := mX11_expression) (Z := mX11_waitsFor) (pc := 99) (st := []) (k2 := 0) (n2 := 0) dX11_expression_99 ml_RX11_199 mo_X11_waitsFor mv_X11_waitsFor rfl (tX11_waitsFor (d + 4) e74 hN72 k0) k0 (okN hN72 k0 (by decide)).1 (okN hN72 k0 (by decide)).2 cq_11 (by decide) rfl rfl (Nat.le_of_ble_eq_true rfl) (by decide) (by decide) (fun v ν hp => ?_) (fun i ν hp => nrm hp.1)
              obtain ⟨rfl, rfl, hN76, hb77⟩ := QEl hp
              show J _ _ _ _ 102 _ ([]) _ _ _ _
              refine J.aload_n (pc := 102) dX11_expression_102 rfl 1 rfl ?_
              obtain ⟨a78, e79, h⟩ := bnd h
              have k80 : (kd a78).1 = 2 := gR_k e79
              refine J.fR (pc := 103) dX11_expression_103 fl_RX11_44 k0 (okN hN76 k0 (by decide)) rfl e79 ?_
              refine J.aload_n (pc := 106) dX11_expression_106 rfl 1 rfl ?_
              refine J.fI (pc := 107) dX11_expression_107 fl_RX11_193 k0 (okN hN76 k0 (by decide)) (Or.inl rfl) ?_
              refine J.iconst (pc := 110) dX11_expression_110 ic_0 ?_
              obtain ⟨μ81, e82, h⟩ := bnd h
              have hN83 : μ81.1 = NN := stI_N e82 hN76
              refine J.wZ (pc := 111) dX11_expression_111 k80 (okN hN76 k80 (by decide)) (Or.inl rfl) e82 ?_
              refine J.aload_n (pc := 112) dX11_expression_112 rfl 1 rfl ?_
              obtain ⟨μ85, e84, h⟩ := bnd h
              refine J.callV (Y := mX11_expression) (Z := mX11_goes) (pc := 113) (st := []) (k2 := 0) (n2 := 0) dX11_expression_113 ml_RX11_162 mo_X11_goes mv_X11_goes rfl (tX11_goes (d + 3) e84 hN83 k0) k0 (okN hN83 k0 (by decide)).1 (okN hN83 k0 (by decide)).2 cq_11 (by decide) rfl rfl (Nat.le_of_ble_eq_true rfl) (by decide) (by decide) (fun v ν hp => ?_) (fun i ν hp => nrm hp.1)
              obtain ⟨rfl, rfl, hN86, hb87⟩ := QEl hp
              show J _ _ _ _ 116 _ ([]) _ _ _ _
              refine J.aload_n (pc := 116) dX11_expression_116 rfl 1 rfl ?_
              refine J.iconst (pc := 117) dX11_expression_117 ic_1 ?_
              obtain ⟨μ89, e88, h⟩ := bnd h
              refine J.callV (Y := mX11_expression) (Z := mX11_operand) (pc := 118) (st := []) (k2 := 0) (n2 := 0) dX11_expression_118 ml_RX11_211 mo_X11_operand mv_X11_operand rfl (tX11_operand d e88 hN86 k0) k0 (okN hN86 k0 (by decide)).1 (okN hN86 k0 (by decide)).2 cq_11 (by decide) rfl rfl (Nat.le_of_ble_eq_true rfl) (by decide) (by decide) (fun v ν hp => ?_) (fun i ν hp => nrm hp.1)
              obtain ⟨rfl, rfl, hN90, hb91⟩ := QEl hp
              show J _ _ _ _ 121 _ ([]) _ _ _ _
              refine J.goto (pc := 121) (tgt := 337) dX11_expression_121 (by decide) ?_
              refine J.goto (pc := 337) (tgt := 39) dX11_expression_337 (by decide) ?_
              refine J.pick [1, 2] rfl ?_
              exact ih v0 v3 μ89 h hN90 k0
            · refine J.cne (pc := 91) (tgt := 98) dX11_expression_91 (by decide) (fun q => absurd q hc) (fun _ => ?_)
              refine J.iconst (pc := 98) dX11_expression_98 ic_5 ?_
              obtain ⟨μ93, e92, h⟩ := bnd h
              refine J.callV (Y := mX11_expression) (Z := mX11_waitsFor) (pc := 99) (st := []) (k2 := 0) (n2 := 0) dX11_expression_99 ml_RX11_199 mo_X11_waitsFor mv_X11_waitsFor rfl (tX11_waitsFor (d + 4) e92 hN72 k0) k0 (okN hN72 k0 (by decide)).1 (okN hN72 k0 (by decide)).2 cq_11 (by decide) rfl rfl (Nat.le_of_ble_eq_true rfl) (by decide) (by decide) (fun v ν hp => ?_) (fun i ν hp => nrm hp.1)
              obtain ⟨rfl, rfl, hN94, hb95⟩ := QEl hp
              show J _ _ _ _ 102 _ ([]) _ _ _ _
              refine J.aload_n (pc := 102) dX11_expression_102 rfl 1 rfl ?_
              obtain ⟨a96, e97, h⟩ := bnd h
              have k98 : (kd a96).1 = 2 := gR_k e97
              refine J.fR (pc := 103) dX11_expression_103 fl_RX11_44 k0 (okN hN94 k0 (by decide)) rfl e97 ?_
              refine J.aload_n (pc := 106) dX11_expression_106 rfl 1 rfl ?_
              refine J.fI (pc := 107) dX11_expression_107 fl_RX11_193 k0 (okN hN94 k0 (by decide)) (Or.inl rfl) ?_
              refine J.iconst (pc := 110) dX11_expression_110 ic_0 ?_
              obtain ⟨μ99, e100, h⟩ := bnd h
              have hN101 : μ99.1 = NN := stI_N e100 hN94
              refine J.wZ (pc := 111) dX11_expression_111 k98 (okN hN94 k98 (by decide)) (Or.inl rfl) e100 ?_
              refine J.aload_n (pc := 112) dX11_expression_112 rfl 1 rfl ?_
              obtain ⟨μ103, e102, h⟩ := bnd h
              refine J.callV (Y := mX11_expression) (Z := mX11_goes) (pc := 113) (st := []) (k2 := 0) (n2 := 0) dX11_expression_113 ml_RX11_162 mo_X11_goes mv_X11_goes rfl (tX11_goes (d + 3) e102 hN101 k0) k0 (okN hN101 k0 (by decide)).1 (okN hN101 k0 (by decide)).2 cq_11 (by decide) rfl rfl (Nat.le_of_ble_eq_true rfl) (by decide) (by decide) (fun v ν hp => ?_) (fun i ν hp => nrm hp.1)
              obtain ⟨rfl, rfl, hN104, hb105⟩ := QEl hp
              show J _ _ _ _ 116 _ ([]) _ _ _ _
              refine J.aload_n (pc := 116) dX11_expression_116 rfl 1 rfl ?_
              refine J.iconst (pc := 117) dX11_expression_117 ic_1 ?_
              obtain ⟨μ107, e106, h⟩ := bnd h
              refine J.callV (Y := mX11_expression) (Z := mX11_operand) (pc := 118) (st := []) (k2 := 0) (n2 := 0) dX11_expression_118 ml_RX11_211 mo_X11_operand mv_X11_operand rfl (tX11_operand d e106 hN104 k0) k0 (okN hN104 k0 (by decide)).1 (okN hN104 k0 (by decide)).2 cq_11 (by decide) rfl rfl (Nat.le_of_ble_eq_true rfl) (by decide) (by decide) (fun v ν hp => ?_) (fun i ν hp => nrm hp.1)
              obtain ⟨rfl, rfl, hN108, hb109⟩ := QEl hp
              show J _ _ _ _ 121 _ ([]) _ _ _ _
              refine J.goto (pc := 121) (tgt := 337) dX11_expression_121 (by decide) ?_
              refine J.goto (pc := 337) (tgt := 39) dX11_expression_337 (by decide) ?_
              refine J.pick [1, 2] rfl ?_
              exact ih v0 v3 μ107 h hN108 k0
          · refine J.cne (pc := 75) (tgt := 82) dX11_expression_75 (by decide) (fun q => absurd q hc) (fun _ => ?_)
            refine J.iconst (pc := 82) dX11_expression_82 ic_1 ?_
            obtain ⟨μ111, e110, h⟩ := bnd h
            refine J.callV (Y := mX11_expression) (Z := mX11_drops) (pc := 83) (st := []) (k2 := 0) (n2 := 0) dX11_expression_83 ml_RX11_208 mo_X11_drops mv_X11_drops rfl (tX11_drops (d + 3) e110 hN68 k0) k0 (okN hN68 k0 (by decide)).1 (okN hN68 k0 (by decide)).2 cq_11 (by decide) rfl rfl (Nat.le_of_ble_eq_true rfl) (by decide) (by decide) (fun v ν hp => ?_) (fun i ν hp => nrm hp.1)
            obtain ⟨rfl, rfl, hN112, hb113⟩ := QEl hp
            show J _ _ _ _ 86 _ ([]) _ _ _ _
            refine J.aload_n (pc := 86) dX11_expression_86 rfl 1 rfl ?_
            refine J.iload (pc := 87) dX11_expression_87 0 rfl ?_
            refine J.bipush (pc := 89) dX11_expression_89 ib_14 ?_
            rcases ifc h with ⟨hc, h⟩ | ⟨hc, h⟩
            · refine J.cne (pc := 91) (tgt := 98) dX11_expression_91 (by decide) (fun _ => ?_) (fun q => absurd hc q)
              refine J.iconst (pc := 94) dX11_expression_94 ic_4 ?_
              refine J.goto (pc := 95) (tgt := 99) dX11_expression_95 (by decide) ?_
              obtain ⟨μ115, e114, h⟩ := bnd h
              refine J.callV (Y := mX11_expression) (Z := mX11_waitsFor) (pc := 99) (st := []) (k2 := 0) (n2 := 0) dX11_expression_99 ml_RX11_199 mo_X11_waitsFor mv_X11_waitsFor rfl (tX11_waitsFor (d + 4) e114 hN112 k0) k0 (okN hN112 k0 (by decide)).1 (okN hN112 k0 (by decide)).2 cq_11 (by decide) rfl rfl (Nat.le_of_ble_eq_true rfl) (by decide) (by decide) (fun v ν hp => ?_) (fun i ν hp => nrm hp.1)
              obtain ⟨rfl, rfl, hN116, hb117⟩ := QEl hp
              show J _ _ _ _ 102 _ ([]) _ _ _ _
              refine J.aload_n (pc := 102) dX11_expression_102 rfl 1 rfl ?_
              obtain ⟨a118, e119, h⟩ := bnd h
              have k120 : (kd a118).1 = 2 := gR_k e119
              refine J.fR (pc := 103) dX11_expression_103 fl_RX11_44 k0 (okN hN116 k0 (by decide)) rfl e119 ?_
              refine J.aload_n (pc := 106) dX11_expression_106 rfl 1 rfl ?_
              refine J.fI (pc := 107) dX11_expression_107 fl_RX11_193 k0 (okN hN116 k0 (by decide)) (Or.inl rfl) ?_
              refine J.iconst (pc := 110) dX11_expression_110 ic_0 ?_
              obtain ⟨μ121, e122, h⟩ := bnd h
              have hN123 : μ121.1 = NN := stI_N e122 hN116
              refine J.wZ (pc := 111) dX11_expression_111 k120 (okN hN116 k120 (by decide)) (Or.inl rfl) e122 ?_
              refine J.aload_n (pc := 112) dX11_expression_112 rfl 1 rfl ?_
              obtain ⟨μ125, e124, h⟩ := bnd h
              refine J.callV (Y := mX11_expression) (Z := mX11_goes) (pc := 113) (st := []) (k2 := 0) (n2 := 0) dX11_expression_113 ml_RX11_162 mo_X11_goes mv_X11_goes rfl (tX11_goes (d + 3) e124 hN123 k0) k0 (okN hN123 k0 (by decide)).1 (okN hN123 k0 (by decide)).2 cq_11 (by decide) rfl rfl (Nat.le_of_ble_eq_true rfl) (by decide) (by decide) (fun v ν hp => ?_) (fun i ν hp => nrm hp.1)
              obtain ⟨rfl, rfl, hN126, hb127⟩ := QEl hp
              show J _ _ _ _ 116 _ ([]) _ _ _ _
              refine J.aload_n (pc := 116) dX11_expression_116 rfl 1 rfl ?_
              refine J.iconst (pc := 117) dX11_expression_117 ic_1 ?_
              obtain ⟨μ129, e128, h⟩ := bnd h
              refine J.callV (Y := mX11_expression) (Z := mX11_operand) (pc := 118) (st := []) (k2 := 0) (n2 := 0) dX11_expression_118 ml_RX11_211 mo_X11_operand mv_X11_operand rfl (tX11_operand d e128 hN126 k0) k0 (okN hN126 k0 (by decide)).1 (okN hN126 k0 (by decide)).2 cq_11 (by decide) rfl rfl (Nat.le_of_ble_eq_true rfl) (by decide) (by decide) (fun v ν hp => ?_) (fun i ν hp => nrm hp.1)
              obtain ⟨rfl, rfl, hN130, hb131⟩ := QEl hp
              show J _ _ _ _ 121 _ ([]) _ _ _ _
              refine J.goto (pc := 121) (tgt := 337) dX11_expression_121 (by decide) ?_
              refine J.goto (pc := 337) (tgt := 39) dX11_expression_337 (by decide) ?_
              refine J.pick [1, 2] rfl ?_
              exact ih v0 v3 μ129 h hN130 k0
            · refine J.cne (pc := 91) (tgt := 98) dX11_expression_91 (by decide) (fun q => absurd q hc) (fun _ => ?_)
              refine J.iconst (pc := 98) dX11_expression_98 ic_5 ?_
              obtain ⟨μ133, e132, h⟩ := bnd h
              refine J.callV (Y := mX11_expression) (Z := mX11_waitsFor) (pc := 99) (st := []) (k2 := 0) (n2 := 0) dX11_expression_99 ml_RX11_199 mo_X11_waitsFor mv_X11_waitsFor rfl (tX11_waitsFor (d + 4) e132 hN112 k0) k0 (okN hN112 k0 (by decide)).1 (okN hN112 k0 (by decide)).2 cq_11 (by decide) rfl rfl (Nat.le_of_ble_eq_true rfl) (by decide) (by decide) (fun v ν hp => ?_) (fun i ν hp => nrm hp.1)
              obtain ⟨rfl, rfl, hN134, hb135⟩ := QEl hp
              show J _ _ _ _ 102 _ ([]) _ _ _ _
              refine J.aload_n (pc := 102) dX11_expression_102 rfl 1 rfl ?_
              obtain ⟨a136, e137, h⟩ := bnd h
              have k138 : (kd a136).1 = 2 := gR_k e137
              refine J.fR (pc := 103) dX11_expression_103 fl_RX11_44 k0 (okN hN134 k0 (by decide)) rfl e137 ?_
              refine J.aload_n (pc := 106) dX11_expression_106 rfl 1 rfl ?_
              refine J.fI (pc := 107) dX11_expression_107 fl_RX11_193 k0 (okN hN134 k0 (by decide)) (Or.inl rfl) ?_
              refine J.iconst (pc := 110) dX11_expression_110 ic_0 ?_
              obtain ⟨μ139, e140, h⟩ := bnd h
              have hN141 : μ139.1 = NN := stI_N e140 hN134
              refine J.wZ (pc := 111) dX11_expression_111 k138 (okN hN134 k138 (by decide)) (Or.inl rfl) e140 ?_
              refine J.aload_n (pc := 112) dX11_expression_112 rfl 1 rfl ?_
              obtain ⟨μ143, e142, h⟩ := bnd h
              refine J.callV (Y := mX11_expression) (Z := mX11_goes) (pc := 113) (st := []) (k2 := 0) (n2 := 0) dX11_expression_113 ml_RX11_162 mo_X11_goes mv_X11_goes rfl (tX11_goes (d + 3) e142 hN141 k0) k0 (okN hN141 k0 (by decide)).1 (okN hN141 k0 (by decide)).2 cq_11 (by decide) rfl rfl (Nat.le_of_ble_eq_true rfl) (by decide) (by decide) (fun v ν hp => ?_) (fun i ν hp => nrm hp.1)
              obtain ⟨rfl, rfl, hN144, hb145⟩ := QEl hp
              show J _ _ _ _ 116 _ ([]) _ _ _ _
              refine J.aload_n (pc := 116) dX11_expression_116 rfl 1 rfl ?_
              refine J.iconst (pc := 117) dX11_expression_117 ic_1 ?_
              obtain ⟨μ147, e146, h⟩ := bnd h
              refine J.callV (Y := mX11_expression) (Z := mX11_operand) (pc := 118) (st := []) (k2 := 0) (n2 := 0) dX11_expression_118 ml_RX11_211 mo_X11_operand mv_X11_operand rfl (tX11_operand d e146 hN144 k0) k0 (okN hN144 k0 (by decide)).1 (okN hN144 k0 (by decide)).2 cq_11 (by decide) rfl rfl (Nat.le_of_ble_eq_true rfl) (by decide) (by decide) (fun v ν hp => ?_) (fun i ν hp => nrm hp.1)
              obtain ⟨rfl, rfl, hN148, hb149⟩ := QEl hp
              show J _ _ _ _ 121 _ ([]) _ _ _ _
              refine J.goto (pc := 121) (tgt := 337) dX11_expression_121 (by decide) ?_
              refine J.goto (pc := 337) (tgt := 39) dX11_expression_337 (by decide) ?_
              refine J.pick [1, 2] rfl ?_
              exact ih v0 v3 μ147 h hN148 k0
        · refine J.ceq (pc := 60) (tgt := 70) dX11_expression_60 (by decide) (fun q => absurd q hc) (fun _ => ?_)
          refine J.iload (pc := 63) dX11_expression_63 0 rfl ?_
          refine J.bipush (pc := 65) dX11_expression_65 ib_15 ?_
          rcases ifc h with ⟨hc, h⟩ | ⟨hc, h⟩
          · refine J.cne (pc := 67) (tgt := 124) dX11_expression_67 (by decide) (fun _ => ?_) (fun q => absurd hc q)
            refine J.aload_n (pc := 70) dX11_expression_70 rfl 1 rfl ?_
            refine J.iload (pc := 71) dX11_expression_71 0 rfl ?_
            refine J.bipush (pc := 73) dX11_expression_73 ib_14 ?_
            rcases ifc h with ⟨hc, h⟩ | ⟨hc, h⟩
            · refine J.cne (pc := 75) (tgt := 82) dX11_expression_75 (by decide) (fun _ => ?_) (fun q => absurd hc q)
              refine J.iconst (pc := 78) dX11_expression_78 ic_2 ?_
              refine J.goto (pc := 79) (tgt := 83) dX11_expression_79 (by decide) ?_
              obtain ⟨μ151, e150, h⟩ := bnd h
              refine J.callV (Y := mX11_expression) (Z := mX11_drops) (pc := 83) (st := []) (k2 := 0) (n2 := 0) dX11_expression_83 ml_RX11_208 mo_X11_drops mv_X11_drops rfl (tX11_drops (d + 3) e150 hN68 k0) k0 (okN hN68 k0 (by decide)).1 (okN hN68 k0 (by decide)).2 cq_11 (by decide) rfl rfl (Nat.le_of_ble_eq_true rfl) (by decide) (by decide) (fun v ν hp => ?_) (fun i ν hp => nrm hp.1)
              obtain ⟨rfl, rfl, hN152, hb153⟩ := QEl hp
              show J _ _ _ _ 86 _ ([]) _ _ _ _
              refine J.aload_n (pc := 86) dX11_expression_86 rfl 1 rfl ?_
              refine J.iload (pc := 87) dX11_expression_87 0 rfl ?_
              refine J.bipush (pc := 89) dX11_expression_89 ib_14 ?_
              rcases ifc h with ⟨hc, h⟩ | ⟨hc, h⟩
              · refine J.cne (pc := 91) (tgt := 98) dX11_expression_91 (by decide) (fun _ => ?_) (fun q => absurd hc q)
                refine J.iconst (pc := 94) dX11_expression_94 ic_4 ?_
                refine J.goto (pc := 95) (tgt := 99) dX11_expression_95 (by decide) ?_
                obtain ⟨μ155, e154, h⟩ := bnd h
                refine J.callV (Y := mX11_expression) (Z := mX11_waitsFor) (pc := 99) (st := []) (k2 := 0) (n2 := 0) dX11_expression_99 ml_RX11_199 mo_X11_waitsFor mv_X11_waitsFor rfl (tX11_waitsFor (d + 4) e154 hN152 k0) k0 (okN hN152 k0 (by decide)).1 (okN hN152 k0 (by decide)).2 cq_11 (by decide) rfl rfl (Nat.le_of_ble_eq_true rfl) (by decide) (by decide) (fun v ν hp => ?_) (fun i ν hp => nrm hp.1)
                obtain ⟨rfl, rfl, hN156, hb157⟩ := QEl hp
                show J _ _ _ _ 102 _ ([]) _ _ _ _
                refine J.aload_n (pc := 102) dX11_expression_102 rfl 1 rfl ?_
                obtain ⟨a158, e159, h⟩ := bnd h
                have k160 : (kd a158).1 = 2 := gR_k e159
                refine J.fR (pc := 103) dX11_expression_103 fl_RX11_44 k0 (okN hN156 k0 (by decide)) rfl e159 ?_
                refine J.aload_n (pc := 106) dX11_expression_106 rfl 1 rfl ?_
                refine J.fI (pc := 107) dX11_expression_107 fl_RX11_193 k0 (okN hN156 k0 (by decide)) (Or.inl rfl) ?_
                refine J.iconst (pc := 110) dX11_expression_110 ic_0 ?_
                obtain ⟨μ161, e162, h⟩ := bnd h
                have hN163 : μ161.1 = NN := stI_N e162 hN156
                refine J.wZ (pc := 111) dX11_expression_111 k160 (okN hN156 k160 (by decide)) (Or.inl rfl) e162 ?_
                refine J.aload_n (pc := 112) dX11_expression_112 rfl 1 rfl ?_
                obtain ⟨μ165, e164, h⟩ := bnd h
                refine J.callV (Y := mX11_expression) (Z := mX11_goes) (pc := 113) (st := []) (k2 := 0) (n2 := 0) dX11_expression_113 ml_RX11_162 mo_X11_goes mv_X11_goes rfl (tX11_goes (d + 3) e164 hN163 k0) k0 (okN hN163 k0 (by decide)).1 (okN hN163 k0 (by decide)).2 cq_11 (by decide) rfl rfl (Nat.le_of_ble_eq_true rfl) (by decide) (by decide) (fun v ν hp => ?_) (fun i ν hp => nrm hp.1)
                obtain ⟨rfl, rfl, hN166, hb167⟩ := QEl hp
                show J _ _ _ _ 116 _ ([]) _ _ _ _
                refine J.aload_n (pc := 116) dX11_expression_116 rfl 1 rfl ?_
                refine J.iconst (pc := 117) dX11_expression_117 ic_1 ?_
                obtain ⟨μ169, e168, h⟩ := bnd h
                refine J.callV (Y := mX11_expression) (Z := mX11_operand) (pc := 118) (st := []) (k2 := 0) (n2 := 0) dX11_expression_118 ml_RX11_211 mo_X11_operand mv_X11_operand rfl (tX11_operand d e168 hN166 k0) k0 (okN hN166 k0 (by decide)).1 (okN hN166 k0 (by decide)).2 cq_11 (by decide) rfl rfl (Nat.le_of_ble_eq_true rfl) (by decide) (by decide) (fun v ν hp => ?_) (fun i ν hp => nrm hp.1)
                obtain ⟨rfl, rfl, hN170, hb171⟩ := QEl hp
                show J _ _ _ _ 121 _ ([]) _ _ _ _
                refine J.goto (pc := 121) (tgt := 337) dX11_expression_121 (by decide) ?_
                refine J.goto (pc := 337) (tgt := 39) dX11_expression_337 (by decide) ?_
                refine J.pick [1, 2] rfl ?_
                exact ih v0 v3 μ169 h hN170 k0
              · refine J.cne (pc := 91) (tgt := 98) dX11_expression_91 (by decide) (fun q => absurd q hc) (fun _ => ?_)
                refine J.iconst (pc := 98) dX11_expression_98 ic_5 ?_
                obtain ⟨μ173, e172, h⟩ := bnd h
                refine J.callV (Y := mX11_expression) (Z := mX11_waitsFor) (pc := 99) (st := []) (k2 := 0) (n2 := 0) dX11_expression_99 ml_RX11_199 mo_X11_waitsFor mv_X11_waitsFor rfl (tX11_waitsFor (d + 4) e172 hN152 k0) k0 (okN hN152 k0 (by decide)).1 (okN hN152 k0 (by decide)).2 cq_11 (by decide) rfl rfl (Nat.le_of_ble_eq_true rfl) (by decide) (by decide) (fun v ν hp => ?_) (fun i ν hp => nrm hp.1)
                obtain ⟨rfl, rfl, hN174, hb175⟩ := QEl hp
                show J _ _ _ _ 102 _ ([]) _ _ _ _
                refine J.aload_n (pc := 102) dX11_expression_102 rfl 1 rfl ?_
                obtain ⟨a176, e177, h⟩ := bnd h
                have k178 : (kd a176).1 = 2 := gR_k e177
                refine J.fR (pc := 103) dX11_expression_103 fl_RX11_44 k0 (okN hN174 k0 (by decide)) rfl e177 ?_
                refine J.aload_n (pc := 106) dX11_expression_106 rfl 1 rfl ?_
                refine J.fI (pc := 107) dX11_expression_107 fl_RX11_193 k0 (okN hN174 k0 (by decide)) (Or.inl rfl) ?_
                refine J.iconst (pc := 110) dX11_expression_110 ic_0 ?_
                obtain ⟨μ179, e180, h⟩ := bnd h
                have hN181 : μ179.1 = NN := stI_N e180 hN174
                refine J.wZ (pc := 111) dX11_expression_111 k178 (okN hN174 k178 (by decide)) (Or.inl rfl) e180 ?_
                refine J.aload_n (pc := 112) dX11_expression_112 rfl 1 rfl ?_
                obtain ⟨μ183, e182, h⟩ := bnd h
                refine J.callV (Y := mX11_expression) (Z := mX11_goes) (pc := 113) (st := []) (k2 := 0) (n2 := 0) dX11_expression_113 ml_RX11_162 mo_X11_goes mv_X11_goes rfl (tX11_goes (d + 3) e182 hN181 k0) k0 (okN hN181 k0 (by decide)).1 (okN hN181 k0 (by decide)).2 cq_11 (by decide) rfl rfl (Nat.le_of_ble_eq_true rfl) (by decide) (by decide) (fun v ν hp => ?_) (fun i ν hp => nrm hp.1)
                obtain ⟨rfl, rfl, hN184, hb185⟩ := QEl hp
                show J _ _ _ _ 116 _ ([]) _ _ _ _
                refine J.aload_n (pc := 116) dX11_expression_116 rfl 1 rfl ?_
                refine J.iconst (pc := 117) dX11_expression_117 ic_1 ?_
                obtain ⟨μ187, e186, h⟩ := bnd h
                refine J.callV (Y := mX11_expression) (Z := mX11_operand) (pc := 118) (st := []) (k2 := 0) (n2 := 0) dX11_expression_118 ml_RX11_211 mo_X11_operand mv_X11_operand rfl (tX11_operand d e186 hN184 k0) k0 (okN hN184 k0 (by decide)).1 (okN hN184 k0 (by decide)).2 cq_11 (by decide) rfl rfl (Nat.le_of_ble_eq_true rfl) (by decide) (by decide) (fun v ν hp => ?_) (fun i ν hp => nrm hp.1)
                obtain ⟨rfl, rfl, hN188, hb189⟩ := QEl hp
                show J _ _ _ _ 121 _ ([]) _ _ _ _
                refine J.goto (pc := 121) (tgt := 337) dX11_expression_121 (by decide) ?_
                refine J.goto (pc := 337) (tgt := 39) dX11_expression_337 (by decide) ?_
                refine J.pick [1, 2] rfl ?_
                exact ih v0 v3 μ187 h hN188 k0
            · refine J.cne (pc := 75) (tgt := 82) dX11_expression_75 (by decide) (fun q => absurd q hc) (fun _ => ?_)
              refine J.iconst (pc := 82) dX11_expression_82 ic_1 ?_
              obtain ⟨μ191, e190, h⟩ := bnd h
              refine J.callV (Y := mX11_expression) (Z := mX11_drops) (pc := 83) (st := []) (k2 := 0) (n2 := 0) dX11_expression_83 ml_RX11_208 mo_X11_drops mv_X11_drops rfl (tX11_drops (d + 3) e190 hN68 k0) k0 (okN hN68 k0 (by decide)).1 (okN hN68 k0 (by decide)).2 cq_11 (by decide) rfl rfl (Nat.le_of_ble_eq_true rfl) (by decide) (by decide) (fun v ν hp => ?_) (fun i ν hp => nrm hp.1)
              obtain ⟨rfl, rfl, hN192, hb193⟩ := QEl hp
              show J _ _ _ _ 86 _ ([]) _ _ _ _
              refine J.aload_n (pc := 86) dX11_expression_86 rfl 1 rfl ?_
              refine J.iload (pc := 87) dX11_expression_87 0 rfl ?_
              refine J.bipush (pc := 89) dX11_expression_89 ib_14 ?_
              rcases ifc h with ⟨hc, h⟩ | ⟨hc, h⟩
              · refine J.cne (pc := 91) (tgt := 98) dX11_expression_91 (by decide) (fun _ => ?_) (fun q => absurd hc q)
                refine J.iconst (pc := 94) dX11_expression_94 ic_4 ?_
                refine J.goto (pc := 95) (tgt := 99) dX11_expression_95 (by decide) ?_
                obtain ⟨μ195, e194, h⟩ := bnd h
                refine J.callV (Y := mX11_expression) (Z := mX11_waitsFor) (pc := 99) (st := []) (k2 := 0) (n2 := 0) dX11_expression_99 ml_RX11_199 mo_X11_waitsFor mv_X11_waitsFor rfl (tX11_waitsFor (d + 4) e194 hN192 k0) k0 (okN hN192 k0 (by decide)).1 (okN hN192 k0 (by decide)).2 cq_11 (by decide) rfl rfl (Nat.le_of_ble_eq_true rfl) (by decide) (by decide) (fun v ν hp => ?_) (fun i ν hp => nrm hp.1)
                obtain ⟨rfl, rfl, hN196, hb197⟩ := QEl hp
                show J _ _ _ _ 102 _ ([]) _ _ _ _
                refine J.aload_n (pc := 102) dX11_expression_102 rfl 1 rfl ?_
                obtain ⟨a198, e199, h⟩ := bnd h
                have k200 : (kd a198).1 = 2 := gR_k e199
                refine J.fR (pc := 103) dX11_expression_103 fl_RX11_44 k0 (okN hN196 k0 (by decide)) rfl e199 ?_
                refine J.aload_n (pc := 106) dX11_expression_106 rfl 1 rfl ?_
                refine J.fI (pc := 107) dX11_expression_107 fl_RX11_193 k0 (okN hN196 k0 (by decide)) (Or.inl rfl) ?_
                refine J.iconst (pc := 110) dX11_expression_110 ic_0 ?_
                obtain ⟨μ201, e202, h⟩ := bnd h
                have hN203 : μ201.1 = NN := stI_N e202 hN196
                refine J.wZ (pc := 111) dX11_expression_111 k200 (okN hN196 k200 (by decide)) (Or.inl rfl) e202 ?_
                refine J.aload_n (pc := 112) dX11_expression_112 rfl 1 rfl ?_
                obtain ⟨μ205, e204, h⟩ := bnd h
                refine J.callV (Y := mX11_expression) (Z := mX11_goes) (pc := 113) (st := []) (k2 := 0) (n2 := 0) dX11_expression_113 ml_RX11_162 mo_X11_goes mv_X11_goes rfl (tX11_goes (d + 3) e204 hN203 k0) k0 (okN hN203 k0 (by decide)).1 (okN hN203 k0 (by decide)).2 cq_11 (by decide) rfl rfl (Nat.le_of_ble_eq_true rfl) (by decide) (by decide) (fun v ν hp => ?_) (fun i ν hp => nrm hp.1)
                obtain ⟨rfl, rfl, hN206, hb207⟩ := QEl hp
                show J _ _ _ _ 116 _ ([]) _ _ _ _
                refine J.aload_n (pc := 116) dX11_expression_116 rfl 1 rfl ?_
                refine J.iconst (pc := 117) dX11_expression_117 ic_1 ?_
                obtain ⟨μ209, e208, h⟩ := bnd h
                refine J.callV (Y := mX11_expression) (Z := mX11_operand) (pc := 118) (st := []) (k2 := 0) (n2 := 0) dX11_expression_118 ml_RX11_211 mo_X11_operand mv_X11_operand rfl (tX11_operand d e208 hN206 k0) k0 (okN hN206 k0 (by decide)).1 (okN hN206 k0 (by decide)).2 cq_11 (by decide) rfl rfl (Nat.le_of_ble_eq_true rfl) (by decide) (by decide) (fun v ν hp => ?_) (fun i ν hp => nrm hp.1)
                obtain ⟨rfl, rfl, hN210, hb211⟩ := QEl hp
                show J _ _ _ _ 121 _ ([]) _ _ _ _
                refine J.goto (pc := 121) (tgt := 337) dX11_expression_121 (by decide) ?_
                refine J.goto (pc := 337) (tgt := 39) dX11_expression_337 (by decide) ?_
                refine J.pick [1, 2] rfl ?_
                exact ih v0 v3 μ209 h hN210 k0
              · refine J.cne (pc := 91) (tgt := 98) dX11_expression_91 (by decide) (fun q => absurd q hc) (fun _ => ?_)
                refine J.iconst (pc := 98) dX11_expression_98 ic_5 ?_
                obtain ⟨μ213, e212, h⟩ := bnd h
                refine J.callV (Y := mX11_expression) (Z := mX11_waitsFor) (pc := 99) (st := []) (k2 := 0) (n2 := 0) dX11_expression_99 ml_RX11_199 mo_X11_waitsFor mv_X11_waitsFor rfl (tX11_waitsFor (d + 4) e212 hN192 k0) k0 (okN hN192 k0 (by decide)).1 (okN hN192 k0 (by decide)).2 cq_11 (by decide) rfl rfl (Nat.le_of_ble_eq_true rfl) (by decide) (by decide) (fun v ν hp => ?_) (fun i ν hp => nrm hp.1)
                obtain ⟨rfl, rfl, hN214, hb215⟩ := QEl hp
                show J _ _ _ _ 102 _ ([]) _ _ _ _
                refine J.aload_n (pc := 102) dX11_expression_102 rfl 1 rfl ?_
                obtain ⟨a216, e217, h⟩ := bnd h
                have k218 : (kd a216).1 = 2 := gR_k e217
                refine J.fR (pc := 103) dX11_expression_103 fl_RX11_44 k0 (okN hN214 k0 (by decide)) rfl e217 ?_
                refine J.aload_n (pc := 106) dX11_expression_106 rfl 1 rfl ?_
                refine J.fI (pc := 107) dX11_expression_107 fl_RX11_193 k0 (okN hN214 k0 (by decide)) (Or.inl rfl) ?_
                refine J.iconst (pc := 110) dX11_expression_110 ic_0 ?_
                obtain ⟨μ219, e220, h⟩ := bnd h
                have hN221 : μ219.1 = NN := stI_N e220 hN214
                refine J.wZ (pc := 111) dX11_expression_111 k218 (okN hN214 k218 (by decide)) (Or.inl rfl) e220 ?_
                refine J.aload_n (pc := 112) dX11_expression_112 rfl 1 rfl ?_
                obtain ⟨μ223, e222, h⟩ := bnd h
                refine J.callV (Y := mX11_expression) (Z := mX11_goes) (pc := 113) (st := []) (k2 := 0) (n2 := 0) dX11_expression_113 ml_RX11_162 mo_X11_goes mv_X11_goes rfl (tX11_goes (d + 3) e222 hN221 k0) k0 (okN hN221 k0 (by decide)).1 (okN hN221 k0 (by decide)).2 cq_11 (by decide) rfl rfl (Nat.le_of_ble_eq_true rfl) (by decide) (by decide) (fun v ν hp => ?_) (fun i ν hp => nrm hp.1)
                obtain ⟨rfl, rfl, hN224, hb225⟩ := QEl hp
                show J _ _ _ _ 116 _ ([]) _ _ _ _
                refine J.aload_n (pc := 116) dX11_expression_116 rfl 1 rfl ?_
                refine J.iconst (pc := 117) dX11_expression_117 ic_1 ?_
                obtain ⟨μ227, e226, h⟩ := bnd h
                refine J.callV (Y := mX11_expression) (Z := mX11_operand) (pc := 118) (st := []) (k2 := 0) (n2 := 0) dX11_expression_118 ml_RX11_211 mo_X11_operand mv_X11_operand rfl (tX11_operand d e226 hN224 k0) k0 (okN hN224 k0 (by decide)).1 (okN hN224 k0 (by decide)).2 cq_11 (by decide) rfl rfl (Nat.le_of_ble_eq_true rfl) (by decide) (by decide) (fun v ν hp => ?_) (fun i ν hp => nrm hp.1)
                obtain ⟨rfl, rfl, hN228, hb229⟩ := QEl hp
                show J _ _ _ _ 121 _ ([]) _ _ _ _
                refine J.goto (pc := 121) (tgt := 337) dX11_expression_121 (by decide) ?_
                refine J.goto (pc := 337) (tgt := 39) dX11_expression_337 (by decide) ?_
                refine J.pick [1, 2] rfl ?_
                exact ih v0 v3 μ227 h hN228 k0
          · refine J.cne (pc := 67) (tgt := 124) dX11_expression_67 (by decide) (fun q => absurd q hc) (fun _ => ?_)
            refine J.aload_n (pc := 124) dX11_expression_124 rfl 1 rfl ?_
            refine J.bipush (pc := 125) dX11_expression_125 ib_60 ?_
            refine J.callV (Y := mX11_expression) (Z := mX11_isSign) (pc := 127) (st := []) (k2 := 0) (n2 := 0) dX11_expression_127 ml_RX11_196 mo_X11_isSign mv_X11_isSign rfl (tX11_isSign (d + 4) v0 (60 : Int32) μ hN68 k0) k0 (okN hN68 k0 (by decide)).1 (okN hN68 k0 (by decide)).2 cq_11 (by decide) rfl rfl (Nat.le_of_ble_eq_true rfl) (by decide) (by decide) (fun v ν hp => ?_) (fun i ν hp => nrm hp.1)
            obtain ⟨rfl, rfl, hN231, hb232⟩ := QEl hp
            show J _ _ _ _ 130 _ ([.int (fX11_isSign v0 (60 : Int32) μ)]) _ _ _ _
            rcases ifc h with ⟨hc, h⟩ | ⟨hc, h⟩
            · refine J.zne (pc := 130) (tgt := 142) dX11_expression_130 (by decide) (fun _ => ?_) (fun q => absurd hc q)
              refine J.aload_n (pc := 133) dX11_expression_133 rfl 1 rfl ?_
              refine J.bipush (pc := 134) dX11_expression_134 ib_61 ?_
              refine J.callV (Y := mX11_expression) (Z := mX11_isSign) (pc := 136) (st := []) (k2 := 0) (n2 := 0) dX11_expression_136 ml_RX11_196 mo_X11_isSign mv_X11_isSign rfl (tX11_isSign (d + 4) v0 (61 : Int32) μ hN231 k0) k0 (okN hN231 k0 (by decide)).1 (okN hN231 k0 (by decide)).2 cq_11 (by decide) rfl rfl (Nat.le_of_ble_eq_true rfl) (by decide) (by decide) (fun v ν hp => ?_) (fun i ν hp => nrm hp.1)
              obtain ⟨rfl, rfl, hN234, hb235⟩ := QEl hp
              show J _ _ _ _ 139 _ ([.int (fX11_isSign v0 (61 : Int32) μ)]) _ _ _ _
              rcases ifc h with ⟨hc, h⟩ | ⟨hc, h⟩
              · refine J.zeq (pc := 139) (tgt := 201) dX11_expression_139 (by decide) (fun _ => ?_) (fun q => absurd hc q)
                refine J.pick [1, 2] rfl ?_
                exact (tX11_expression_201 d (fX11_expression_39 n) ih) v0 v3 μ h hN234 k0
              · refine J.zeq (pc := 139) (tgt := 201) dX11_expression_139 (by decide) (fun q => absurd q hc) (fun _ => ?_)
                refine J.pick [1, 2] rfl ?_
                exact (tX11_expression_142 d (fX11_expression_39 n) (fX11_expression_201 (fX11_expression_39 n)) ih (tX11_expression_201 d (fX11_expression_39 n) ih)) v0 v3 μ h hN234 k0
            · refine J.zne (pc := 130) (tgt := 142) dX11_expression_130 (by decide) (fun q => absurd q hc) (fun _ => ?_)
              refine J.pick [1, 2] rfl ?_
              exact (tX11_expression_142 d (fX11_expression_39 n) (fX11_expression_201 (fX11_expression_39 n)) ih (tX11_expression_201 d (fX11_expression_39 n) ih)) v0 v3 μ h hN231 k0
def fX11_expression (v0 : Nat) (v1 : Int32) (v2 : Int32) (μ : Mem) : Option (Mem) :=
  if (fX11_isGood v0 μ) = 0 then
    some μ
  else
    (some (sI μ v0 25 v1)).bind fun μ4 =>
    (some (sI μ4 v0 26 v2)).bind fun μ7 =>
    (some (sI μ7 v0 27 (0 : Int32))).bind fun μ10 =>
    (some (sI μ10 v0 28 (0 : Int32))).bind fun μ13 =>
    (fX11_deeper v0 μ13).bind fun μ17 =>
    (fX11_operand v0 (1 : Int32) μ17).bind fun μ21 =>
    (fX11_expression_39 fuel) v0 (1 : Int32) μ21
set_option maxHeartbeats 4000000 in
theorem tX11_expression {ω : Wd} {l : Launch} (d : Nat) {v0 : Nat} {v1 : Int32} {v2 : Int32} {μ : Mem} {res : Mem} (h : fX11_expression v0 v1 v2 μ = some res) (hN : μ.1 = NN) (k0 : (kd v0).1 = 21) : Ct ω l mX11_expression (d + 5) [.ref v0, .int v1, .int v2] μ 0 0 (PE (.inl none) res True) := by
  refine Ct.of pn_RX11 (Nat.le_of_ble_eq_true rfl) ?_
  show J ω l mX11_expression (d + 5) 0 [(0, .ref v0), (1, .int v1), (2, .int v2)] [] μ 0 0 _
  unfold fX11_expression at h
  refine J.aload_n (pc := 0) dX11_expression_0 rfl 0 rfl ?_
  refine J.callV (Y := mX11_expression) (Z := mX11_isGood) (pc := 1) (st := []) (k2 := 0) (n2 := 0) dX11_expression_1 ml_RX11_158 mo_X11_isGood mv_X11_isGood rfl (tX11_isGood (d + 4) v0 μ hN k0) k0 (okN hN k0 (by decide)).1 (okN hN k0 (by decide)).2 cq_11 (by decide) rfl rfl (Nat.le_of_ble_eq_true rfl) (by decide) (by decide) (fun v ν hp => ?_) (fun i ν hp => nrm hp.1)
  obtain ⟨rfl, rfl, hN2, hb3⟩ := QEl hp
  show J _ _ _ _ 4 _ ([.int (fX11_isGood v0 μ)]) _ _ _ _
  rcases ifc h with ⟨hc, h⟩ | ⟨hc, h⟩
  · refine J.zne (pc := 4) (tgt := 8) dX11_expression_4 (by decide) (fun _ => ?_) (fun q => absurd hc q)
    cases h
    exact J.vret (pc := 7) dX11_expression_7 rfl ⟨rfl, rfl, hN2, trivial⟩
  · refine J.zne (pc := 4) (tgt := 8) dX11_expression_4 (by decide) (fun q => absurd q hc) (fun _ => ?_)
    refine J.aload_n (pc := 8) dX11_expression_8 rfl 0 rfl ?_
    refine J.iload_n (pc := 9) dX11_expression_9 rfl 1 rfl ?_
    obtain ⟨μ4, e5, h⟩ := bnd h
    have hN6 : μ4.1 = NN := smN e5 hN2
    refine J.qI (pc := 10) dX11_expression_10 fl_RX11_187 k0 (okN hN2 k0 (by decide)) rfl rfl e5 ?_
    refine J.aload_n (pc := 13) dX11_expression_13 rfl 0 rfl ?_
    refine J.iload_n (pc := 14) dX11_expression_14 rfl 2 rfl ?_
    obtain ⟨μ7, e8, h⟩ := bnd h
    have hN9 : μ7.1 = NN := smN e8 hN6
    refine J.qI (pc := 15) dX11_expression_15 fl_RX11_190 k0 (okN hN6 k0 (by decide)) rfl rfl e8 ?_
    refine J.aload_n (pc := 18) dX11_expression_18 rfl 0 rfl ?_
    refine J.iconst (pc := 19) dX11_expression_19 ic_0 ?_
    obtain ⟨μ10, e11, h⟩ := bnd h
    have hN12 : μ10.1 = NN := smN e11 hN9
    refine J.qI (pc := 20) dX11_expression_20 fl_RX11_171 k0 (okN hN9 k0 (by decide)) rfl rfl e11 ?_
    refine J.aload_n (pc := 23) dX11_expression_23 rfl 0 rfl ?_
    refine J.iconst (pc := 24) dX11_expression_24 ic_0 ?_
    obtain ⟨μ13, e14, h⟩ := bnd h
    have hN15 : μ13.1 = NN := smN e14 hN12
    refine J.qI (pc := 25) dX11_expression_25 fl_RX11_193 k0 (okN hN12 k0 (by decide)) rfl rfl e14 ?_
    refine J.aload_n (pc := 28) dX11_expression_28 rfl 0 rfl ?_
    obtain ⟨μ17, e16, h⟩ := bnd h
    refine J.callV (Y := mX11_expression) (Z := mX11_deeper) (pc := 29) (st := []) (k2 := 0) (n2 := 0) dX11_expression_29 ml_RX11_202 mo_X11_deeper mv_X11_deeper rfl (tX11_deeper (d + 3) e16 hN15 k0) k0 (okN hN15 k0 (by decide)).1 (okN hN15 k0 (by decide)).2 cq_11 (by decide) rfl rfl (Nat.le_of_ble_eq_true rfl) (by decide) (by decide) (fun v ν hp => ?_) (fun i ν hp => nrm hp.1)
    obtain ⟨rfl, rfl, hN18, hb19⟩ := QEl hp
    show J _ _ _ _ 32 _ ([]) _ _ _ _
    refine J.aload_n (pc := 32) dX11_expression_32 rfl 0 rfl ?_
    refine J.iconst (pc := 33) dX11_expression_33 ic_1 ?_
    obtain ⟨μ21, e20, h⟩ := bnd h
    refine J.callV (Y := mX11_expression) (Z := mX11_operand) (pc := 34) (st := []) (k2 := 0) (n2 := 0) dX11_expression_34 ml_RX11_211 mo_X11_operand mv_X11_operand rfl (tX11_operand d e20 hN18 k0) k0 (okN hN18 k0 (by decide)).1 (okN hN18 k0 (by decide)).2 cq_11 (by decide) rfl rfl (Nat.le_of_ble_eq_true rfl) (by decide) (by decide) (fun v ν hp => ?_) (fun i ν hp => nrm hp.1)
    obtain ⟨rfl, rfl, hN22, hb23⟩ := QEl hp
    show J _ _ _ _ 37 _ ([]) _ _ _ _
    refine J.iconst (pc := 37) dX11_expression_37 ic_1 ?_
    refine J.istore_n (pc := 38) ([(3, .int (1 : Int32)), (0, .ref v0), (1, .int v1), (2, .int v2)]) dX11_expression_38 rfl (Nat.le_of_ble_eq_true rfl) rfl ?_
    refine J.pick [1, 0] rfl ?_
    exact (tX11_expression_39 d fuel) v0 (1 : Int32) μ21 h hN22 k0
