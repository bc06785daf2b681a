def fX11_isGuess (v0 : Nat) (v1 : Int32) (μ : Mem) : Option (Int32 × Mem) :=
  (gR μ v0 34 0).bind fun a1 =>
  (ldI μ a1 ((73 : Int32) + (v1 / (10 : Int32)))).bind fun x4 =>
  if x4 = (v1 - v1 / (10 : Int32) * (10 : Int32)) then
    some ((0 : Int32), μ)
  else
    (fX11_tries v0 μ).bind fun μ7 =>
    (gR μ7 v0 34 0).bind fun a10 =>
    (stI μ7 a10 ((152 : Int32) + (v1 / (10 : Int32))) (v1 - v1 / (10 : Int32) * (10 : Int32))).bind fun μ13 =>
    (fX11_isSeen v0 μ13).bind fun (r18, μ17) =>
    some (r18, μ17)
set_option maxHeartbeats 4000000 in
theorem tX11_isGuess {ω : Wd} {l : Launch} (d : Nat) {v0 : Nat} {v1 : Int32} {μ : Mem} {res : Int32 × Mem} (h : fX11_isGuess v0 v1 μ = some res) (hN : μ.1 = NN) (k0 : (kd v0).1 = 21) : Ct ω l mX11_isGuess (d + 6) [.ref v0, .int v1] μ 0 0 (PE (.inl (some (.int res.1))) res.2 (isB res.1)) := by
  refine Ct.of pn_RX11 (Nat.le_of_ble_eq_true rfl) ?_
  show J ω l mX11_isGuess (d + 6) 0 [(0, .ref v0), (1, .int v1)] [] μ 0 0 _
  unfold fX11_isGuess at h
  refine J.iload_n (pc := 0) dX11_isGuess_0 rfl 1 rfl ?_
  refine J.bipush (pc := 1) dX11_isGuess_1 ib_10 ?_
  refine J.idiv (pc := 3) dX11_isGuess_3 (by decide) ?_
  refine J.istore_n (pc := 4) ([(2, .int (v1 / (10 : Int32))), (0, .ref v0), (1, .int v1)]) dX11_isGuess_4 rfl (Nat.le_of_ble_eq_true rfl) rfl ?_
  refine J.aload_n (pc := 5) dX11_isGuess_5 rfl 1 rfl ?_
  obtain ⟨a1, e2, h⟩ := bnd h
  have k3 : (kd a1).1 = 0 := gR_k e2
  refine J.fR (pc := 6) dX11_isGuess_6 fl_RX11_48 k0 (okN hN k0 (by decide)) rfl e2 ?_
  refine J.bipush (pc := 9) dX11_isGuess_9 ib_73 ?_
  refine J.iload_n (pc := 11) dX11_isGuess_11 rfl 0 rfl ?_
  refine J.iadd (pc := 12) dX11_isGuess_12 ?_
  obtain ⟨x4, e5, h⟩ := bnd h
  refine J.aI (pc := 13) dX11_isGuess_13 k3 (okN hN k3 (by decide)) e5 ?_
  refine J.iload_n (pc := 14) dX11_isGuess_14 rfl 2 rfl ?_
  refine J.bipush (pc := 15) dX11_isGuess_15 ib_10 ?_
  refine J.irem (pc := 17) dX11_isGuess_17 (by decide) ?_
  rcases ifc h with ⟨hc, h⟩ | ⟨hc, h⟩
  · refine J.cne (pc := 18) (tgt := 23) dX11_isGuess_18 (by decide) (fun _ => ?_) (fun q => absurd hc q)
    refine J.iconst (pc := 21) dX11_isGuess_21 ic_0 ?_
    cases h
    exact J.zret (pc := 22) dX11_isGuess_22 rfl (narB (Or.inl rfl)) ⟨rfl, rfl, hN, (Or.inl rfl)⟩
  · refine J.cne (pc := 18) (tgt := 23) dX11_isGuess_18 (by decide) (fun q => absurd q hc) (fun _ => ?_)
    refine J.aload_n (pc := 23) dX11_isGuess_23 rfl 1 rfl ?_
    obtain ⟨μ7, e6, h⟩ := bnd h
    refine J.callV (Y := mX11_isGuess) (Z := mX11_tries) (pc := 24) (st := []) (k2 := 0) (n2 := 0) dX11_isGuess_24 ml_RX11_389 mo_X11_tries mv_X11_tries rfl (tX11_tries (d + 5) e6 hN k0) k0 (okN hN k0 (by decide)).1 (okN hN k0 (by decide)).2 cq_11 (by decide) rfl rfl (Nat.le_of_ble_eq_true rfl) (by decide) (by decide) (fun v ν hp => ?_) (fun i ν hp => nrm hp.1)
    obtain ⟨rfl, rfl, hN8, hb9⟩ := QEl hp
    show J _ _ _ _ 27 _ ([]) _ _ _ _
    refine J.aload_n (pc := 27) dX11_isGuess_27 rfl 1 rfl ?_
    obtain ⟨a10, e11, h⟩ := bnd h
    have k12 : (kd a10).1 = 0 := gR_k e11
    refine J.fR (pc := 28) dX11_isGuess_28 fl_RX11_48 k0 (okN hN8 k0 (by decide)) rfl e11 ?_
    refine J.sipush (pc := 31) dX11_isGuess_31 is_152 ?_
    refine J.iload_n (pc := 34) dX11_isGuess_34 rfl 0 rfl ?_
    refine J.iadd (pc := 35) dX11_isGuess_35 ?_
    refine J.iload_n (pc := 36) dX11_isGuess_36 rfl 2 rfl ?_
    refine J.bipush (pc := 37) dX11_isGuess_37 ib_10 ?_
    refine J.irem (pc := 39) dX11_isGuess_39 (by decide) ?_
    obtain ⟨μ13, e14, h⟩ := bnd h
    have hN15 : μ13.1 = NN := stI_N e14 hN8
    refine J.wI (pc := 40) dX11_isGuess_40 k12 (okN hN8 k12 (by decide)) e14 ?_
    refine J.aload_n (pc := 41) dX11_isGuess_41 rfl 1 rfl ?_
    obtain ⟨⟨r18, μ17⟩, e16, h⟩ := bnd h
    try dsimp only at h
    refine J.callV (Y := mX11_isGuess) (Z := mX11_isSeen) (pc := 42) (st := []) (k2 := 0) (n2 := 0) dX11_isGuess_42 ml_RX11_419 mo_X11_isSeen mv_X11_isSeen rfl (tX11_isSeen d e16 hN15 k0) k0 (okN hN15 k0 (by decide)).1 (okN hN15 k0 (by decide)).2 cq_11 (by decide) rfl rfl (Nat.le_of_ble_eq_true rfl) (by decide) (by decide) (fun v ν hp => ?_) (fun i ν hp => nrm hp.1)
    obtain ⟨rfl, rfl, hN19, hb20⟩ := QEl hp
    show J _ _ _ _ 45 _ ([.int r18]) _ _ _ _
    cases h
    exact J.zret (pc := 45) dX11_isGuess_45 rfl (narB hb20) ⟨rfl, rfl, hN19, hb20⟩
def fX11_later (v0 : Nat) (v1 : Int32) (v2 : Int32) (μ : Mem) : Option (Int32 × Mem) :=
  (some (sI μ v0 0 (0 : Int32))).bind fun μ1 =>
  (fX11_isWhat v0 v2 (2 : Int32) μ1).bind fun (r6, μ5) =>
  if r6 = 0 then
    some ((0 : Int32), μ5)
  else
    (fX11_isSoon v0 v1 (0 : Int32) (2 : Int32) μ5).bind fun (r11, μ10) =>
    if r11 = 0 then
      some ((0 : Int32), μ10)
    else
      (fX11_goesTo v0 v1 μ10).bind fun μ15 =>
      (fX11_crowdAt v0 μ15).bind fun r19 =>
      if v2 = (2 : Int32) then
        (fX11_inked v0 (79 : Int32) μ15).bind fun r23 =>
        some (r23, μ15)
      else
        if v2 = (1 : Int32) then
          some ((fX11_toldAs r19), μ15)
        else
          if r19 = (-1 : Int32) then
            some ((0 : Int32), μ15)
          else
            (fX11_standAt v0 (79 : Int32) r19 μ15).bind fun r30 =>
            some (r30, μ15)
set_option maxHeartbeats 4000000 in
theorem tX11_later {ω : Wd} {l : Launch} (d : Nat) {v0 : Nat} {v1 : Int32} {v2 : Int32} {μ : Mem} {res : Int32 × Mem} (h : fX11_later v0 v1 v2 μ = some res) (hN : μ.1 = NN) (k0 : (kd v0).1 = 21) : Ct ω l mX11_later (d + 7) [.ref v0, .int v1, .int v2] μ 0 0 (PE (.inl (some (.int res.1))) res.2 True) := by
  refine Ct.of pn_RX11 (Nat.le_of_ble_eq_true rfl) ?_
  show J ω l mX11_later (d + 7) 0 [(0, .ref v0), (1, .int v1), (2, .int v2)] [] μ 0 0 _
  unfold fX11_later at h
  refine J.aload_n (pc := 0) dX11_later_0 rfl 0 rfl ?_
  refine J.iconst (pc := 1) dX11_later_1 ic_0 ?_
  obtain ⟨μ1, e2, h⟩ := bnd h
  have hN3 : μ1.1 = NN := smN e2 hN
  refine J.qI (pc := 2) dX11_later_2 fl_RX11_99 k0 (okN hN k0 (by decide)) rfl rfl e2 ?_
  refine J.aload_n (pc := 5) dX11_later_5 rfl 0 rfl ?_
  refine J.iload_n (pc := 6) dX11_later_6 rfl 2 rfl ?_
  refine J.iconst (pc := 7) dX11_later_7 ic_2 ?_
  obtain ⟨⟨r6, μ5⟩, e4, h⟩ := bnd h
  try dsimp only at h
  refine J.callV (Y := mX11_later) (Z := mX11_isWhat) (pc := 8) (st := []) (k2 := 0) (n2 := 0) dX11_later_8 ml_RX11_365 mo_X11_isWhat mv_X11_isWhat rfl (tX11_isWhat (d + 5) e4 hN3 k0) k0 (okN hN3 k0 (by decide)).1 (okN hN3 k0 (by decide)).2 cq_11 (by decide) rfl rfl (Nat.le_of_ble_eq_true rfl) (by decide) (by decide) (fun v ν hp => ?_) (fun i ν hp => nrm hp.1)
  obtain ⟨rfl, rfl, hN7, hb8⟩ := QEl hp
  show J _ _ _ _ 11 _ ([.int r6]) _ _ _ _
  rcases ifc h with ⟨hc, h⟩ | ⟨hc, h⟩
  · refine J.zeq (pc := 11) (tgt := 24) dX11_later_11 (by decide) (fun _ => ?_) (fun q => absurd hc q)
    refine J.iconst (pc := 24) dX11_later_24 ic_0 ?_
    cases h
    exact J.iret (pc := 25) dX11_later_25 rfl ⟨rfl, rfl, hN7, trivial⟩
  · refine J.zeq (pc := 11) (tgt := 24) dX11_later_11 (by decide) (fun q => absurd q hc) (fun _ => ?_)
    refine J.aload_n (pc := 14) dX11_later_14 rfl 0 rfl ?_
    refine J.iload_n (pc := 15) dX11_later_15 rfl 1 rfl ?_
    refine J.iconst (pc := 16) dX11_later_16 ic_0 ?_
    refine J.iconst (pc := 17) dX11_later_17 ic_2 ?_
    obtain ⟨⟨r11, μ10⟩, e9, h⟩ := bnd h
    try dsimp only at h
    refine J.callV (Y := mX11_later) (Z := mX11_isSoon) (pc := 18) (st := []) (k2 := 0) (n2 := 0) dX11_later_18 ml_RX11_395 mo_X11_isSoon mv_X11_isSoon rfl (tX11_isSoon (d + 5) e9 hN7 k0) k0 (okN hN7 k0 (by decide)).1 (okN hN7 k0 (by decide)).2 cq_11 (by decide) rfl rfl (Nat.le_of_ble_eq_true rfl) (by decide) (by decide) (fun v ν hp => ?_) (fun i ν hp => nrm hp.1)
    obtain ⟨rfl, rfl, hN12, hb13⟩ := QEl hp
    show J _ _ _ _ 21 _ ([.int r11]) _ _ _ _
    rcases ifc h with ⟨hc, h⟩ | ⟨hc, h⟩
    · refine J.zne (pc := 21) (tgt := 26) dX11_later_21 (by decide) (fun _ => ?_) (fun q => absurd hc q)
      refine J.iconst (pc := 24) dX11_later_24 ic_0 ?_
      cases h
      exact J.iret (pc := 25) dX11_later_25 rfl ⟨rfl, rfl, hN12, trivial⟩
    · refine J.zne (pc := 21) (tgt := 26) dX11_later_21 (by decide) (fun q => absurd q hc) (fun _ => ?_)
      refine J.aload_n (pc := 26) dX11_later_26 rfl 0 rfl ?_
      refine J.iload_n (pc := 27) dX11_later_27 rfl 1 rfl ?_
      obtain ⟨μ15, e14, h⟩ := bnd h
      refine J.callV (Y := mX11_later) (Z := mX11_goesTo) (pc := 28) (st := []) (k2 := 0) (n2 := 0) dX11_later_28 ml_RX11_398 mo_X11_goesTo mv_X11_goesTo rfl (tX11_goesTo d e14 hN12 k0) k0 (okN hN12 k0 (by decide)).1 (okN hN12 k0 (by decide)).2 cq_11 (by decide) rfl rfl (Nat.le_of_ble_eq_true rfl) (by decide) (by decide) (fun v ν hp => ?_) (fun i ν hp => nrm hp.1)
      obtain ⟨rfl, rfl, hN16, hb17⟩ := QEl hp
      show J _ _ _ _ 31 _ ([]) _ _ _ _
      refine J.aload_n (pc := 31) dX11_later_31 rfl 0 rfl ?_
      obtain ⟨r19, e18, h⟩ := bnd h
      refine J.callV (Y := mX11_later) (Z := mX11_crowdAt) (pc := 32) (st := []) (k2 := 0) (n2 := 0) dX11_later_32 ml_RX11_401 mo_X11_crowdAt mv_X11_crowdAt rfl (tX11_crowdAt (d + 5) e18 hN16 k0) k0 (okN hN16 k0 (by decide)).1 (okN hN16 k0 (by decide)).2 cq_11 (by decide) rfl rfl (Nat.le_of_ble_eq_true rfl) (by decide) (by decide) (fun v ν hp => ?_) (fun i ν hp => nrm hp.1)
      obtain ⟨rfl, rfl, hN20, hb21⟩ := QEl hp
      show J _ _ _ _ 35 _ ([.int r19]) _ _ _ _
      refine J.istore_n (pc := 35) ([(3, .int r19), (0, .ref v0), (1, .int v1), (2, .int v2)]) dX11_later_35 rfl (Nat.le_of_ble_eq_true rfl) rfl ?_
      refine J.iload_n (pc := 36) dX11_later_36 rfl 3 rfl ?_
      refine J.iconst (pc := 37) dX11_later_37 ic_2 ?_
      rcases ifc h with ⟨hc, h⟩ | ⟨hc, h⟩
      · refine J.cne (pc := 38) (tgt := 50) dX11_later_38 (by decide) (fun _ => ?_) (fun q => absurd hc q)
        refine J.aload_n (pc := 41) dX11_later_41 rfl 1 rfl ?_
        refine J.bipush (pc := 42) dX11_later_42 ib_79 ?_
        obtain ⟨r23, e22, h⟩ := bnd h
        refine J.callV (Y := mX11_later) (Z := mX11_inked) (pc := 44) (st := []) (k2 := 0) (n2 := 0) dX11_later_44 ml_RX11_353 mo_X11_inked mv_X11_inked rfl (tX11_inked (d + 5) e22 hN20 k0) k0 (okN hN20 k0 (by decide)).1 (okN hN20 k0 (by decide)).2 cq_11 (by decide) rfl rfl (Nat.le_of_ble_eq_true rfl) (by decide) (by decide) (fun v ν hp => ?_) (fun i ν hp => nrm hp.1)
        obtain ⟨rfl, rfl, hN24, hb25⟩ := QEl hp
        show J _ _ _ _ 47 _ ([.int r23]) _ _ _ _
        refine J.goto (pc := 47) (tgt := 78) dX11_later_47 (by decide) ?_
        cases h
        exact J.iret (pc := 78) dX11_later_78 rfl ⟨rfl, rfl, hN24, trivial⟩
      · refine J.cne (pc := 38) (tgt := 50) dX11_later_38 (by decide) (fun q => absurd q hc) (fun _ => ?_)
        refine J.iload_n (pc := 50) dX11_later_50 rfl 3 rfl ?_
        refine J.iconst (pc := 51) dX11_later_51 ic_1 ?_
        rcases ifc h with ⟨hc, h⟩ | ⟨hc, h⟩
        · refine J.cne (pc := 52) (tgt := 62) dX11_later_52 (by decide) (fun _ => ?_) (fun q => absurd hc q)
          refine J.iload_n (pc := 55) dX11_later_55 rfl 0 rfl ?_
          refine J.callS (Y := mX11_later) (Z := mX11_toldAs) (pc := 56) (st := []) (k2 := 0) (n2 := 0) dX11_later_56 ml_RX11_371 mo_X11_toldAs ms_X11_toldAs rfl (tX11_toldAs (d + 6) r19 μ15 hN20 ) rfl rfl (Nat.le_of_ble_eq_true rfl) (by decide) (by decide) (fun v ν hp => ?_) (fun i ν hp => nrm hp.1)
          obtain ⟨rfl, rfl, hN27, hb28⟩ := QEl hp
          show J _ _ _ _ 59 _ ([.int (fX11_toldAs r19)]) _ _ _ _
          refine J.goto (pc := 59) (tgt := 78) dX11_later_59 (by decide) ?_
          cases h
          exact J.iret (pc := 78) dX11_later_78 rfl ⟨rfl, rfl, hN27, trivial⟩
        · refine J.cne (pc := 52) (tgt := 62) dX11_later_52 (by decide) (fun q => absurd q hc) (fun _ => ?_)
          refine J.iload_n (pc := 62) dX11_later_62 rfl 0 rfl ?_
          refine J.iconst (pc := 63) dX11_later_63 ic_m1 ?_
          rcases ifc h with ⟨hc, h⟩ | ⟨hc, h⟩
          · refine J.cne (pc := 64) (tgt := 71) dX11_later_64 (by decide) (fun _ => ?_) (fun q => absurd hc q)
            refine J.iconst (pc := 67) dX11_later_67 ic_0 ?_
            refine J.goto (pc := 68) (tgt := 78) dX11_later_68 (by decide) ?_
            cases h
            exact J.iret (pc := 78) dX11_later_78 rfl ⟨rfl, rfl, hN20, trivial⟩
          · refine J.cne (pc := 64) (tgt := 71) dX11_later_64 (by decide) (fun q => absurd q hc) (fun _ => ?_)
            refine J.aload_n (pc := 71) dX11_later_71 rfl 1 rfl ?_
            refine J.bipush (pc := 72) dX11_later_72 ib_79 ?_
            refine J.iload_n (pc := 74) dX11_later_74 rfl 0 rfl ?_
            obtain ⟨r30, e29, h⟩ := bnd h
            refine J.callV (Y := mX11_later) (Z := mX11_standAt) (pc := 75) (st := []) (k2 := 0) (n2 := 0) dX11_later_75 ml_RX11_304 mo_X11_standAt mv_X11_standAt rfl (tX11_standAt (d + 6) e29 hN20 k0) k0 (okN hN20 k0 (by decide)).1 (okN hN20 k0 (by decide)).2 cq_11 (by decide) rfl rfl (Nat.le_of_ble_eq_true rfl) (by decide) (by decide) (fun v ν hp => ?_) (fun i ν hp => nrm hp.1)
            obtain ⟨rfl, rfl, hN31, hb32⟩ := QEl hp
            show J _ _ _ _ 78 _ ([.int r30]) _ _ _ _
            cases h
            exact J.iret (pc := 78) dX11_later_78 rfl ⟨rfl, rfl, hN31, trivial⟩
def fX11_let (v0 : Nat) (v1 : Int32) (v2 : Int32) (μ : Mem) : Option (Int32 × Mem) :=
  (some (sI μ v0 0 (0 : Int32))).bind fun μ1 =>
  (fX11_isPerson v0 v1 μ1).bind fun (r6, μ5) =>
  if r6 = 0 then
    some ((0 : Int32), μ5)
  else
    (fX11_placeOf v0 v2 μ5).bind fun (r11, μ10) =>
    if r11 = (-1 : Int32) then
      some ((0 : Int32), μ10)
    else
      (gR μ10 v0 34 0).bind fun a14 =>
      (ldI μ10 a14 ((55 : Int32) + v1)).bind fun x17 =>
      if x17 = r11 then
        (fX11_refuses v0 (1 : Int32) μ10).bind fun (r21, μ20) =>
        some (r21, μ20)
      else
        (fX11_isWhite v0 (0 : Int32) r11 μ10).bind fun r25 =>
        if r25 = 0 then
          (fX11_refuses v0 (1 : Int32) μ10).bind fun (r30, μ29) =>
          some (r30, μ29)
        else
          (fX11_keeps v0 μ10).bind fun μ34 =>
          (gR μ34 v0 34 0).bind fun a37 =>
          (stI μ34 a37 ((55 : Int32) + v1) r11).bind fun μ40 =>
          some ((fX11_toldAs x17), μ40)
set_option maxHeartbeats 4000000 in
theorem tX11_let {ω : Wd} {l : Launch} (d : Nat) {v0 : Nat} {v1 : Int32} {v2 : Int32} {μ : Mem} {res : Int32 × Mem} (h : fX11_let v0 v1 v2 μ = some res) (hN : μ.1 = NN) (k0 : (kd v0).1 = 21) : Ct ω l mX11_let (d + 2) [.ref v0, .int v1, .int v2] μ 0 0 (PE (.inl (some (.int res.1))) res.2 True) := by
  refine Ct.of pn_RX11 (Nat.le_of_ble_eq_true rfl) ?_
  show J ω l mX11_let (d + 2) 0 [(0, .ref v0), (1, .int v1), (2, .int v2)] [] μ 0 0 _
  unfold fX11_let at h
  refine J.aload_n (pc := 0) dX11_let_0 rfl 0 rfl ?_
  refine J.iconst (pc := 1) dX11_let_1 ic_0 ?_
  obtain ⟨μ1, e2, h⟩ := bnd h
  have hN3 : μ1.1 = NN := smN e2 hN
  refine J.qI (pc := 2) dX11_let_2 fl_RX11_99 k0 (okN hN k0 (by decide)) rfl rfl e2 ?_
  refine J.aload_n (pc := 5) dX11_let_5 rfl 0 rfl ?_
  refine J.iload_n (pc := 6) dX11_let_6 rfl 1 rfl ?_
  obtain ⟨⟨r6, μ5⟩, e4, h⟩ := bnd h
  try dsimp only at h
  refine J.callV (Y := mX11_let) (Z := mX11_isPerson) (pc := 7) (st := []) (k2 := 0) (n2 := 0) dX11_let_7 ml_RX11_368 mo_X11_isPerson mv_X11_isPerson rfl (tX11_isPerson d e4 hN3 k0) k0 (okN hN3 k0 (by decide)).1 (okN hN3 k0 (by decide)).2 cq_11 (by decide) rfl rfl (Nat.le_of_ble_eq_true rfl) (by decide) (by decide) (fun v ν hp => ?_) (fun i ν hp => nrm hp.1)
  obtain ⟨rfl, rfl, hN7, hb8⟩ := QEl hp
  show J _ _ _ _ 10 _ ([.int r6]) _ _ _ _
  rcases ifc h with ⟨hc, h⟩ | ⟨hc, h⟩
  · refine J.zne (pc := 10) (tgt := 15) dX11_let_10 (by decide) (fun _ => ?_) (fun q => absurd hc q)
    refine J.iconst (pc := 13) dX11_let_13 ic_0 ?_
    cases h
    exact J.iret (pc := 14) dX11_let_14 rfl ⟨rfl, rfl, hN7, trivial⟩
  · refine J.zne (pc := 10) (tgt := 15) dX11_let_10 (by decide) (fun q => absurd q hc) (fun _ => ?_)
    refine J.aload_n (pc := 15) dX11_let_15 rfl 0 rfl ?_
    refine J.iload_n (pc := 16) dX11_let_16 rfl 2 rfl ?_
    obtain ⟨⟨r11, μ10⟩, e9, h⟩ := bnd h
    try dsimp only at h
    refine J.callV (Y := mX11_let) (Z := mX11_placeOf) (pc := 17) (st := []) (k2 := 0) (n2 := 0) dX11_let_17 ml_RX11_380 mo_X11_placeOf mv_X11_placeOf rfl (tX11_placeOf d e9 hN7 k0) k0 (okN hN7 k0 (by decide)).1 (okN hN7 k0 (by decide)).2 cq_11 (by decide) rfl rfl (Nat.le_of_ble_eq_true rfl) (by decide) (by decide) (fun v ν hp => ?_) (fun i ν hp => nrm hp.1)
    obtain ⟨rfl, rfl, hN12, hb13⟩ := QEl hp
    show J _ _ _ _ 20 _ ([.int r11]) _ _ _ _
    refine J.istore_n (pc := 20) ([(3, .int r11), (0, .ref v0), (1, .int v1), (2, .int v2)]) dX11_let_20 rfl (Nat.le_of_ble_eq_true rfl) rfl ?_
    refine J.iload_n (pc := 21) dX11_let_21 rfl 0 rfl ?_
    refine J.iconst (pc := 22) dX11_let_22 ic_m1 ?_
    rcases ifc h with ⟨hc, h⟩ | ⟨hc, h⟩
    · refine J.cne (pc := 23) (tgt := 28) dX11_let_23 (by decide) (fun _ => ?_) (fun q => absurd hc q)
      refine J.iconst (pc := 26) dX11_let_26 ic_0 ?_
      cases h
      exact J.iret (pc := 27) dX11_let_27 rfl ⟨rfl, rfl, hN12, trivial⟩
    · refine J.cne (pc := 23) (tgt := 28) dX11_let_23 (by decide) (fun q => absurd q hc) (fun _ => ?_)
      refine J.aload_n (pc := 28) dX11_let_28 rfl 1 rfl ?_
      obtain ⟨a14, e15, h⟩ := bnd h
      have k16 : (kd a14).1 = 0 := gR_k e15
      refine J.fR (pc := 29) dX11_let_29 fl_RX11_48 k0 (okN hN12 k0 (by decide)) rfl e15 ?_
      refine J.bipush (pc := 32) dX11_let_32 ib_55 ?_
      refine J.iload_n (pc := 34) dX11_let_34 rfl 2 rfl ?_
      refine J.iadd (pc := 35) dX11_let_35 ?_
      obtain ⟨x17, e18, h⟩ := bnd h
      refine J.aI (pc := 36) dX11_let_36 k16 (okN hN12 k16 (by decide)) e18 ?_
      refine J.istore (pc := 37) ([(4, .int x17), (3, .int r11), (0, .ref v0), (1, .int v1), (2, .int v2)]) dX11_let_37 (Nat.le_of_ble_eq_true rfl) rfl ?_
      refine J.iload (pc := 39) dX11_let_39 0 rfl ?_
      refine J.iload_n (pc := 41) dX11_let_41 rfl 1 rfl ?_
      rcases ifc h with ⟨hc, h⟩ | ⟨hc, h⟩
      · refine J.ceq (pc := 42) (tgt := 54) dX11_let_42 (by decide) (fun _ => ?_) (fun q => absurd hc q)
        refine J.aload_n (pc := 54) dX11_let_54 rfl 2 rfl ?_
        refine J.iconst (pc := 55) dX11_let_55 ic_1 ?_
        obtain ⟨⟨r21, μ20⟩, e19, h⟩ := bnd h
        try dsimp only at h
        refine J.callV (Y := mX11_let) (Z := mX11_refuses) (pc := 56) (st := []) (k2 := 0) (n2 := 0) dX11_let_56 ml_RX11_383 mo_X11_refuses mv_X11_refuses rfl (tX11_refuses (d + 1) e19 hN12 k0) k0 (okN hN12 k0 (by decide)).1 (okN hN12 k0 (by decide)).2 cq_11 (by decide) rfl rfl (Nat.le_of_ble_eq_true rfl) (by decide) (by decide) (fun v ν hp => ?_) (fun i ν hp => nrm hp.1)
        obtain ⟨rfl, rfl, hN22, hb23⟩ := QEl hp
        show J _ _ _ _ 59 _ ([.int r21]) _ _ _ _
        cases h
        exact J.iret (pc := 59) dX11_let_59 rfl ⟨rfl, rfl, hN22, trivial⟩
      · refine J.ceq (pc := 42) (tgt := 54) dX11_let_42 (by decide) (fun q => absurd q hc) (fun _ => ?_)
        refine J.aload_n (pc := 45) dX11_let_45 rfl 2 rfl ?_
        refine J.iconst (pc := 46) dX11_let_46 ic_0 ?_
        refine J.iload_n (pc := 47) dX11_let_47 rfl 1 rfl ?_
        obtain ⟨r25, e24, h⟩ := bnd h
        refine J.callV (Y := mX11_let) (Z := mX11_isWhite) (pc := 48) (st := []) (k2 := 0) (n2 := 0) dX11_let_48 ml_RX11_297 mo_X11_isWhite mv_X11_isWhite rfl (tX11_isWhite (d + 1) e24 hN12 k0) k0 (okN hN12 k0 (by decide)).1 (okN hN12 k0 (by decide)).2 cq_11 (by decide) rfl rfl (Nat.le_of_ble_eq_true rfl) (by decide) (by decide) (fun v ν hp => ?_) (fun i ν hp => nrm hp.1)
        obtain ⟨rfl, rfl, hN26, hb27⟩ := QEl hp
        show J _ _ _ _ 51 _ ([.int r25]) _ _ _ _
        rcases ifc h with ⟨hc, h⟩ | ⟨hc, h⟩
        · refine J.zne (pc := 51) (tgt := 60) dX11_let_51 (by decide) (fun _ => ?_) (fun q => absurd hc q)
          refine J.aload_n (pc := 54) dX11_let_54 rfl 2 rfl ?_
          refine J.iconst (pc := 55) dX11_let_55 ic_1 ?_
          obtain ⟨⟨r30, μ29⟩, e28, h⟩ := bnd h
          try dsimp only at h
          refine J.callV (Y := mX11_let) (Z := mX11_refuses) (pc := 56) (st := []) (k2 := 0) (n2 := 0) dX11_let_56 ml_RX11_383 mo_X11_refuses mv_X11_refuses rfl (tX11_refuses (d + 1) e28 hN26 k0) k0 (okN hN26 k0 (by decide)).1 (okN hN26 k0 (by decide)).2 cq_11 (by decide) rfl rfl (Nat.le_of_ble_eq_true rfl) (by decide) (by decide) (fun v ν hp => ?_) (fun i ν hp => nrm hp.1)
          obtain ⟨rfl, rfl, hN31, hb32⟩ := QEl hp
          show J _ _ _ _ 59 _ ([.int r30]) _ _ _ _
          cases h
          exact J.iret (pc := 59) dX11_let_59 rfl ⟨rfl, rfl, hN31, trivial⟩
        · refine J.zne (pc := 51) (tgt := 60) dX11_let_51 (by decide) (fun q => absurd q hc) (fun _ => ?_)
          refine J.aload_n (pc := 60) dX11_let_60 rfl 2 rfl ?_
          obtain ⟨μ34, e33, h⟩ := bnd h
          refine J.callV (Y := mX11_let) (Z := mX11_keeps) (pc := 61) (st := []) (k2 := 0) (n2 := 0) dX11_let_61 ml_RX11_386 mo_X11_keeps mv_X11_keeps rfl (tX11_keeps (d + 1) e33 hN26 k0) k0 (okN hN26 k0 (by decide)).1 (okN hN26 k0 (by decide)).2 cq_11 (by decide) rfl rfl (Nat.le_of_ble_eq_true rfl) (by decide) (by decide) (fun v ν hp => ?_) (fun i ν hp => nrm hp.1)
          obtain ⟨rfl, rfl, hN35, hb36⟩ := QEl hp
          show J _ _ _ _ 64 _ ([]) _ _ _ _
          refine J.aload_n (pc := 64) dX11_let_64 rfl 2 rfl ?_
          obtain ⟨a37, e38, h⟩ := bnd h
          have k39 : (kd a37).1 = 0 := gR_k e38
          refine J.fR (pc := 65) dX11_let_65 fl_RX11_48 k0 (okN hN35 k0 (by decide)) rfl e38 ?_
          refine J.bipush (pc := 68) dX11_let_68 ib_55 ?_
          refine J.iload_n (pc := 70) dX11_let_70 rfl 3 rfl ?_
          refine J.iadd (pc := 71) dX11_let_71 ?_
          refine J.iload_n (pc := 72) dX11_let_72 rfl 1 rfl ?_
          obtain ⟨μ40, e41, h⟩ := bnd h
          have hN42 : μ40.1 = NN := stI_N e41 hN35
          refine J.wI (pc := 73) dX11_let_73 k39 (okN hN35 k39 (by decide)) e41 ?_
          refine J.iload (pc := 74) dX11_let_74 0 rfl ?_
          refine J.callS (Y := mX11_let) (Z := mX11_toldAs) (pc := 76) (st := []) (k2 := 0) (n2 := 0) dX11_let_76 ml_RX11_371 mo_X11_toldAs ms_X11_toldAs rfl (tX11_toldAs (d + 1) x17 μ40 hN42 ) rfl rfl (Nat.le_of_ble_eq_true rfl) (by decide) (by decide) (fun v ν hp => ?_) (fun i ν hp => nrm hp.1)
          obtain ⟨rfl, rfl, hN44, hb45⟩ := QEl hp
          show J _ _ _ _ 79 _ ([.int (fX11_toldAs x17)]) _ _ _ _
          cases h
          exact J.iret (pc := 79) dX11_let_79 rfl ⟨rfl, rfl, hN44, trivial⟩
def fX11_look_123  (K111 : Nat → Int32 → Int32 → Int32 → Int32 → Int32 → Int32 → Int32 → Mem → Option (Int32 × Mem)) : Nat → Nat → Int32 → Int32 → Int32 → Int32 → Int32 → Int32 → Int32 → Int32 → Int32 → Mem → Option (Int32 × Mem)
  | 0, _, _, _, _, _, _, _, _, _, _, _ => none
  | n + 1, v0, v1, v2, v3, v4, v5, v6, v7, v8, v9, μ =>
    if v9 < v7 then
      if v8 = 0 then
        if v8 = 0 then
          K111 v0 v1 v2 v3 v4 v5 (v6 + (0 : Int32)) (v7 + (1 : Int32)) μ
        else
          K111 v0 v1 v2 v3 v4 v5 (v6 + (1 : Int32)) (v7 + (1 : Int32)) μ
      else
        (gR μ v0 52 0).bind fun a1 =>
        (ldI μ a1 (((6 : Int32) * v7) + v5)).bind fun x4 =>
        (gR μ v0 52 0).bind fun a6 =>
        (ldI μ a6 (((6 : Int32) * v9) + v5)).bind fun x9 =>
        if x4 = x9 then
          (fX11_look_123 K111 n) v0 v1 v2 v3 v4 v5 v6 v7 (0 : Int32) (v9 + (1 : Int32)) μ
        else
          (fX11_look_123 K111 n) v0 v1 v2 v3 v4 v5 v6 v7 (1 : Int32) (v9 + (1 : Int32)) μ
    else
      if v8 = 0 then
        K111 v0 v1 v2 v3 v4 v5 (v6 + (0 : Int32)) (v7 + (1 : Int32)) μ
      else
        K111 v0 v1 v2 v3 v4 v5 (v6 + (1 : Int32)) (v7 + (1 : Int32)) μ
set_option maxHeartbeats 4000000 in
theorem tX11_look_123 {ω : Wd} {l : Launch} (d : Nat) {res : Int32 × Mem} (K111 : Nat → Int32 → Int32 → Int32 → Int32 → Int32 → Int32 → Int32 → Mem → Option (Int32 × Mem)) (hK111 : ∀ (v0 : Nat) (v1 : Int32) (v2 : Int32) (v3 : Int32) (v4 : Int32) (v5 : Int32) (v6 : Int32) (v7 : Int32) (μ : Mem), K111 v0 v1 v2 v3 v4 v5 v6 v7 μ = some res → μ.1 = NN → (kd v0).1 = 21 → J ω l mX11_look (d + 7) 111 [(0, .ref v0), (1, .int v1), (2, .int v2), (3, .int v3), (4, .int v4), (5, .int v5), (6, .int v6), (7, .int v7)] [] μ 0 0 (PE (.inl (some (.int res.1))) res.2 True)) : ∀ n : Nat, ∀ (v0 : Nat) (v1 : Int32) (v2 : Int32) (v3 : Int32) (v4 : Int32) (v5 : Int32) (v6 : Int32) (v7 : Int32) (v8 : Int32) (v9 : Int32) (μ : Mem), fX11_look_123 K111 n v0 v1 v2 v3 v4 v5 v6 v7 v8 v9 μ = some res → μ.1 = NN → (kd v0).1 = 21 → J ω l mX11_look (d + 7) 123 [(0, .ref v0), (1, .int v1), (2, .int v2), (3, .int v3), (4, .int v4), (5, .int v5), (6, .int v6), (7, .int v7), (8, .int v8), (9, .int v9)] [] μ 0 0 (PE (.inl (some (.int res.1))) res.2 True) := by
  intro n
  induction n with
  | zero =>
    intro v0 v1 v2 v3 v4 v5 v6 v7 v8 v9 μ h hN k0
    have h9 : (none : Option (Int32 × Mem)) = some res := h
    cases h9
  | succ n ih =>
    intro v0 v1 v2 v3 v4 v5 v6 v7 v8 v9 μ h hN k0
    unfold fX11_look_123 at h
    refine J.iload (pc := 123) dX11_look_123 9 rfl ?_
    refine J.iload (pc := 125) dX11_look_125 7 rfl ?_
    rcases ifc h with ⟨hc, h⟩ | ⟨hc, h⟩
    · refine J.cge (pc := 127) (tgt := 177) dX11_look_127 (by decide) (fun _ => ?_) (fun q => absurd hc q)
      refine J.iload (pc := 130) dX11_look_130 8 rfl ?_
      rcases ifc h with ⟨hc, h⟩ | ⟨hc, h⟩
      · refine J.zeq (pc := 132) (tgt := 177) dX11_look_132 (by decide) (fun _ => ?_) (fun q => absurd hc q)
        refine J.iload (pc := 177) dX11_look_177 6 rfl ?_
        refine J.iload (pc := 179) dX11_look_179 8 rfl ?_
        rcases ifc h with ⟨hc, h⟩ | ⟨hc, h⟩
        · refine J.zeq (pc := 181) (tgt := 188) dX11_look_181 (by decide) (fun _ => ?_) (fun q => absurd hc q)
          refine J.iconst (pc := 188) dX11_look_188 ic_0 ?_
          refine J.iadd (pc := 189) dX11_look_189 ?_
          refine J.istore (pc := 190) ([(6, .int (v6 + (0 : Int32))), (0, .ref v0), (1, .int v1), (2, .int v2), (3, .int v3), (4, .int v4), (5, .int v5), (7, .int v7), (8, .int v8), (9, .int v9)]) dX11_look_190 (Nat.le_of_ble_eq_true rfl) rfl ?_
          refine J.iinc (pc := 192) (j := 7) ([(7, .int (v7 + (1 : Int32))), (6, .int (v6 + (0 : Int32))), (0, .ref v0), (1, .int v1), (2, .int v2), (3, .int v3), (4, .int v4), (5, .int v5), (8, .int v8), (9, .int v9)]) dX11_look_192 rfl (iincv ic_1) (Nat.le_of_ble_eq_true rfl) rfl ?_
          refine J.goto (pc := 195) (tgt := 111) dX11_look_195 (by decide) ?_
          refine J.pick [2, 3, 4, 5, 6, 7, 1, 0] rfl ?_
          exact hK111 v0 v1 v2 v3 v4 v5 (v6 + (0 : Int32)) (v7 + (1 : Int32)) μ h hN k0
        · refine J.zeq (pc := 181) (tgt := 188) dX11_look_181 (by decide) (fun q => absurd q hc) (fun _ => ?_)
          refine J.iconst (pc := 184) dX11_look_184 ic_1 ?_
          refine J.goto (pc := 185) (tgt := 189) dX11_look_185 (by decide) ?_
          refine J.iadd (pc := 189) dX11_look_189 ?_
          refine J.istore (pc := 190) ([(6, .int (v6 + (1 : Int32))), (0, .ref v0), (1, .int v1), (2, .int v2), (3, .int v3), (4, .int v4), (5, .int v5), (7, .int v7), (8, .int v8), (9, .int v9)]) dX11_look_190 (Nat.le_of_ble_eq_true rfl) rfl ?_
          refine J.iinc (pc := 192) (j := 7) ([(7, .int (v7 + (1 : Int32))), (6, .int (v6 + (1 : Int32))), (0, .ref v0), (1, .int v1), (2, .int v2), (3, .int v3), (4, .int v4), (5, .int v5), (8, .int v8), (9, .int v9)]) dX11_look_192 rfl (iincv ic_1) (Nat.le_of_ble_eq_true rfl) rfl ?_
          refine J.goto (pc := 195) (tgt := 111) dX11_look_195 (by decide) ?_
          refine J.pick [2, 3, 4, 5, 6, 7, 1, 0] rfl ?_
          exact hK111 v0 v1 v2 v3 v4 v5 (v6 + (1 : Int32)) (v7 + (1 : Int32)) μ h hN k0
      · refine J.zeq (pc := 132) (tgt := 177) dX11_look_132 (by decide) (fun q => absurd q hc) (fun _ => ?_)
        refine J.aload_n (pc := 135) dX11_look_135 rfl 0 rfl ?_
        obtain ⟨a1, e2, h⟩ := bnd h
        have k3 : (kd a1).1 = 0 := gR_k e2
        refine J.fR (pc := 136) dX11_look_136 fl_RX11_87 k0 (okN hN k0 (by decide)) rfl e2 ?_
        refine J.bipush (pc := 139) dX11_look_139 ib_6 ?_
        refine J.iload (pc := 141) dX11_look_141 7 rfl ?_
        refine J.imul (pc := 143) dX11_look_143 ?_
        refine J.iload (pc := 144) dX11_look_144 5 rfl ?_
        refine J.iadd (pc := 146) dX11_look_146 ?_
        obtain ⟨x4, e5, h⟩ := bnd h
        refine J.aI (pc := 147) dX11_look_147 k3 (okN hN k3 (by decide)) e5 ?_
        refine J.aload_n (pc := 148) dX11_look_148 rfl 0 rfl ?_
        obtain ⟨a6, e7, h⟩ := bnd h
        have k8 : (kd a6).1 = 0 := gR_k e7
        refine J.fR (pc := 149) dX11_look_149 fl_RX11_87 k0 (okN hN k0 (by decide)) rfl e7 ?_
        refine J.bipush (pc := 152) dX11_look_152 ib_6 ?_
        refine J.iload (pc := 154) dX11_look_154 9 rfl ?_
        refine J.imul (pc := 156) dX11_look_156 ?_
        refine J.iload (pc := 157) dX11_look_157 5 rfl ?_
        refine J.iadd (pc := 159) dX11_look_159 ?_
        obtain ⟨x9, e10, h⟩ := bnd h
        refine J.aI (pc := 160) dX11_look_160 k8 (okN hN k8 (by decide)) e10 ?_
        rcases ifc h with ⟨hc, h⟩ | ⟨hc, h⟩
        · refine J.ceq (pc := 161) (tgt := 168) dX11_look_161 (by decide) (fun _ => ?_) (fun q => absurd hc q)
          refine J.iconst (pc := 168) dX11_look_168 ic_0 ?_
          refine J.istore (pc := 169) ([(8, .int (0 : Int32)), (0, .ref v0), (1, .int v1), (2, .int v2), (3, .int v3), (4, .int v4), (5, .int v5), (6, .int v6), (7, .int v7), (9, .int v9)]) dX11_look_169 (Nat.le_of_ble_eq_true rfl) rfl ?_
          refine J.iinc (pc := 171) (j := 9) ([(9, .int (v9 + (1 : Int32))), (8, .int (0 : Int32)), (0, .ref v0), (1, .int v1), (2, .int v2), (3, .int v3), (4, .int v4), (5, .int v5), (6, .int v6), (7, .int v7)]) dX11_look_171 rfl (iincv ic_1) (Nat.le_of_ble_eq_true rfl) rfl ?_
          refine J.goto (pc := 174) (tgt := 123) dX11_look_174 (by decide) ?_
          refine J.pick [2, 3, 4, 5, 6, 7, 8, 9, 1, 0] rfl ?_
          exact ih v0 v1 v2 v3 v4 v5 v6 v7 (0 : Int32) (v9 + (1 : Int32)) μ h hN k0
        · refine J.ceq (pc := 161) (tgt := 168) dX11_look_161 (by decide) (fun q => absurd q hc) (fun _ => ?_)
          refine J.iconst (pc := 164) dX11_look_164 ic_1 ?_
          refine J.goto (pc := 165) (tgt := 169) dX11_look_165 (by decide) ?_
          refine J.istore (pc := 169) ([(8, .int (1 : Int32)), (0, .ref v0), (1, .int v1), (2, .int v2), (3, .int v3), (4, .int v4), (5, .int v5), (6, .int v6), (7, .int v7), (9, .int v9)]) dX11_look_169 (Nat.le_of_ble_eq_true rfl) rfl ?_
          refine J.iinc (pc := 171) (j := 9) ([(9, .int (v9 + (1 : Int32))), (8, .int (1 : Int32)), (0, .ref v0), (1, .int v1), (2, .int v2), (3, .int v3), (4, .int v4), (5, .int v5), (6, .int v6), (7, .int v7)]) dX11_look_171 rfl (iincv ic_1) (Nat.le_of_ble_eq_true rfl) rfl ?_
          refine J.goto (pc := 174) (tgt := 123) dX11_look_174 (by decide) ?_
          refine J.pick [2, 3, 4, 5, 6, 7, 8, 9, 1, 0] rfl ?_
          exact ih v0 v1 v2 v3 v4 v5 v6 v7 (1 : Int32) (v9 + (1 : Int32)) μ h hN k0
    · refine J.cge (pc := 127) (tgt := 177) dX11_look_127 (by decide) (fun q => absurd q hc) (fun _ => ?_)
      refine J.iload (pc := 177) dX11_look_177 6 rfl ?_
      refine J.iload (pc := 179) dX11_look_179 8 rfl ?_
      rcases ifc h with ⟨hc, h⟩ | ⟨hc, h⟩
      · refine J.zeq (pc := 181) (tgt := 188) dX11_look_181 (by decide) (fun _ => ?_) (fun q => absurd hc q)
        refine J.iconst (pc := 188) dX11_look_188 ic_0 ?_
        refine J.iadd (pc := 189) dX11_look_189 ?_
        refine J.istore (pc := 190) ([(6, .int (v6 + (0 : Int32))), (0, .ref v0), (1, .int v1), (2, .int v2), (3, .int v3), (4, .int v4), (5, .int v5), (7, .int v7), (8, .int v8), (9, .int v9)]) dX11_look_190 (Nat.le_of_ble_eq_true rfl) rfl ?_
        refine J.iinc (pc := 192) (j := 7) ([(7, .int (v7 + (1 : Int32))), (6, .int (v6 + (0 : Int32))), (0, .ref v0), (1, .int v1), (2, .int v2), (3, .int v3), (4, .int v4), (5, .int v5), (8, .int v8), (9, .int v9)]) dX11_look_192 rfl (iincv ic_1) (Nat.le_of_ble_eq_true rfl) rfl ?_
        refine J.goto (pc := 195) (tgt := 111) dX11_look_195 (by decide) ?_
        refine J.pick [2, 3, 4, 5, 6, 7, 1, 0] rfl ?_
        exact hK111 v0 v1 v2 v3 v4 v5 (v6 + (0 : Int32)) (v7 + (1 : Int32)) μ h hN k0
      · refine J.zeq (pc := 181) (tgt := 188) dX11_look_181 (by decide) (fun q => absurd q hc) (fun _ => ?_)
        refine J.iconst (pc := 184) dX11_look_184 ic_1 ?_
        refine J.goto (pc := 185) (tgt := 189) dX11_look_185 (by decide) ?_
        refine J.iadd (pc := 189) dX11_look_189 ?_
        refine J.istore (pc := 190) ([(6, .int (v6 + (1 : Int32))), (0, .ref v0), (1, .int v1), (2, .int v2), (3, .int v3), (4, .int v4), (5, .int v5), (7, .int v7), (8, .int v8), (9, .int v9)]) dX11_look_190 (Nat.le_of_ble_eq_true rfl) rfl ?_
        refine J.iinc (pc := 192) (j := 7) ([(7, .int (v7 + (1 : Int32))), (6, .int (v6 + (1 : Int32))), (0, .ref v0), (1, .int v1), (2, .int v2), (3, .int v3), (4, .int v4), (5, .int v5), (8, .int v8), (9, .int v9)]) dX11_look_192 rfl (iincv ic_1) (Nat.le_of_ble_eq_true rfl) rfl ?_
        refine J.goto (pc := 195) (tgt := 111) dX11_look_195 (by decide) ?_
        refine J.pick [2, 3, 4, 5, 6, 7, 1, 0] rfl ?_
        exact hK111 v0 v1 v2 v3 v4 v5 (v6 + (1 : Int32)) (v7 + (1 : Int32)) μ h hN k0
def fX11_look_111  (K96 : Nat → Int32 → Int32 → Int32 → Int32 → Int32 → Mem → Option (Int32 × Mem)) : Nat → Nat → Int32 → Int32 → Int32 → Int32 → Int32 → Int32 → Int32 → Mem → Option (Int32 × Mem)
  | 0, _, _, _, _, _, _, _, _, _ => none
  | n + 1, v0, v1, v2, v3, v4, v5, v6, v7, μ =>
    if v7 < v2 then
      (fX11_look_123 (fX11_look_111 K96 n) fuel) v0 v1 v2 v3 v4 v5 v6 v7 (1 : Int32) (0 : Int32) μ
    else
      if v4 < v6 then
        K96 v0 v1 v2 v5 v6 (v5 + (1 : Int32)) μ
      else
        K96 v0 v1 v2 v3 v4 (v5 + (1 : Int32)) μ
set_option maxHeartbeats 4000000 in
theorem tX11_look_111 {ω : Wd} {l : Launch} (d : Nat) {res : Int32 × Mem} (K96 : Nat → Int32 → Int32 → Int32 → Int32 → Int32 → Mem → Option (Int32 × Mem)) (hK96 : ∀ (v0 : Nat) (v1 : Int32) (v2 : Int32) (v3 : Int32) (v4 : Int32) (v5 : Int32) (μ : Mem), K96 v0 v1 v2 v3 v4 v5 μ = some res → μ.1 = NN → (kd v0).1 = 21 → J ω l mX11_look (d + 7) 96 [(0, .ref v0), (1, .int v1), (2, .int v2), (3, .int v3), (4, .int v4), (5, .int v5)] [] μ 0 0 (PE (.inl (some (.int res.1))) res.2 True)) : ∀ n : Nat, ∀ (v0 : Nat) (v1 : Int32) (v2 : Int32) (v3 : Int32) (v4 : Int32) (v5 : Int32) (v6 : Int32) (v7 : Int32) (μ : Mem), fX11_look_111 K96 n v0 v1 v2 v3 v4 v5 v6 v7 μ = some res → μ.1 = NN → (kd v0).1 = 21 → J ω l mX11_look (d + 7) 111 [(0, .ref v0), (1, .int v1), (2, .int v2), (3, .int v3), (4, .int v4), (5, .int v5), (6, .int v6), (7, .int v7)] [] μ 0 0 (PE (.inl (some (.int res.1))) res.2 True) := by
  intro n
  induction n with
  | zero =>
    intro v0 v1 v2 v3 v4 v5 v6 v7 μ h hN k0
    have h9 : (none : Option (Int32 × Mem)) = some res := h
    cases h9
  | succ n ih =>
    intro v0 v1 v2 v3 v4 v5 v6 v7 μ h hN k0
    unfold fX11_look_111 at h
    refine J.iload (pc := 111) dX11_look_111 7 rfl ?_
    refine J.iload_n (pc := 113) dX11_look_113 rfl 2 rfl ?_
    rcases ifc h with ⟨hc, h⟩ | ⟨hc, h⟩
    · refine J.cge (pc := 114) (tgt := 198) dX11_look_114 (by decide) (fun _ => ?_) (fun q => absurd hc q)
      refine J.iconst (pc := 117) dX11_look_117 ic_1 ?_
      refine J.istore (pc := 118) ([(8, .int (1 : Int32)), (0, .ref v0), (1, .int v1), (2, .int v2), (3, .int v3), (4, .int v4), (5, .int v5), (6, .int v6), (7, .int v7)]) dX11_look_118 (Nat.le_of_ble_eq_true rfl) rfl ?_
      refine J.iconst (pc := 120) dX11_look_120 ic_0 ?_
      refine J.istore (pc := 121) ([(9, .int (0 : Int32)), (8, .int (1 : Int32)), (0, .ref v0), (1, .int v1), (2, .int v2), (3, .int v3), (4, .int v4), (5, .int v5), (6, .int v6), (7, .int v7)]) dX11_look_121 (Nat.le_of_ble_eq_true rfl) rfl ?_
      refine J.pick [2, 3, 4, 5, 6, 7, 8, 9, 1, 0] rfl ?_
      exact (tX11_look_123 d (fX11_look_111 K96 n) ih fuel) v0 v1 v2 v3 v4 v5 v6 v7 (1 : Int32) (0 : Int32) μ h hN k0
    · refine J.cge (pc := 114) (tgt := 198) dX11_look_114 (by decide) (fun q => absurd q hc) (fun _ => ?_)
      refine J.iload (pc := 198) dX11_look_198 6 rfl ?_
      refine J.iload (pc := 200) dX11_look_200 4 rfl ?_
      rcases ifc h with ⟨hc, h⟩ | ⟨hc, h⟩
      · refine J.cgt (pc := 202) (tgt := 208) dX11_look_202 (by decide) (fun _ => ?_) (fun q => absurd hc q)
        refine J.iload (pc := 208) dX11_look_208 5 rfl ?_
        refine J.istore_n (pc := 210) ([(3, .int v5), (0, .ref v0), (1, .int v1), (2, .int v2), (4, .int v4), (5, .int v5), (6, .int v6), (7, .int v7)]) dX11_look_210 rfl (Nat.le_of_ble_eq_true rfl) rfl ?_
        refine J.iload (pc := 211) dX11_look_211 6 rfl ?_
        refine J.istore (pc := 213) ([(4, .int v6), (3, .int v5), (0, .ref v0), (1, .int v1), (2, .int v2), (5, .int v5), (6, .int v6), (7, .int v7)]) dX11_look_213 (Nat.le_of_ble_eq_true rfl) rfl ?_
        refine J.iinc (pc := 215) (j := 5) ([(5, .int (v5 + (1 : Int32))), (4, .int v6), (3, .int v5), (0, .ref v0), (1, .int v1), (2, .int v2), (6, .int v6), (7, .int v7)]) dX11_look_215 rfl (iincv ic_1) (Nat.le_of_ble_eq_true rfl) rfl ?_
        refine J.goto (pc := 218) (tgt := 96) dX11_look_218 (by decide) ?_
        refine J.pick [3, 4, 5, 2, 1, 0] rfl ?_
        exact hK96 v0 v1 v2 v5 v6 (v5 + (1 : Int32)) μ h hN k0
      · refine J.cgt (pc := 202) (tgt := 208) dX11_look_202 (by decide) (fun q => absurd q hc) (fun _ => ?_)
        refine J.goto (pc := 205) (tgt := 215) dX11_look_205 (by decide) ?_
        refine J.iinc (pc := 215) (j := 5) ([(5, .int (v5 + (1 : Int32))), (0, .ref v0), (1, .int v1), (2, .int v2), (3, .int v3), (4, .int v4), (6, .int v6), (7, .int v7)]) dX11_look_215 rfl (iincv ic_1) (Nat.le_of_ble_eq_true rfl) rfl ?_
        refine J.goto (pc := 218) (tgt := 96) dX11_look_218 (by decide) ?_
        refine J.pick [1, 2, 3, 4, 5, 0] rfl ?_
        exact hK96 v0 v1 v2 v3 v4 (v5 + (1 : Int32)) μ h hN k0
def fX11_look_96  : Nat → Nat → Int32 → Int32 → Int32 → Int32 → Int32 → Mem → Option (Int32 × Mem)
  | 0, _, _, _, _, _, _, _ => none
  | n + 1, v0, v1, v2, v3, v4, v5, μ =>
    if v5 < (μ.2.1 v0 2) then
      (fX11_look_111 (fX11_look_96 n) fuel) v0 v1 v2 v3 v4 v5 (0 : Int32) (0 : Int32) μ
    else
      if v1 = 0 then
        some (v3, μ)
      else
        some (v4, μ)
set_option maxHeartbeats 4000000 in
theorem tX11_look_96 {ω : Wd} {l : Launch} (d : Nat) {res : Int32 × Mem} : ∀ n : Nat, ∀ (v0 : Nat) (v1 : Int32) (v2 : Int32) (v3 : Int32) (v4 : Int32) (v5 : Int32) (μ : Mem), fX11_look_96 n v0 v1 v2 v3 v4 v5 μ = some res → μ.1 = NN → (kd v0).1 = 21 → J ω l mX11_look (d + 7) 96 [(0, .ref v0), (1, .int v1), (2, .int v2), (3, .int v3), (4, .int v4), (5, .int v5)] [] μ 0 0 (PE (.inl (some (.int res.1))) res.2 True) := by
  intro n
  induction n with
  | zero =>
    intro v0 v1 v2 v3 v4 v5 μ h hN k0
    have h9 : (none : Option (Int32 × Mem)) = some res := h
    cases h9
  | succ n ih =>
    intro v0 v1 v2 v3 v4 v5 μ h hN k0
    unfold fX11_look_96 at h
    refine J.iload (pc := 96) dX11_look_96 5 rfl ?_
    refine J.aload_n (pc := 98) dX11_look_98 rfl 0 rfl ?_
    refine J.fI (pc := 99) dX11_look_99 fl_RX11_276 k0 (okN hN k0 (by decide)) (Or.inl rfl) ?_
    rcases ifc h with ⟨hc, h⟩ | ⟨hc, h⟩
    · refine J.cge (pc := 102) (tgt := 221) dX11_look_102 (by decide) (fun _ => ?_) (fun q => absurd hc q)
      refine J.iconst (pc := 105) dX11_look_105 ic_0 ?_
      refine J.istore (pc := 106) ([(6, .int (0 : Int32)), (0, .ref v0), (1, .int v1), (2, .int v2), (3, .int v3), (4, .int v4), (5, .int v5)]) dX11_look_106 (Nat.le_of_ble_eq_true rfl) rfl ?_
      refine J.iconst (pc := 108) dX11_look_108 ic_0 ?_
      refine J.istore (pc := 109) ([(7, .int (0 : Int32)), (6, .int (0 : Int32)), (0, .ref v0), (1, .int v1), (2, .int v2), (3, .int v3), (4, .int v4), (5, .int v5)]) dX11_look_109 (Nat.le_of_ble_eq_true rfl) rfl ?_
      refine J.pick [2, 3, 4, 5, 6, 7, 1, 0] rfl ?_
      exact (tX11_look_111 d (fX11_look_96 n) ih fuel) v0 v1 v2 v3 v4 v5 (0 : Int32) (0 : Int32) μ h hN k0
    · refine J.cge (pc := 102) (tgt := 221) dX11_look_102 (by decide) (fun q => absurd q hc) (fun _ => ?_)
      refine J.iload_n (pc := 221) dX11_look_221 rfl 1 rfl ?_
      rcases ifc h with ⟨hc, h⟩ | ⟨hc, h⟩
      · refine J.zne (pc := 222) (tgt := 229) dX11_look_222 (by decide) (fun _ => ?_) (fun q => absurd hc q)
        refine J.iload_n (pc := 225) dX11_look_225 rfl 3 rfl ?_
        refine J.goto (pc := 226) (tgt := 231) dX11_look_226 (by decide) ?_
        cases h
        exact J.iret (pc := 231) dX11_look_231 rfl ⟨rfl, rfl, hN, trivial⟩
      · refine J.zne (pc := 222) (tgt := 229) dX11_look_222 (by decide) (fun q => absurd q hc) (fun _ => ?_)
        refine J.iload (pc := 229) dX11_look_229 4 rfl ?_
        cases h
        exact J.iret (pc := 231) dX11_look_231 rfl ⟨rfl, rfl, hN, trivial⟩
def fX11_look_45  (K20 : Nat → Int32 → Int32 → Int32 → Mem → Option (Int32 × Mem)) : Nat → Nat → Int32 → Int32 → Int32 → Int32 → Mem → Option (Int32 × Mem)
  | 0, _, _, _, _, _, _ => none
  | n + 1, v0, v1, v2, v3, v4, μ =>
    if v4 < (μ.2.1 v0 2) then
      (gR μ v0 52 0).bind fun a1 =>
      (gR μ v0 51 0).bind fun a4 =>
      (ldI μ a4 v4).bind fun x7 =>
      (stI μ a1 (((6 : Int32) * v2) + v4) x7).bind fun μ9 =>
      (fX11_look_45 K20 n) v0 v1 v2 v3 (v4 + (1 : Int32)) μ9
    else
      K20 v0 v1 (v2 + (1 : Int32)) (v3 + (1 : Int32)) μ
set_option maxHeartbeats 4000000 in
theorem tX11_look_45 {ω : Wd} {l : Launch} (d : Nat) {res : Int32 × Mem} (K20 : Nat → Int32 → Int32 → Int32 → Mem → Option (Int32 × Mem)) (hK20 : ∀ (v0 : Nat) (v1 : Int32) (v2 : Int32) (v3 : Int32) (μ : Mem), K20 v0 v1 v2 v3 μ = some res → μ.1 = NN → (kd v0).1 = 21 → J ω l mX11_look (d + 7) 20 [(0, .ref v0), (1, .int v1), (2, .int v2), (3, .int v3)] [] μ 0 0 (PE (.inl (some (.int res.1))) res.2 True)) : ∀ n : Nat, ∀ (v0 : Nat) (v1 : Int32) (v2 : Int32) (v3 : Int32) (v4 : Int32) (μ : Mem), fX11_look_45 K20 n v0 v1 v2 v3 v4 μ = some res → μ.1 = NN → (kd v0).1 = 21 → J ω l mX11_look (d + 7) 45 [(0, .ref v0), (1, .int v1), (2, .int v2), (3, .int v3), (4, .int v4)] [] μ 0 0 (PE (.inl (some (.int res.1))) res.2 True) := by
  intro n
  induction n with
  | zero =>
    intro v0 v1 v2 v3 v4 μ h hN k0
    have h9 : (none : Option (Int32 × Mem)) = some res := h
    cases h9
  | succ n ih =>
    intro v0 v1 v2 v3 v4 μ h hN k0
    unfold fX11_look_45 at h
    refine J.iload (pc := 45) dX11_look_45 4 rfl ?_
    refine J.aload_n (pc := 47) dX11_look_47 rfl 0 rfl ?_
    refine J.fI (pc := 48) dX11_look_48 fl_RX11_276 k0 (okN hN k0 (by decide)) (Or.inl rfl) ?_
    rcases ifc h with ⟨hc, h⟩ | ⟨hc, h⟩
    · refine J.cge (pc := 51) (tgt := 79) dX11_look_51 (by decide) (fun _ => ?_) (fun q => absurd hc q)
      refine J.aload_n (pc := 54) dX11_look_54 rfl 0 rfl ?_
      obtain ⟨a1, e2, h⟩ := bnd h
      have k3 : (kd a1).1 = 0 := gR_k e2
      refine J.fR (pc := 55) dX11_look_55 fl_RX11_87 k0 (okN hN k0 (by decide)) rfl e2 ?_
      refine J.bipush (pc := 58) dX11_look_58 ib_6 ?_
      refine J.iload_n (pc := 60) dX11_look_60 rfl 2 rfl ?_
      refine J.imul (pc := 61) dX11_look_61 ?_
      refine J.iload (pc := 62) dX11_look_62 4 rfl ?_
      refine J.iadd (pc := 64) dX11_look_64 ?_
      refine J.aload_n (pc := 65) dX11_look_65 rfl 0 rfl ?_
      obtain ⟨a4, e5, h⟩ := bnd h
      have k6 : (kd a4).1 = 0 := gR_k e5
      refine J.fR (pc := 66) dX11_look_66 fl_RX11_84 k0 (okN hN k0 (by decide)) rfl e5 ?_
      refine J.iload (pc := 69) dX11_look_69 4 rfl ?_
      obtain ⟨x7, e8, h⟩ := bnd h
      refine J.aI (pc := 71) dX11_look_71 k6 (okN hN k6 (by decide)) e8 ?_
      obtain ⟨μ9, e10, h⟩ := bnd h
      have hN11 : μ9.1 = NN := stI_N e10 hN
      refine J.wI (pc := 72) dX11_look_72 k3 (okN hN k3 (by decide)) e10 ?_
      refine J.iinc (pc := 73) (j := 4) ([(4, .int (v4 + (1 : Int32))), (0, .ref v0), (1, .int v1), (2, .int v2), (3, .int v3)]) dX11_look_73 rfl (iincv ic_1) (Nat.le_of_ble_eq_true rfl) rfl ?_
      refine J.goto (pc := 76) (tgt := 45) dX11_look_76 (by decide) ?_
      refine J.pick [1, 2, 3, 4, 0] rfl ?_
      exact ih v0 v1 v2 v3 (v4 + (1 : Int32)) μ9 h hN11 k0
    · refine J.cge (pc := 51) (tgt := 79) dX11_look_51 (by decide) (fun q => absurd q hc) (fun _ => ?_)
      refine J.iinc (pc := 79) (j := 2) ([(2, .int (v2 + (1 : Int32))), (0, .ref v0), (1, .int v1), (3, .int v3), (4, .int v4)]) dX11_look_79 rfl (iincv ic_1) (Nat.le_of_ble_eq_true rfl) rfl ?_
      refine J.iinc (pc := 82) (j := 3) ([(3, .int (v3 + (1 : Int32))), (2, .int (v2 + (1 : Int32))), (0, .ref v0), (1, .int v1), (4, .int v4)]) dX11_look_82 rfl (iincv ic_1) (Nat.le_of_ble_eq_true rfl) rfl ?_
      refine J.goto (pc := 85) (tgt := 20) dX11_look_85 (by decide) ?_
      refine J.pick [2, 3, 1, 0] rfl ?_
      exact hK20 v0 v1 (v2 + (1 : Int32)) (v3 + (1 : Int32)) μ h hN k0
def fX11_look_20  : Nat → Nat → Int32 → Int32 → Int32 → Mem → Option (Int32 × Mem)
  | 0, _, _, _, _, _ => none
  | n + 1, v0, v1, v2, v3, μ =>
    if v3 < ((10 : Int32) * (μ.2.1 v0 2)) then
      (fX11_isGuess v0 v3 μ).bind fun (r3, μ2) =>
      if r3 = 0 then
        (fX11_look_20 n) v0 v1 v2 (v3 + (1 : Int32)) μ2
      else
        (fX11_look_45 (fX11_look_20 n) fuel) v0 v1 v2 v3 (0 : Int32) μ2
    else
      (fX11_look_96 fuel) v0 v1 v2 (-1 : Int32) (0 : Int32) (0 : Int32) μ
set_option maxHeartbeats 4000000 in
theorem tX11_look_20 {ω : Wd} {l : Launch} (d : Nat) {res : Int32 × Mem} : ∀ n : Nat, ∀ (v0 : Nat) (v1 : Int32) (v2 : Int32) (v3 : Int32) (μ : Mem), fX11_look_20 n v0 v1 v2 v3 μ = some res → μ.1 = NN → (kd v0).1 = 21 → J ω l mX11_look (d + 7) 20 [(0, .ref v0), (1, .int v1), (2, .int v2), (3, .int v3)] [] μ 0 0 (PE (.inl (some (.int res.1))) res.2 True) := by
  intro n
  induction n with
  | zero =>
    intro v0 v1 v2 v3 μ h hN k0
    have h9 : (none : Option (Int32 × Mem)) = some res := h
    cases h9
  | succ n ih =>
    intro v0 v1 v2 v3 μ h hN k0
    unfold fX11_look_20 at h
    refine J.iload_n (pc := 20) dX11_look_20 rfl 3 rfl ?_
    refine J.bipush (pc := 21) dX11_look_21 ib_10 ?_
    refine J.aload_n (pc := 23) dX11_look_23 rfl 0 rfl ?_
    refine J.fI (pc := 24) dX11_look_24 fl_RX11_276 k0 (okN hN k0 (by decide)) (Or.inl rfl) ?_
    refine J.imul (pc := 27) dX11_look_27 ?_
    rcases ifc h with ⟨hc, h⟩ | ⟨hc, h⟩
    · refine J.cge (pc := 28) (tgt := 88) dX11_look_28 (by decide) (fun _ => ?_) (fun q => absurd hc q)
      refine J.aload_n (pc := 31) dX11_look_31 rfl 0 rfl ?_
      refine J.iload_n (pc := 32) dX11_look_32 rfl 3 rfl ?_
      obtain ⟨⟨r3, μ2⟩, e1, h⟩ := bnd h
      try dsimp only at h
      refine J.callV (Y := mX11_look) (Z := mX11_isGuess) (pc := 33) (st := []) (k2 := 0) (n2 := 0) dX11_look_33 ml_RX11_422 mo_X11_isGuess mv_X11_isGuess rfl (tX11_isGuess d e1 hN k0) k0 (okN hN k0 (by decide)).1 (okN hN k0 (by decide)).2 cq_11 (by decide) rfl rfl (Nat.le_of_ble_eq_true rfl) (by decide) (by decide) (fun v ν hp => ?_) (fun i ν hp => nrm hp.1)
      obtain ⟨rfl, rfl, hN4, hb5⟩ := QEl hp
      show J _ _ _ _ 36 _ ([.int r3]) _ _ _ _
      rcases ifc h with ⟨hc, h⟩ | ⟨hc, h⟩
      · refine J.zne (pc := 36) (tgt := 42) dX11_look_36 (by decide) (fun _ => ?_) (fun q => absurd hc q)
        refine J.goto (pc := 39) (tgt := 82) dX11_look_39 (by decide) ?_
        refine J.iinc (pc := 82) (j := 3) ([(3, .int (v3 + (1 : Int32))), (0, .ref v0), (1, .int v1), (2, .int v2)]) dX11_look_82 rfl (iincv ic_1) (Nat.le_of_ble_eq_true rfl) rfl ?_
        refine J.goto (pc := 85) (tgt := 20) dX11_look_85 (by decide) ?_
        refine J.pick [1, 2, 3, 0] rfl ?_
        exact ih v0 v1 v2 (v3 + (1 : Int32)) μ2 h hN4 k0
      · refine J.zne (pc := 36) (tgt := 42) dX11_look_36 (by decide) (fun q => absurd q hc) (fun _ => ?_)
        refine J.iconst (pc := 42) dX11_look_42 ic_0 ?_
        refine J.istore (pc := 43) ([(4, .int (0 : Int32)), (0, .ref v0), (1, .int v1), (2, .int v2), (3, .int v3)]) dX11_look_43 (Nat.le_of_ble_eq_true rfl) rfl ?_
        refine J.pick [1, 2, 3, 4, 0] rfl ?_
        exact (tX11_look_45 d (fX11_look_20 n) ih fuel) v0 v1 v2 v3 (0 : Int32) μ2 h hN4 k0
    · refine J.cge (pc := 28) (tgt := 88) dX11_look_28 (by decide) (fun q => absurd q hc) (fun _ => ?_)
      refine J.iconst (pc := 88) dX11_look_88 ic_m1 ?_
      refine J.istore_n (pc := 89) ([(3, .int (-1 : Int32)), (0, .ref v0), (1, .int v1), (2, .int v2)]) dX11_look_89 rfl (Nat.le_of_ble_eq_true rfl) rfl ?_
      refine J.iconst (pc := 90) dX11_look_90 ic_0 ?_
      refine J.istore (pc := 91) ([(4, .int (0 : Int32)), (3, .int (-1 : Int32)), (0, .ref v0), (1, .int v1), (2, .int v2)]) dX11_look_91 (Nat.le_of_ble_eq_true rfl) rfl ?_
      refine J.iconst (pc := 93) dX11_look_93 ic_0 ?_
      refine J.istore (pc := 94) ([(5, .int (0 : Int32)), (4, .int (0 : Int32)), (3, .int (-1 : Int32)), (0, .ref v0), (1, .int v1), (2, .int v2)]) dX11_look_94 (Nat.le_of_ble_eq_true rfl) rfl ?_
      refine J.pick [3, 4, 5, 2, 1, 0] rfl ?_
      exact (tX11_look_96 d fuel) v0 v1 v2 (-1 : Int32) (0 : Int32) (0 : Int32) μ h hN k0
def fX11_look (v0 : Nat) (v1 : Int32) (μ : Mem) : Option (Int32 × Mem) :=
  (some (sI μ v0 0 (0 : Int32))).bind fun μ1 =>
  (fX11_isWhat v0 v1 (1 : Int32) μ1).bind fun (r6, μ5) =>
  if r6 = 0 then
    some ((0 : Int32), μ5)
  else
    (fX11_look_20 fuel) v0 v1 (0 : Int32) (0 : Int32) μ5
set_option maxHeartbeats 4000000 in
theorem tX11_look {ω : Wd} {l : Launch} (d : Nat) {v0 : Nat} {v1 : Int32} {μ : Mem} {res : Int32 × Mem} (h : fX11_look v0 v1 μ = some res) (hN : μ.1 = NN) (k0 : (kd v0).1 = 21) : Ct ω l mX11_look (d + 7) [.ref v0, .int v1] μ 0 0 (PE (.inl (some (.int res.1))) res.2 True) := by
  refine Ct.of pn_RX11 (Nat.le_of_ble_eq_true rfl) ?_
  show J ω l mX11_look (d + 7) 0 [(0, .ref v0), (1, .int v1)] [] μ 0 0 _
  unfold fX11_look at h
  refine J.aload_n (pc := 0) dX11_look_0 rfl 0 rfl ?_
  refine J.iconst (pc := 1) dX11_look_1 ic_0 ?_
  obtain ⟨μ1, e2, h⟩ := bnd h
  have hN3 : μ1.1 = NN := smN e2 hN
  refine J.qI (pc := 2) dX11_look_2 fl_RX11_99 k0 (okN hN k0 (by decide)) rfl rfl e2 ?_
  refine J.aload_n (pc := 5) dX11_look_5 rfl 0 rfl ?_
  refine J.iload_n (pc := 6) dX11_look_6 rfl 1 rfl ?_
  refine J.iconst (pc := 7) dX11_look_7 ic_1 ?_
  obtain ⟨⟨r6, μ5⟩, e4, h⟩ := bnd h
  try dsimp only at h
  refine J.callV (Y := mX11_look) (Z := mX11_isWhat) (pc := 8) (st := []) (k2 := 0) (n2 := 0) dX11_look_8 ml_RX11_365 mo_X11_isWhat mv_X11_isWhat rfl (tX11_isWhat (d + 5) e4 hN3 k0) k0 (okN hN3 k0 (by decide)).1 (okN hN3 k0 (by decide)).2 cq_11 (by decide) rfl rfl (Nat.le_of_ble_eq_true rfl) (by decide) (by decide) (fun v ν hp => ?_) (fun i ν hp => nrm hp.1)
  obtain ⟨rfl, rfl, hN7, hb8⟩ := QEl hp
  show J _ _ _ _ 11 _ ([.int r6]) _ _ _ _
  rcases ifc h with ⟨hc, h⟩ | ⟨hc, h⟩
  · refine J.zne (pc := 11) (tgt := 16) dX11_look_11 (by decide) (fun _ => ?_) (fun q => absurd hc q)
    refine J.iconst (pc := 14) dX11_look_14 ic_0 ?_
    cases h
    exact J.iret (pc := 15) dX11_look_15 rfl ⟨rfl, rfl, hN7, trivial⟩
  · refine J.zne (pc := 11) (tgt := 16) dX11_look_11 (by decide) (fun q => absurd q hc) (fun _ => ?_)
    refine J.iconst (pc := 16) dX11_look_16 ic_0 ?_
    refine J.istore_n (pc := 17) ([(2, .int (0 : Int32)), (0, .ref v0), (1, .int v1)]) dX11_look_17 rfl (Nat.le_of_ble_eq_true rfl) rfl ?_
    refine J.iconst (pc := 18) dX11_look_18 ic_0 ?_
    refine J.istore_n (pc := 19) ([(3, .int (0 : Int32)), (2, .int (0 : Int32)), (0, .ref v0), (1, .int v1)]) dX11_look_19 rfl (Nat.le_of_ble_eq_true rfl) rfl ?_
    refine J.pick [2, 3, 1, 0] rfl ?_
    exact (tX11_look_20 d fuel) v0 v1 (0 : Int32) (0 : Int32) μ5 h hN7 k0
def fX11_meet_29  : Nat → Nat → Int32 → Int32 → Int32 → Mem → Option (Int32 × Mem)
  | 0, _, _, _, _, _ => none
  | n + 1, v0, v1, v2, v3, μ =>
    if (60 : Int32) < v3 then
      some ((-1 : Int32), μ)
    else
      if v1 = v2 then
        some ((-1 : Int32), μ)
      else
        (gR μ v0 34 0).bind fun a1 =>
        (ldI μ a1 ((134 : Int32) + v1)).bind fun x4 =>
        (gR μ v0 34 0).bind fun a6 =>
        (ldI μ a6 ((134 : Int32) + v2)).bind fun x9 =>
        if x4 = x9 then
          some (v3, μ)
        else
          (fX11_dayGoes v0 (79 : Int32) μ).bind fun μ12 =>
          (fX11_meet_29 n) v0 v1 v2 (v3 + (1 : Int32)) μ12
set_option maxHeartbeats 4000000 in
theorem tX11_meet_29 {ω : Wd} {l : Launch} (d : Nat) {res : Int32 × Mem} : ∀ n : Nat, ∀ (v0 : Nat) (v1 : Int32) (v2 : Int32) (v3 : Int32) (μ : Mem), fX11_meet_29 n v0 v1 v2 v3 μ = some res → μ.1 = NN → (kd v0).1 = 21 → J ω l mX11_meet (d + 5) 29 [(0, .ref v0), (1, .int v1), (2, .int v2), (3, .int v3)] [] μ 0 0 (PE (.inl (some (.int res.1))) res.2 True) := by
  intro n
  induction n with
  | zero =>
    intro v0 v1 v2 v3 μ h hN k0
    have h9 : (none : Option (Int32 × Mem)) = some res := h
    cases h9
  | succ n ih =>
    intro v0 v1 v2 v3 μ h hN k0
    unfold fX11_meet_29 at h
    refine J.iload_n (pc := 29) dX11_meet_29 rfl 3 rfl ?_
    refine J.bipush (pc := 30) dX11_meet_30 ib_60 ?_
    rcases ifc h with ⟨hc, h⟩ | ⟨hc, h⟩
    · refine J.cgt (pc := 32) (tgt := 77) dX11_meet_32 (by decide) (fun _ => ?_) (fun q => absurd hc q)
      refine J.iconst (pc := 77) dX11_meet_77 ic_m1 ?_
      cases h
      exact J.iret (pc := 78) dX11_meet_78 rfl ⟨rfl, rfl, hN, trivial⟩
    · refine J.cgt (pc := 32) (tgt := 77) dX11_meet_32 (by decide) (fun q => absurd q hc) (fun _ => ?_)
      refine J.iload_n (pc := 35) dX11_meet_35 rfl 1 rfl ?_
      refine J.iload_n (pc := 36) dX11_meet_36 rfl 2 rfl ?_
      rcases ifc h with ⟨hc, h⟩ | ⟨hc, h⟩
      · refine J.ceq (pc := 37) (tgt := 77) dX11_meet_37 (by decide) (fun _ => ?_) (fun q => absurd hc q)
        refine J.iconst (pc := 77) dX11_meet_77 ic_m1 ?_
        cases h
        exact J.iret (pc := 78) dX11_meet_78 rfl ⟨rfl, rfl, hN, trivial⟩
      · refine J.ceq (pc := 37) (tgt := 77) dX11_meet_37 (by decide) (fun q => absurd q hc) (fun _ => ?_)
        refine J.aload_n (pc := 40) dX11_meet_40 rfl 0 rfl ?_
        obtain ⟨a1, e2, h⟩ := bnd h
        have k3 : (kd a1).1 = 0 := gR_k e2
        refine J.fR (pc := 41) dX11_meet_41 fl_RX11_48 k0 (okN hN k0 (by decide)) rfl e2 ?_
        refine J.sipush (pc := 44) dX11_meet_44 is_134 ?_
        refine J.iload_n (pc := 47) dX11_meet_47 rfl 1 rfl ?_
        refine J.iadd (pc := 48) dX11_meet_48 ?_
        obtain ⟨x4, e5, h⟩ := bnd h
        refine J.aI (pc := 49) dX11_meet_49 k3 (okN hN k3 (by decide)) e5 ?_
        refine J.aload_n (pc := 50) dX11_meet_50 rfl 0 rfl ?_
        obtain ⟨a6, e7, h⟩ := bnd h
        have k8 : (kd a6).1 = 0 := gR_k e7
        refine J.fR (pc := 51) dX11_meet_51 fl_RX11_48 k0 (okN hN k0 (by decide)) rfl e7 ?_
        refine J.sipush (pc := 54) dX11_meet_54 is_134 ?_
        refine J.iload_n (pc := 57) dX11_meet_57 rfl 2 rfl ?_
        refine J.iadd (pc := 58) dX11_meet_58 ?_
        obtain ⟨x9, e10, h⟩ := bnd h
        refine J.aI (pc := 59) dX11_meet_59 k8 (okN hN k8 (by decide)) e10 ?_
        rcases ifc h with ⟨hc, h⟩ | ⟨hc, h⟩
        · refine J.cne (pc := 60) (tgt := 65) dX11_meet_60 (by decide) (fun _ => ?_) (fun q => absurd hc q)
          refine J.iload_n (pc := 63) dX11_meet_63 rfl 3 rfl ?_
          cases h
          exact J.iret (pc := 64) dX11_meet_64 rfl ⟨rfl, rfl, hN, trivial⟩
        · refine J.cne (pc := 60) (tgt := 65) dX11_meet_60 (by decide) (fun q => absurd q hc) (fun _ => ?_)
          refine J.aload_n (pc := 65) dX11_meet_65 rfl 0 rfl ?_
          refine J.bipush (pc := 66) dX11_meet_66 ib_79 ?_
          obtain ⟨μ12, e11, h⟩ := bnd h
          refine J.callV (Y := mX11_meet) (Z := mX11_dayGoes) (pc := 68) (st := []) (k2 := 0) (n2 := 0) dX11_meet_68 ml_RX11_341 mo_X11_dayGoes mv_X11_dayGoes rfl (tX11_dayGoes d e11 hN k0) k0 (okN hN k0 (by decide)).1 (okN hN k0 (by decide)).2 cq_11 (by decide) rfl rfl (Nat.le_of_ble_eq_true rfl) (by decide) (by decide) (fun v ν hp => ?_) (fun i ν hp => nrm hp.1)
          obtain ⟨rfl, rfl, hN13, hb14⟩ := QEl hp
          show J _ _ _ _ 71 _ ([]) _ _ _ _
          refine J.iinc (pc := 71) (j := 3) ([(3, .int (v3 + (1 : Int32))), (0, .ref v0), (1, .int v1), (2, .int v2)]) dX11_meet_71 rfl (iincv ic_1) (Nat.le_of_ble_eq_true rfl) rfl ?_
          refine J.goto (pc := 74) (tgt := 29) dX11_meet_74 (by decide) ?_
          refine J.pick [1, 2, 3, 0] rfl ?_
          exact ih v0 v1 v2 (v3 + (1 : Int32)) μ12 h hN13 k0
def fX11_meet (v0 : Nat) (v1 : Int32) (v2 : Int32) (μ : Mem) : Option (Int32 × Mem) :=
  (some (sI μ v0 0 (0 : Int32))).bind fun μ1 =>
  (fX11_isPerson v0 v1 μ1).bind fun (r6, μ5) =>
  if r6 = 0 then
    some ((0 : Int32), μ5)
  else
    (fX11_isPerson v0 v2 μ5).bind fun (r11, μ10) =>
    if r11 = 0 then
      some ((0 : Int32), μ10)
    else
      (fX11_tries v0 μ10).bind fun μ15 =>
      (fX11_meet_29 fuel) v0 v1 v2 (0 : Int32) μ15
set_option maxHeartbeats 4000000 in
theorem tX11_meet {ω : Wd} {l : Launch} (d : Nat) {v0 : Nat} {v1 : Int32} {v2 : Int32} {μ : Mem} {res : Int32 × Mem} (h : fX11_meet v0 v1 v2 μ = some res) (hN : μ.1 = NN) (k0 : (kd v0).1 = 21) : Ct ω l mX11_meet (d + 5) [.ref v0, .int v1, .int v2] μ 0 0 (PE (.inl (some (.int res.1))) res.2 True) := by
  refine Ct.of pn_RX11 (Nat.le_of_ble_eq_true rfl) ?_
  show J ω l mX11_meet (d + 5) 0 [(0, .ref v0), (1, .int v1), (2, .int v2)] [] μ 0 0 _
  unfold fX11_meet at h
  refine J.aload_n (pc := 0) dX11_meet_0 rfl 0 rfl ?_
  refine J.iconst (pc := 1) dX11_meet_1 ic_0 ?_
  obtain ⟨μ1, e2, h⟩ := bnd h
  have hN3 : μ1.1 = NN := smN e2 hN
  refine J.qI (pc := 2) dX11_meet_2 fl_RX11_99 k0 (okN hN k0 (by decide)) rfl rfl e2 ?_
  refine J.aload_n (pc := 5) dX11_meet_5 rfl 0 rfl ?_
  refine J.iload_n (pc := 6) dX11_meet_6 rfl 1 rfl ?_
  obtain ⟨⟨r6, μ5⟩, e4, h⟩ := bnd h
  try dsimp only at h
  refine J.callV (Y := mX11_meet) (Z := mX11_isPerson) (pc := 7) (st := []) (k2 := 0) (n2 := 0) dX11_meet_7 ml_RX11_368 mo_X11_isPerson mv_X11_isPerson rfl (tX11_isPerson (d + 3) e4 hN3 k0) k0 (okN hN3 k0 (by decide)).1 (okN hN3 k0 (by decide)).2 cq_11 (by decide) rfl rfl (Nat.le_of_ble_eq_true rfl) (by decide) (by decide) (fun v ν hp => ?_) (fun i ν hp => nrm hp.1)
  obtain ⟨rfl, rfl, hN7, hb8⟩ := QEl hp
  show J _ _ _ _ 10 _ ([.int r6]) _ _ _ _
  rcases ifc h with ⟨hc, h⟩ | ⟨hc, h⟩
  · refine J.zeq (pc := 10) (tgt := 21) dX11_meet_10 (by decide) (fun _ => ?_) (fun q => absurd hc q)
    refine J.iconst (pc := 21) dX11_meet_21 ic_0 ?_
    cases h
    exact J.iret (pc := 22) dX11_meet_22 rfl ⟨rfl, rfl, hN7, trivial⟩
  · refine J.zeq (pc := 10) (tgt := 21) dX11_meet_10 (by decide) (fun q => absurd q hc) (fun _ => ?_)
    refine J.aload_n (pc := 13) dX11_meet_13 rfl 0 rfl ?_
    refine J.iload_n (pc := 14) dX11_meet_14 rfl 2 rfl ?_
    obtain ⟨⟨r11, μ10⟩, e9, h⟩ := bnd h
    try dsimp only at h
    refine J.callV (Y := mX11_meet) (Z := mX11_isPerson) (pc := 15) (st := []) (k2 := 0) (n2 := 0) dX11_meet_15 ml_RX11_368 mo_X11_isPerson mv_X11_isPerson rfl (tX11_isPerson (d + 3) e9 hN7 k0) k0 (okN hN7 k0 (by decide)).1 (okN hN7 k0 (by decide)).2 cq_11 (by decide) rfl rfl (Nat.le_of_ble_eq_true rfl) (by decide) (by decide) (fun v ν hp => ?_) (fun i ν hp => nrm hp.1)
    obtain ⟨rfl, rfl, hN12, hb13⟩ := QEl hp
    show J _ _ _ _ 18 _ ([.int r11]) _ _ _ _
    rcases ifc h with ⟨hc, h⟩ | ⟨hc, h⟩
    · refine J.zne (pc := 18) (tgt := 23) dX11_meet_18 (by decide) (fun _ => ?_) (fun q => absurd hc q)
      refine J.iconst (pc := 21) dX11_meet_21 ic_0 ?_
      cases h
      exact J.iret (pc := 22) dX11_meet_22 rfl ⟨rfl, rfl, hN12, trivial⟩
    · refine J.zne (pc := 18) (tgt := 23) dX11_meet_18 (by decide) (fun q => absurd q hc) (fun _ => ?_)
      refine J.aload_n (pc := 23) dX11_meet_23 rfl 0 rfl ?_
      obtain ⟨μ15, e14, h⟩ := bnd h
      refine J.callV (Y := mX11_meet) (Z := mX11_tries) (pc := 24) (st := []) (k2 := 0) (n2 := 0) dX11_meet_24 ml_RX11_389 mo_X11_tries mv_X11_tries rfl (tX11_tries (d + 4) e14 hN12 k0) k0 (okN hN12 k0 (by decide)).1 (okN hN12 k0 (by decide)).2 cq_11 (by decide) rfl rfl (Nat.le_of_ble_eq_true rfl) (by decide) (by decide) (fun v ν hp => ?_) (fun i ν hp => nrm hp.1)
      obtain ⟨rfl, rfl, hN16, hb17⟩ := QEl hp
      show J _ _ _ _ 27 _ ([]) _ _ _ _
      refine J.iconst (pc := 27) dX11_meet_27 ic_0 ?_
      refine J.istore_n (pc := 28) ([(3, .int (0 : Int32)), (0, .ref v0), (1, .int v1), (2, .int v2)]) dX11_meet_28 rfl (Nat.le_of_ble_eq_true rfl) rfl ?_
      refine J.pick [1, 2, 3, 0] rfl ?_
      exact (tX11_meet_29 d fuel) v0 v1 v2 (0 : Int32) μ15 h hN16 k0
def fX11_near_24  : Nat → Nat → Int32 → Int32 → Int32 → Int32 → Mem → Option (Int32 × Mem)
  | 0, _, _, _, _, _, _ => none
  | n + 1, v0, v1, v2, v3, v4, μ =>
    if v4 < (μ.2.1 v0 2) then
      if v4 = v1 then
        if (9999 : Int32) < v3 then
          (fX11_near_24 n) v0 v1 v4 (9999 : Int32) (v4 + (1 : Int32)) μ
        else
          (fX11_near_24 n) v0 v1 v2 v3 (v4 + (1 : Int32)) μ
      else
        (gR μ v0 34 0).bind fun a1 =>
        (ldI μ a1 ((55 : Int32) + v1)).bind fun x4 =>
        (gR μ v0 34 0).bind fun a6 =>
        (ldI μ a6 ((55 : Int32) + v4)).bind fun x9 =>
        (fX11_howFar v0 x4 x9 μ).bind fun (r13, μ12) =>
        if r13 < v3 then
          (fX11_near_24 n) v0 v1 v4 r13 (v4 + (1 : Int32)) μ12
        else
          (fX11_near_24 n) v0 v1 v2 v3 (v4 + (1 : Int32)) μ12
    else
      some (v2, μ)
set_option maxHeartbeats 4000000 in
theorem tX11_near_24 {ω : Wd} {l : Launch} (d : Nat) {res : Int32 × Mem} : ∀ n : Nat, ∀ (v0 : Nat) (v1 : Int32) (v2 : Int32) (v3 : Int32) (v4 : Int32) (μ : Mem), fX11_near_24 n v0 v1 v2 v3 v4 μ = some res → μ.1 = NN → (kd v0).1 = 21 → J ω l mX11_near (d + 3) 24 [(0, .ref v0), (1, .int v1), (2, .int v2), (3, .int v3), (4, .int v4)] [] μ 0 0 (PE (.inl (some (.int res.1))) res.2 True) := by
  intro n
  induction n with
  | zero =>
    intro v0 v1 v2 v3 v4 μ h hN k0
    have h9 : (none : Option (Int32 × Mem)) = some res := h
    cases h9
  | succ n ih =>
    intro v0 v1 v2 v3 v4 μ h hN k0
    unfold fX11_near_24 at h
    refine J.iload (pc := 24) dX11_near_24 4 rfl ?_
    refine J.aload_n (pc := 26) dX11_near_26 rfl 0 rfl ?_
    refine J.fI (pc := 27) dX11_near_27 fl_RX11_276 k0 (okN hN k0 (by decide)) (Or.inl rfl) ?_
    rcases ifc h with ⟨hc, h⟩ | ⟨hc, h⟩
    · refine J.cge (pc := 30) (tgt := 91) dX11_near_30 (by decide) (fun _ => ?_) (fun q => absurd hc q)
      refine J.iload (pc := 33) dX11_near_33 4 rfl ?_
      refine J.iload_n (pc := 35) dX11_near_35 rfl 1 rfl ?_
      rcases ifc h with ⟨hc, h⟩ | ⟨hc, h⟩
      · refine J.cne (pc := 36) (tgt := 45) dX11_near_36 (by decide) (fun _ => ?_) (fun q => absurd hc q)
        refine J.sipush (pc := 39) dX11_near_39 is_9999 ?_
        refine J.goto (pc := 42) (tgt := 68) dX11_near_42 (by decide) ?_
        refine J.istore (pc := 68) ([(5, .int (9999 : Int32)), (0, .ref v0), (1, .int v1), (2, .int v2), (3, .int v3), (4, .int v4)]) dX11_near_68 (Nat.le_of_ble_eq_true rfl) rfl ?_
        refine J.iload (pc := 70) dX11_near_70 0 rfl ?_
        refine J.iload_n (pc := 72) dX11_near_72 rfl 4 rfl ?_
        rcases ifc h with ⟨hc, h⟩ | ⟨hc, h⟩
        · refine J.clt (pc := 73) (tgt := 79) dX11_near_73 (by decide) (fun _ => ?_) (fun q => absurd hc q)
          refine J.iload (pc := 79) dX11_near_79 5 rfl ?_
          refine J.istore_n (pc := 81) ([(2, .int v4), (5, .int (9999 : Int32)), (0, .ref v0), (1, .int v1), (3, .int v3), (4, .int v4)]) dX11_near_81 rfl (Nat.le_of_ble_eq_true rfl) rfl ?_
          refine J.iload (pc := 82) dX11_near_82 1 rfl ?_
          refine J.istore_n (pc := 84) ([(3, .int (9999 : Int32)), (2, .int v4), (5, .int (9999 : Int32)), (0, .ref v0), (1, .int v1), (4, .int v4)]) dX11_near_84 rfl (Nat.le_of_ble_eq_true rfl) rfl ?_
          refine J.iinc (pc := 85) (j := 5) ([(4, .int (v4 + (1 : Int32))), (3, .int (9999 : Int32)), (2, .int v4), (5, .int (9999 : Int32)), (0, .ref v0), (1, .int v1)]) dX11_near_85 rfl (iincv ic_1) (Nat.le_of_ble_eq_true rfl) rfl ?_
          refine J.goto (pc := 88) (tgt := 24) dX11_near_88 (by decide) ?_
          refine J.pick [4, 5, 2, 1, 0] rfl ?_
          exact ih v0 v1 v4 (9999 : Int32) (v4 + (1 : Int32)) μ h hN k0
        · refine J.clt (pc := 73) (tgt := 79) dX11_near_73 (by decide) (fun q => absurd q hc) (fun _ => ?_)
          refine J.goto (pc := 76) (tgt := 85) dX11_near_76 (by decide) ?_
          refine J.iinc (pc := 85) (j := 5) ([(4, .int (v4 + (1 : Int32))), (5, .int (9999 : Int32)), (0, .ref v0), (1, .int v1), (2, .int v2), (3, .int v3)]) dX11_near_85 rfl (iincv ic_1) (Nat.le_of_ble_eq_true rfl) rfl ?_
          refine J.goto (pc := 88) (tgt := 24) dX11_near_88 (by decide) ?_
          refine J.pick [2, 3, 4, 5, 0] rfl ?_
          exact ih v0 v1 v2 v3 (v4 + (1 : Int32)) μ h hN k0
      · refine J.cne (pc := 36) (tgt := 45) dX11_near_36 (by decide) (fun q => absurd q hc) (fun _ => ?_)
        refine J.aload_n (pc := 45) dX11_near_45 rfl 0 rfl ?_
        refine J.aload_n (pc := 46) dX11_near_46 rfl 0 rfl ?_
        obtain ⟨a1, e2, h⟩ := bnd h
        have k3 : (kd a1).1 = 0 := gR_k e2
        refine J.fR (pc := 47) dX11_near_47 fl_RX11_48 k0 (okN hN k0 (by decide)) rfl e2 ?_
        refine J.bipush (pc := 50) dX11_near_50 ib_55 ?_
        refine J.iload_n (pc := 52) dX11_near_52 rfl 1 rfl ?_
        refine J.iadd (pc := 53) dX11_near_53 ?_
        obtain ⟨x4, e5, h⟩ := bnd h
        refine J.aI (pc := 54) dX11_near_54 k3 (okN hN k3 (by decide)) e5 ?_
        refine J.aload_n (pc := 55) dX11_near_55 rfl 0 rfl ?_
        obtain ⟨a6, e7, h⟩ := bnd h
        have k8 : (kd a6).1 = 0 := gR_k e7
        refine J.fR (pc := 56) dX11_near_56 fl_RX11_48 k0 (okN hN k0 (by decide)) rfl e7 ?_
        refine J.bipush (pc := 59) dX11_near_59 ib_55 ?_
        refine J.iload (pc := 61) dX11_near_61 4 rfl ?_
        refine J.iadd (pc := 63) dX11_near_63 ?_
        obtain ⟨x9, e10, h⟩ := bnd h
        refine J.aI (pc := 64) dX11_near_64 k8 (okN hN k8 (by decide)) e10 ?_
        obtain ⟨⟨r13, μ12⟩, e11, h⟩ := bnd h
        try dsimp only at h
        refine J.callV (Y := mX11_near) (Z := mX11_howFar) (pc := 65) (st := []) (k2 := 0) (n2 := 0) dX11_near_65 ml_RX11_374 mo_X11_howFar mv_X11_howFar rfl (tX11_howFar d e11 hN k0) k0 (okN hN k0 (by decide)).1 (okN hN k0 (by decide)).2 cq_11 (by decide) rfl rfl (Nat.le_of_ble_eq_true rfl) (by decide) (by decide) (fun v ν hp => ?_) (fun i ν hp => nrm hp.1)
        obtain ⟨rfl, rfl, hN14, hb15⟩ := QEl hp
        show J _ _ _ _ 68 _ ([.int r13]) _ _ _ _
        refine J.istore (pc := 68) ([(5, .int r13), (0, .ref v0), (1, .int v1), (2, .int v2), (3, .int v3), (4, .int v4)]) dX11_near_68 (Nat.le_of_ble_eq_true rfl) rfl ?_
        refine J.iload (pc := 70) dX11_near_70 0 rfl ?_
        refine J.iload_n (pc := 72) dX11_near_72 rfl 4 rfl ?_
        rcases ifc h with ⟨hc, h⟩ | ⟨hc, h⟩
        · refine J.clt (pc := 73) (tgt := 79) dX11_near_73 (by decide) (fun _ => ?_) (fun q => absurd hc q)
          refine J.iload (pc := 79) dX11_near_79 5 rfl ?_
          refine J.istore_n (pc := 81) ([(2, .int v4), (5, .int r13), (0, .ref v0), (1, .int v1), (3, .int v3), (4, .int v4)]) dX11_near_81 rfl (Nat.le_of_ble_eq_true rfl) rfl ?_
          refine J.iload (pc := 82) dX11_near_82 1 rfl ?_
          refine J.istore_n (pc := 84) ([(3, .int r13), (2, .int v4), (5, .int r13), (0, .ref v0), (1, .int v1), (4, .int v4)]) dX11_near_84 rfl (Nat.le_of_ble_eq_true rfl) rfl ?_
          refine J.iinc (pc := 85) (j := 5) ([(4, .int (v4 + (1 : Int32))), (3, .int r13), (2, .int v4), (5, .int r13), (0, .ref v0), (1, .int v1)]) dX11_near_85 rfl (iincv ic_1) (Nat.le_of_ble_eq_true rfl) rfl ?_
          refine J.goto (pc := 88) (tgt := 24) dX11_near_88 (by decide) ?_
          refine J.pick [4, 5, 2, 1, 0] rfl ?_
          exact ih v0 v1 v4 r13 (v4 + (1 : Int32)) μ12 h hN14 k0
        · refine J.clt (pc := 73) (tgt := 79) dX11_near_73 (by decide) (fun q => absurd q hc) (fun _ => ?_)
          refine J.goto (pc := 76) (tgt := 85) dX11_near_76 (by decide) ?_
          refine J.iinc (pc := 85) (j := 5) ([(4, .int (v4 + (1 : Int32))), (5, .int r13), (0, .ref v0), (1, .int v1), (2, .int v2), (3, .int v3)]) dX11_near_85 rfl (iincv ic_1) (Nat.le_of_ble_eq_true rfl) rfl ?_
          refine J.goto (pc := 88) (tgt := 24) dX11_near_88 (by decide) ?_
          refine J.pick [2, 3, 4, 5, 0] rfl ?_
          exact ih v0 v1 v2 v3 (v4 + (1 : Int32)) μ12 h hN14 k0
    · refine J.cge (pc := 30) (tgt := 91) dX11_near_30 (by decide) (fun q => absurd q hc) (fun _ => ?_)
      refine J.iload_n (pc := 91) dX11_near_91 rfl 2 rfl ?_
      cases h
      exact J.iret (pc := 92) dX11_near_92 rfl ⟨rfl, rfl, hN, trivial⟩
def fX11_near (v0 : Nat) (v1 : Int32) (μ : Mem) : Option (Int32 × Mem) :=
  (some (sI μ v0 0 (0 : Int32))).bind fun μ1 =>
  (fX11_isPerson v0 v1 μ1).bind fun (r6, μ5) =>
  if r6 = 0 then
    some ((0 : Int32), μ5)
  else
    (fX11_near_24 fuel) v0 v1 (-1 : Int32) (9999 : Int32) (0 : Int32) μ5
set_option maxHeartbeats 4000000 in
theorem tX11_near {ω : Wd} {l : Launch} (d : Nat) {v0 : Nat} {v1 : Int32} {μ : Mem} {res : Int32 × Mem} (h : fX11_near v0 v1 μ = some res) (hN : μ.1 = NN) (k0 : (kd v0).1 = 21) : Ct ω l mX11_near (d + 3) [.ref v0, .int v1] μ 0 0 (PE (.inl (some (.int res.1))) res.2 True) := by
  refine Ct.of pn_RX11 (Nat.le_of_ble_eq_true rfl) ?_
  show J ω l mX11_near (d + 3) 0 [(0, .ref v0), (1, .int v1)] [] μ 0 0 _
  unfold fX11_near at h
  refine J.aload_n (pc := 0) dX11_near_0 rfl 0 rfl ?_
  refine J.iconst (pc := 1) dX11_near_1 ic_0 ?_
  obtain ⟨μ1, e2, h⟩ := bnd h
  have hN3 : μ1.1 = NN := smN e2 hN
  refine J.qI (pc := 2) dX11_near_2 fl_RX11_99 k0 (okN hN k0 (by decide)) rfl rfl e2 ?_
  refine J.aload_n (pc := 5) dX11_near_5 rfl 0 rfl ?_
  refine J.iload_n (pc := 6) dX11_near_6 rfl 1 rfl ?_
  obtain ⟨⟨r6, μ5⟩, e4, h⟩ := bnd h
  try dsimp only at h
  refine J.callV (Y := mX11_near) (Z := mX11_isPerson) (pc := 7) (st := []) (k2 := 0) (n2 := 0) dX11_near_7 ml_RX11_368 mo_X11_isPerson mv_X11_isPerson rfl (tX11_isPerson (d + 1) e4 hN3 k0) k0 (okN hN3 k0 (by decide)).1 (okN hN3 k0 (by decide)).2 cq_11 (by decide) rfl rfl (Nat.le_of_ble_eq_true rfl) (by decide) (by decide) (fun v ν hp => ?_) (fun i ν hp => nrm hp.1)
  obtain ⟨rfl, rfl, hN7, hb8⟩ := QEl hp
  show J _ _ _ _ 10 _ ([.int r6]) _ _ _ _
  rcases ifc h with ⟨hc, h⟩ | ⟨hc, h⟩
  · refine J.zne (pc := 10) (tgt := 15) dX11_near_10 (by decide) (fun _ => ?_) (fun q => absurd hc q)
    refine J.iconst (pc := 13) dX11_near_13 ic_0 ?_
    cases h
    exact J.iret (pc := 14) dX11_near_14 rfl ⟨rfl, rfl, hN7, trivial⟩
  · refine J.zne (pc := 10) (tgt := 15) dX11_near_10 (by decide) (fun q => absurd q hc) (fun _ => ?_)
    refine J.iconst (pc := 15) dX11_near_15 ic_m1 ?_
    refine J.istore_n (pc := 16) ([(2, .int (-1 : Int32)), (0, .ref v0), (1, .int v1)]) dX11_near_16 rfl (Nat.le_of_ble_eq_true rfl) rfl ?_
    refine J.sipush (pc := 17) dX11_near_17 is_9999 ?_
    refine J.istore_n (pc := 20) ([(3, .int (9999 : Int32)), (2, .int (-1 : Int32)), (0, .ref v0), (1, .int v1)]) dX11_near_20 rfl (Nat.le_of_ble_eq_true rfl) rfl ?_
    refine J.iconst (pc := 21) dX11_near_21 ic_0 ?_
    refine J.istore (pc := 22) ([(4, .int (0 : Int32)), (3, .int (9999 : Int32)), (2, .int (-1 : Int32)), (0, .ref v0), (1, .int v1)]) dX11_near_22 (Nat.le_of_ble_eq_true rfl) rfl ?_
    refine J.pick [3, 4, 2, 1, 0] rfl ?_
    exact (tX11_near_24 d fuel) v0 v1 (-1 : Int32) (9999 : Int32) (0 : Int32) μ5 h hN7 k0
