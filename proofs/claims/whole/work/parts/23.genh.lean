def fX11_line (v0 : Nat) (μ : Mem) : Option (Mem) :=
  (fX11_knownWord v0 μ).bind fun r2 =>
  if r2 = (8 : Int32) then
    if (μ.2.1 v0 20) = (6 : Int32) then
      (fX11_begins v0 (1 : Int32) (0 : Int32) μ).bind fun (r7, μ6) =>
      if r7 = 0 then
        (fX11_need v0 (fX11_isSign v0 (59 : Int32) μ6) μ6).bind fun μ14 =>
        some μ14
      else
        (fX11_readsDeed v0 μ6).bind fun μ18 =>
        (fX11_need v0 (fX11_isSign v0 (59 : Int32) μ18) μ18).bind fun μ25 =>
        some μ25
    else
      (fX11_begins v0 (0 : Int32) (0 : Int32) μ).bind fun (r30, μ29) =>
      if r30 = 0 then
        (fX11_need v0 (fX11_isSign v0 (59 : Int32) μ29) μ29).bind fun μ37 =>
        some μ37
      else
        (fX11_readsDeed v0 μ29).bind fun μ41 =>
        (fX11_need v0 (fX11_isSign v0 (59 : Int32) μ41) μ41).bind fun μ48 =>
        some μ48
  else
    if r2 = (9 : Int32) then
      (fX11_begins v0 (0 : Int32) (0 : Int32) μ).bind fun (r53, μ52) =>
      if r53 = 0 then
        (fX11_need v0 (fX11_isSign v0 (59 : Int32) μ52) μ52).bind fun μ60 =>
        some μ60
      else
        (fX11_readsStile v0 μ52).bind fun μ64 =>
        (fX11_need v0 (fX11_isSign v0 (59 : Int32) μ64) μ64).bind fun μ71 =>
        some μ71
    else
      if r2 = (10 : Int32) then
        if (μ.2.1 v0 21) = (6 : Int32) then
          (fX11_begins v0 (1 : Int32) (0 : Int32) μ).bind fun (r76, μ75) =>
          if r76 = 0 then
            (fX11_need v0 (fX11_isSign v0 (59 : Int32) μ75) μ75).bind fun μ83 =>
            some μ83
          else
            (fX11_readsPerson v0 μ75).bind fun μ87 =>
            (fX11_need v0 (fX11_isSign v0 (59 : Int32) μ87) μ87).bind fun μ94 =>
            some μ94
        else
          (fX11_begins v0 (0 : Int32) (0 : Int32) μ).bind fun (r99, μ98) =>
          if r99 = 0 then
            (fX11_need v0 (fX11_isSign v0 (59 : Int32) μ98) μ98).bind fun μ106 =>
            some μ106
          else
            (fX11_readsPerson v0 μ98).bind fun μ110 =>
            (fX11_need v0 (fX11_isSign v0 (59 : Int32) μ110) μ110).bind fun μ117 =>
            some μ117
      else
        if r2 = (12 : Int32) then
          if (μ.2.1 v0 22) = (-1 : Int32) then
            (fX11_begins v0 (0 : Int32) (0 : Int32) μ).bind fun (r122, μ121) =>
            if r122 = 0 then
              (fX11_need v0 (fX11_isSign v0 (59 : Int32) μ121) μ121).bind fun μ129 =>
              some μ129
            else
              (some (sI μ121 v0 22 (μ121.2.1 v0 24))).bind fun μ132 =>
              (fX11_expression v0 (0 : Int32) (5 : Int32) μ132).bind fun μ136 =>
              (fX11_need v0 (fX11_isSign v0 (59 : Int32) μ136) μ136).bind fun μ143 =>
              some μ143
          else
            (fX11_begins v0 (0 : Int32) (1 : Int32) μ).bind fun (r148, μ147) =>
            if r148 = 0 then
              (fX11_need v0 (fX11_isSign v0 (59 : Int32) μ147) μ147).bind fun μ155 =>
              some μ155
            else
              (some (sI μ147 v0 22 (μ147.2.1 v0 24))).bind fun μ158 =>
              (fX11_expression v0 (0 : Int32) (5 : Int32) μ158).bind fun μ162 =>
              (fX11_need v0 (fX11_isSign v0 (59 : Int32) μ162) μ162).bind fun μ169 =>
              some μ169
        else
          if r2 = (13 : Int32) then
            if (μ.2.1 v0 23) = (-1 : Int32) then
              (fX11_begins v0 (0 : Int32) (0 : Int32) μ).bind fun (r174, μ173) =>
              if r174 = 0 then
                (fX11_need v0 (fX11_isSign v0 (59 : Int32) μ173) μ173).bind fun μ181 =>
                some μ181
              else
                (some (sI μ173 v0 23 (μ173.2.1 v0 24))).bind fun μ184 =>
                (fX11_expression v0 (4 : Int32) (8 : Int32) μ184).bind fun μ188 =>
                (fX11_need v0 (fX11_isSign v0 (59 : Int32) μ188) μ188).bind fun μ195 =>
                some μ195
            else
              (fX11_begins v0 (0 : Int32) (1 : Int32) μ).bind fun (r200, μ199) =>
              if r200 = 0 then
                (fX11_need v0 (fX11_isSign v0 (59 : Int32) μ199) μ199).bind fun μ207 =>
                some μ207
              else
                (some (sI μ199 v0 23 (μ199.2.1 v0 24))).bind fun μ210 =>
                (fX11_expression v0 (4 : Int32) (8 : Int32) μ210).bind fun μ214 =>
                (fX11_need v0 (fX11_isSign v0 (59 : Int32) μ214) μ214).bind fun μ221 =>
                some μ221
          else
            (fX11_wrong v0 (1 : Int32) μ).bind fun μ225 =>
            (fX11_need v0 (fX11_isSign v0 (59 : Int32) μ225) μ225).bind fun μ232 =>
            some μ232
set_option maxHeartbeats 4000000 in
theorem tX11_line {ω : Wd} {l : Launch} (d : Nat) {v0 : Nat} {μ : Mem} {res : Mem} (h : fX11_line v0 μ = some res) (hN : μ.1 = NN) (k0 : (kd v0).1 = 21) : Ct ω l mX11_line (d + 6) [.ref v0] μ 0 0 (PE (.inl none) res True) := by
  refine Ct.of pn_RX11 (Nat.le_of_ble_eq_true rfl) ?_
  show J ω l mX11_line (d + 6) 0 [(0, .ref v0)] [] μ 0 0 _
  unfold fX11_line at h
  refine J.aload_n (pc := 0) dX11_line_0 rfl 0 rfl ?_
  obtain ⟨r2, e1, h⟩ := bnd h
  refine J.callV (Y := mX11_line) (Z := mX11_knownWord) (pc := 1) (st := []) (k2 := 0) (n2 := 0) dX11_line_1 ml_RX11_183 mo_X11_knownWord mv_X11_knownWord rfl (tX11_knownWord (d + 3) e1 hN k0) k0 (okN hN k0 (by decide)).1 (okN hN k0 (by decide)).2 cq_11 (by decide) rfl rfl (Nat.le_of_ble_eq_true rfl) (by decide) (by decide) (fun v ν hp => ?_) (fun i ν hp => nrm hp.1)
  obtain ⟨rfl, rfl, hN3, hb4⟩ := QEl hp
  show J _ _ _ _ 4 _ ([.int r2]) _ _ _ _
  refine J.istore_n (pc := 4) ([(1, .int r2), (0, .ref v0)]) dX11_line_4 rfl (Nat.le_of_ble_eq_true rfl) rfl ?_
  refine J.iload_n (pc := 5) dX11_line_5 rfl 0 rfl ?_
  refine J.bipush (pc := 6) dX11_line_6 ib_8 ?_
  rcases ifc h with ⟨hc, h⟩ | ⟨hc, h⟩
  · refine J.cne (pc := 8) (tgt := 40) dX11_line_8 (by decide) (fun _ => ?_) (fun q => absurd hc q)
    refine J.aload_n (pc := 11) dX11_line_11 rfl 1 rfl ?_
    refine J.aload_n (pc := 12) dX11_line_12 rfl 1 rfl ?_
    refine J.fI (pc := 13) dX11_line_13 fl_RX11_221 k0 (okN hN3 k0 (by decide)) (Or.inl rfl) ?_
    refine J.bipush (pc := 16) dX11_line_16 ib_6 ?_
    rcases ifc h with ⟨hc, h⟩ | ⟨hc, h⟩
    · refine J.cne (pc := 18) (tgt := 25) dX11_line_18 (by decide) (fun _ => ?_) (fun q => absurd hc q)
      refine J.iconst (pc := 21) dX11_line_21 ic_1 ?_
      refine J.goto (pc := 22) (tgt := 26) dX11_line_22 (by decide) ?_
      refine J.iconst (pc := 26) dX11_line_26 ic_0 ?_
      obtain ⟨⟨r7, μ6⟩, e5, h⟩ := bnd h
      try dsimp only at h
      refine J.callV (Y := mX11_line) (Z := mX11_begins) (pc := 27) (st := []) (k2 := 0) (n2 := 0) dX11_line_27 ml_RX11_240 mo_X11_begins mv_X11_begins rfl (tX11_begins (d + 3) e5 hN3 k0) k0 (okN hN3 k0 (by decide)).1 (okN hN3 k0 (by decide)).2 cq_11 (by decide) rfl rfl (Nat.le_of_ble_eq_true rfl) (by decide) (by decide) (fun v ν hp => ?_) (fun i ν hp => nrm hp.1)
      obtain ⟨rfl, rfl, hN8, hb9⟩ := QEl hp
      show J _ _ _ _ 30 _ ([.int r7]) _ _ _ _
      rcases ifc h with ⟨hc, h⟩ | ⟨hc, h⟩
      · refine J.zeq (pc := 30) (tgt := 191) dX11_line_30 (by decide) (fun _ => ?_) (fun q => absurd hc q)
        refine J.aload_n (pc := 191) dX11_line_191 rfl 1 rfl ?_
        refine J.aload_n (pc := 192) dX11_line_192 rfl 1 rfl ?_
        refine J.bipush (pc := 193) dX11_line_193 ib_59 ?_
        refine J.callV (Y := mX11_line) (Z := mX11_isSign) (pc := 195) (st := [.ref v0]) (k2 := 0) (n2 := 0) dX11_line_195 ml_RX11_196 mo_X11_isSign mv_X11_isSign rfl (tX11_isSign (d + 5) v0 (59 : Int32) μ6 hN8 k0) k0 (okN hN8 k0 (by decide)).1 (okN hN8 k0 (by decide)).2 cq_11 (by decide) rfl rfl (Nat.le_of_ble_eq_true rfl) (by decide) (by decide) (fun v ν hp => ?_) (fun i ν hp => nrm hp.1)
        obtain ⟨rfl, rfl, hN11, hb12⟩ := QEl hp
        show J _ _ _ _ 198 _ ([.int (fX11_isSign v0 (59 : Int32) μ6), .ref v0]) _ _ _ _
        obtain ⟨μ14, e13, h⟩ := bnd h
        refine J.callV (Y := mX11_line) (Z := mX11_need) (pc := 198) (st := []) (k2 := 0) (n2 := 0) dX11_line_198 ml_RX11_263 mo_X11_need mv_X11_need rfl (tX11_need (d + 3) e13 hN11 k0) k0 (okN hN11 k0 (by decide)).1 (okN hN11 k0 (by decide)).2 cq_11 (by decide) rfl rfl (Nat.le_of_ble_eq_true rfl) (by decide) (by decide) (fun v ν hp => ?_) (fun i ν hp => nrm hp.1)
        obtain ⟨rfl, rfl, hN15, hb16⟩ := QEl hp
        show J _ _ _ _ 201 _ ([]) _ _ _ _
        cases h
        exact J.vret (pc := 201) dX11_line_201 rfl ⟨rfl, rfl, hN15, trivial⟩
      · refine J.zeq (pc := 30) (tgt := 191) dX11_line_30 (by decide) (fun q => absurd q hc) (fun _ => ?_)
        refine J.aload_n (pc := 33) dX11_line_33 rfl 1 rfl ?_
        obtain ⟨μ18, e17, h⟩ := bnd h
        refine J.callV (Y := mX11_line) (Z := mX11_readsDeed) (pc := 34) (st := []) (k2 := 0) (n2 := 0) dX11_line_34 ml_RX11_244 mo_X11_readsDeed mv_X11_readsDeed rfl (tX11_readsDeed (d + 2) e17 hN8 k0) k0 (okN hN8 k0 (by decide)).1 (okN hN8 k0 (by decide)).2 cq_11 (by decide) rfl rfl (Nat.le_of_ble_eq_true rfl) (by decide) (by decide) (fun v ν hp => ?_) (fun i ν hp => nrm hp.1)
        obtain ⟨rfl, rfl, hN19, hb20⟩ := QEl hp
        show J _ _ _ _ 37 _ ([]) _ _ _ _
        refine J.goto (pc := 37) (tgt := 191) dX11_line_37 (by decide) ?_
        refine J.aload_n (pc := 191) dX11_line_191 rfl 1 rfl ?_
        refine J.aload_n (pc := 192) dX11_line_192 rfl 1 rfl ?_
        refine J.bipush (pc := 193) dX11_line_193 ib_59 ?_
        refine J.callV (Y := mX11_line) (Z := mX11_isSign) (pc := 195) (st := [.ref v0]) (k2 := 0) (n2 := 0) dX11_line_195 ml_RX11_196 mo_X11_isSign mv_X11_isSign rfl (tX11_isSign (d + 5) v0 (59 : Int32) μ18 hN19 k0) k0 (okN hN19 k0 (by decide)).1 (okN hN19 k0 (by decide)).2 cq_11 (by decide) rfl rfl (Nat.le_of_ble_eq_true rfl) (by decide) (by decide) (fun v ν hp => ?_) (fun i ν hp => nrm hp.1)
        obtain ⟨rfl, rfl, hN22, hb23⟩ := QEl hp
        show J _ _ _ _ 198 _ ([.int (fX11_isSign v0 (59 : Int32) μ18), .ref v0]) _ _ _ _
        obtain ⟨μ25, e24, h⟩ := bnd h
        refine J.callV (Y := mX11_line) (Z := mX11_need) (pc := 198) (st := []) (k2 := 0) (n2 := 0) dX11_line_198 ml_RX11_263 mo_X11_need mv_X11_need rfl (tX11_need (d + 3) e24 hN22 k0) k0 (okN hN22 k0 (by decide)).1 (okN hN22 k0 (by decide)).2 cq_11 (by decide) rfl rfl (Nat.le_of_ble_eq_true rfl) (by decide) (by decide) (fun v ν hp => ?_) (fun i ν hp => nrm hp.1)
        obtain ⟨rfl, rfl, hN26, hb27⟩ := QEl hp
        show J _ _ _ _ 201 _ ([]) _ _ _ _
        cases h
        exact J.vret (pc := 201) dX11_line_201 rfl ⟨rfl, rfl, hN26, trivial⟩
    · refine J.cne (pc := 18) (tgt := 25) dX11_line_18 (by decide) (fun q => absurd q hc) (fun _ => ?_)
      refine J.iconst (pc := 25) dX11_line_25 ic_0 ?_
      refine J.iconst (pc := 26) dX11_line_26 ic_0 ?_
      obtain ⟨⟨r30, μ29⟩, e28, h⟩ := bnd h
      try dsimp only at h
      refine J.callV (Y := mX11_line) (Z := mX11_begins) (pc := 27) (st := []) (k2 := 0) (n2 := 0) dX11_line_27 ml_RX11_240 mo_X11_begins mv_X11_begins rfl (tX11_begins (d + 3) e28 hN3 k0) k0 (okN hN3 k0 (by decide)).1 (okN hN3 k0 (by decide)).2 cq_11 (by decide) rfl rfl (Nat.le_of_ble_eq_true rfl) (by decide) (by decide) (fun v ν hp => ?_) (fun i ν hp => nrm hp.1)
      obtain ⟨rfl, rfl, hN31, hb32⟩ := QEl hp
      show J _ _ _ _ 30 _ ([.int r30]) _ _ _ _
      rcases ifc h with ⟨hc, h⟩ | ⟨hc, h⟩
      · refine J.zeq (pc := 30) (tgt := 191) dX11_line_30 (by decide) (fun _ => ?_) (fun q => absurd hc q)
        refine J.aload_n (pc := 191) dX11_line_191 rfl 1 rfl ?_
        refine J.aload_n (pc := 192) dX11_line_192 rfl 1 rfl ?_
        refine J.bipush (pc := 193) dX11_line_193 ib_59 ?_
        refine J.callV (Y := mX11_line) (Z := mX11_isSign) (pc := 195) (st := [.ref v0]) (k2 := 0) (n2 := 0) dX11_line_195 ml_RX11_196 mo_X11_isSign mv_X11_isSign rfl (tX11_isSign (d + 5) v0 (59 : Int32) μ29 hN31 k0) k0 (okN hN31 k0 (by decide)).1 (okN hN31 k0 (by decide)).2 cq_11 (by decide) rfl rfl (Nat.le_of_ble_eq_true rfl) (by decide) (by decide) (fun v ν hp => ?_) (fun i ν hp => nrm hp.1)
        obtain ⟨rfl, rfl, hN34, hb35⟩ := QEl hp
        show J _ _ _ _ 198 _ ([.int (fX11_isSign v0 (59 : Int32) μ29), .ref v0]) _ _ _ _
        obtain ⟨μ37, e36, h⟩ := bnd h
        refine J.callV (Y := mX11_line) (Z := mX11_need) (pc := 198) (st := []) (k2 := 0) (n2 := 0) dX11_line_198 ml_RX11_263 mo_X11_need mv_X11_need rfl (tX11_need (d + 3) e36 hN34 k0) k0 (okN hN34 k0 (by decide)).1 (okN hN34 k0 (by decide)).2 cq_11 (by decide) rfl rfl (Nat.le_of_ble_eq_true rfl) (by decide) (by decide) (fun v ν hp => ?_) (fun i ν hp => nrm hp.1)
        obtain ⟨rfl, rfl, hN38, hb39⟩ := QEl hp
        show J _ _ _ _ 201 _ ([]) _ _ _ _
        cases h
        exact J.vret (pc := 201) dX11_line_201 rfl ⟨rfl, rfl, hN38, trivial⟩
      · refine J.zeq (pc := 30) (tgt := 191) dX11_line_30 (by decide) (fun q => absurd q hc) (fun _ => ?_)
        refine J.aload_n (pc := 33) dX11_line_33 rfl 1 rfl ?_
        obtain ⟨μ41, e40, h⟩ := bnd h
        refine J.callV (Y := mX11_line) (Z := mX11_readsDeed) (pc := 34) (st := []) (k2 := 0) (n2 := 0) dX11_line_34 ml_RX11_244 mo_X11_readsDeed mv_X11_readsDeed rfl (tX11_readsDeed (d + 2) e40 hN31 k0) k0 (okN hN31 k0 (by decide)).1 (okN hN31 k0 (by decide)).2 cq_11 (by decide) rfl rfl (Nat.le_of_ble_eq_true rfl) (by decide) (by decide) (fun v ν hp => ?_) (fun i ν hp => nrm hp.1)
        obtain ⟨rfl, rfl, hN42, hb43⟩ := QEl hp
        show J _ _ _ _ 37 _ ([]) _ _ _ _
        refine J.goto (pc := 37) (tgt := 191) dX11_line_37 (by decide) ?_
        refine J.aload_n (pc := 191) dX11_line_191 rfl 1 rfl ?_
        refine J.aload_n (pc := 192) dX11_line_192 rfl 1 rfl ?_
        refine J.bipush (pc := 193) dX11_line_193 ib_59 ?_
        refine J.callV (Y := mX11_line) (Z := mX11_isSign) (pc := 195) (st := [.ref v0]) (k2 := 0) (n2 := 0) dX11_line_195 ml_RX11_196 mo_X11_isSign mv_X11_isSign rfl (tX11_isSign (d + 5) v0 (59 : Int32) μ41 hN42 k0) k0 (okN hN42 k0 (by decide)).1 (okN hN42 k0 (by decide)).2 cq_11 (by decide) rfl rfl (Nat.le_of_ble_eq_true rfl) (by decide) (by decide) (fun v ν hp => ?_) (fun i ν hp => nrm hp.1)
        obtain ⟨rfl, rfl, hN45, hb46⟩ := QEl hp
        show J _ _ _ _ 198 _ ([.int (fX11_isSign v0 (59 : Int32) μ41), .ref v0]) _ _ _ _
        obtain ⟨μ48, e47, h⟩ := bnd h
        refine J.callV (Y := mX11_line) (Z := mX11_need) (pc := 198) (st := []) (k2 := 0) (n2 := 0) dX11_line_198 ml_RX11_263 mo_X11_need mv_X11_need rfl (tX11_need (d + 3) e47 hN45 k0) k0 (okN hN45 k0 (by decide)).1 (okN hN45 k0 (by decide)).2 cq_11 (by decide) rfl rfl (Nat.le_of_ble_eq_true rfl) (by decide) (by decide) (fun v ν hp => ?_) (fun i ν hp => nrm hp.1)
        obtain ⟨rfl, rfl, hN49, hb50⟩ := QEl hp
        show J _ _ _ _ 201 _ ([]) _ _ _ _
        cases h
        exact J.vret (pc := 201) dX11_line_201 rfl ⟨rfl, rfl, hN49, trivial⟩
  · refine J.cne (pc := 8) (tgt := 40) dX11_line_8 (by decide) (fun q => absurd q hc) (fun _ => ?_)
    refine J.iload_n (pc := 40) dX11_line_40 rfl 0 rfl ?_
    refine J.bipush (pc := 41) dX11_line_41 ib_9 ?_
    rcases ifc h with ⟨hc, h⟩ | ⟨hc, h⟩
    · refine J.cne (pc := 43) (tgt := 62) dX11_line_43 (by decide) (fun _ => ?_) (fun q => absurd hc q)
      refine J.aload_n (pc := 46) dX11_line_46 rfl 1 rfl ?_
      refine J.iconst (pc := 47) dX11_line_47 ic_0 ?_
      refine J.iconst (pc := 48) dX11_line_48 ic_0 ?_
      obtain ⟨⟨r53, μ52⟩, e51, h⟩ := bnd h
      try dsimp only at h
      refine J.callV (Y := mX11_line) (Z := mX11_begins) (pc := 49) (st := []) (k2 := 0) (n2 := 0) dX11_line_49 ml_RX11_240 mo_X11_begins mv_X11_begins rfl (tX11_begins (d + 3) e51 hN3 k0) k0 (okN hN3 k0 (by decide)).1 (okN hN3 k0 (by decide)).2 cq_11 (by decide) rfl rfl (Nat.le_of_ble_eq_true rfl) (by decide) (by decide) (fun v ν hp => ?_) (fun i ν hp => nrm hp.1)
      obtain ⟨rfl, rfl, hN54, hb55⟩ := QEl hp
      show J _ _ _ _ 52 _ ([.int r53]) _ _ _ _
      rcases ifc h with ⟨hc, h⟩ | ⟨hc, h⟩
      · refine J.zeq (pc := 52) (tgt := 191) dX11_line_52 (by decide) (fun _ => ?_) (fun q => absurd hc q)
        refine J.aload_n (pc := 191) dX11_line_191 rfl 1 rfl ?_
        refine J.aload_n (pc := 192) dX11_line_192 rfl 1 rfl ?_
        refine J.bipush (pc := 193) dX11_line_193 ib_59 ?_
        refine J.callV (Y := mX11_line) (Z := mX11_isSign) (pc := 195) (st := [.ref v0]) (k2 := 0) (n2 := 0) dX11_line_195 ml_RX11_196 mo_X11_isSign mv_X11_isSign rfl (tX11_isSign (d + 5) v0 (59 : Int32) μ52 hN54 k0) k0 (okN hN54 k0 (by decide)).1 (okN hN54 k0 (by decide)).2 cq_11 (by decide) rfl rfl (Nat.le_of_ble_eq_true rfl) (by decide) (by decide) (fun v ν hp => ?_) (fun i ν hp => nrm hp.1)
        obtain ⟨rfl, rfl, hN57, hb58⟩ := QEl hp
        show J _ _ _ _ 198 _ ([.int (fX11_isSign v0 (59 : Int32) μ52), .ref v0]) _ _ _ _
        obtain ⟨μ60, e59, h⟩ := bnd h
        refine J.callV (Y := mX11_line) (Z := mX11_need) (pc := 198) (st := []) (k2 := 0) (n2 := 0) dX11_line_198 ml_RX11_263 mo_X11_need mv_X11_need rfl (tX11_need (d + 3) e59 hN57 k0) k0 (okN hN57 k0 (by decide)).1 (okN hN57 k0 (by decide)).2 cq_11 (by decide) rfl rfl (Nat.le_of_ble_eq_true rfl) (by decide) (by decide) (fun v ν hp => ?_) (fun i ν hp => nrm hp.1)
        obtain ⟨rfl, rfl, hN61, hb62⟩ := QEl hp
        show J _ _ _ _ 201 _ ([]) _ _ _ _
        cases h
        exact J.vret (pc := 201) dX11_line_201 rfl ⟨rfl, rfl, hN61, trivial⟩
      · refine J.zeq (pc := 52) (tgt := 191) dX11_line_52 (by decide) (fun q => absurd q hc) (fun _ => ?_)
        refine J.aload_n (pc := 55) dX11_line_55 rfl 1 rfl ?_
        obtain ⟨μ64, e63, h⟩ := bnd h
        refine J.callV (Y := mX11_line) (Z := mX11_readsStile) (pc := 56) (st := []) (k2 := 0) (n2 := 0) dX11_line_56 ml_RX11_247 mo_X11_readsStile mv_X11_readsStile rfl (tX11_readsStile (d + 3) e63 hN54 k0) k0 (okN hN54 k0 (by decide)).1 (okN hN54 k0 (by decide)).2 cq_11 (by decide) rfl rfl (Nat.le_of_ble_eq_true rfl) (by decide) (by decide) (fun v ν hp => ?_) (fun i ν hp => nrm hp.1)
        obtain ⟨rfl, rfl, hN65, hb66⟩ := QEl hp
        show J _ _ _ _ 59 _ ([]) _ _ _ _
        refine J.goto (pc := 59) (tgt := 191) dX11_line_59 (by decide) ?_
        refine J.aload_n (pc := 191) dX11_line_191 rfl 1 rfl ?_
        refine J.aload_n (pc := 192) dX11_line_192 rfl 1 rfl ?_
        refine J.bipush (pc := 193) dX11_line_193 ib_59 ?_
        refine J.callV (Y := mX11_line) (Z := mX11_isSign) (pc := 195) (st := [.ref v0]) (k2 := 0) (n2 := 0) dX11_line_195 ml_RX11_196 mo_X11_isSign mv_X11_isSign rfl (tX11_isSign (d + 5) v0 (59 : Int32) μ64 hN65 k0) k0 (okN hN65 k0 (by decide)).1 (okN hN65 k0 (by decide)).2 cq_11 (by decide) rfl rfl (Nat.le_of_ble_eq_true rfl) (by decide) (by decide) (fun v ν hp => ?_) (fun i ν hp => nrm hp.1)
        obtain ⟨rfl, rfl, hN68, hb69⟩ := QEl hp
        show J _ _ _ _ 198 _ ([.int (fX11_isSign v0 (59 : Int32) μ64), .ref v0]) _ _ _ _
        obtain ⟨μ71, e70, h⟩ := bnd h
        refine J.callV (Y := mX11_line) (Z := mX11_need) (pc := 198) (st := []) (k2 := 0) (n2 := 0) dX11_line_198 ml_RX11_263 mo_X11_need mv_X11_need rfl (tX11_need (d + 3) e70 hN68 k0) k0 (okN hN68 k0 (by decide)).1 (okN hN68 k0 (by decide)).2 cq_11 (by decide) rfl rfl (Nat.le_of_ble_eq_true rfl) (by decide) (by decide) (fun v ν hp => ?_) (fun i ν hp => nrm hp.1)
        obtain ⟨rfl, rfl, hN72, hb73⟩ := QEl hp
        show J _ _ _ _ 201 _ ([]) _ _ _ _
        cases h
        exact J.vret (pc := 201) dX11_line_201 rfl ⟨rfl, rfl, hN72, trivial⟩
    · refine J.cne (pc := 43) (tgt := 62) dX11_line_43 (by decide) (fun q => absurd q hc) (fun _ => ?_)
      refine J.iload_n (pc := 62) dX11_line_62 rfl 0 rfl ?_
      refine J.bipush (pc := 63) dX11_line_63 ib_10 ?_
      rcases ifc h with ⟨hc, h⟩ | ⟨hc, h⟩
      · refine J.cne (pc := 65) (tgt := 97) dX11_line_65 (by decide) (fun _ => ?_) (fun q => absurd hc q)
        refine J.aload_n (pc := 68) dX11_line_68 rfl 1 rfl ?_
        refine J.aload_n (pc := 69) dX11_line_69 rfl 1 rfl ?_
        refine J.fI (pc := 70) dX11_line_70 fl_RX11_234 k0 (okN hN3 k0 (by decide)) (Or.inl rfl) ?_
        refine J.bipush (pc := 73) dX11_line_73 ib_6 ?_
        rcases ifc h with ⟨hc, h⟩ | ⟨hc, h⟩
        · refine J.cne (pc := 75) (tgt := 82) dX11_line_75 (by decide) (fun _ => ?_) (fun q => absurd hc q)
          refine J.iconst (pc := 78) dX11_line_78 ic_1 ?_
          refine J.goto (pc := 79) (tgt := 83) dX11_line_79 (by decide) ?_
          refine J.iconst (pc := 83) dX11_line_83 ic_0 ?_
          obtain ⟨⟨r76, μ75⟩, e74, h⟩ := bnd h
          try dsimp only at h
          refine J.callV (Y := mX11_line) (Z := mX11_begins) (pc := 84) (st := []) (k2 := 0) (n2 := 0) dX11_line_84 ml_RX11_240 mo_X11_begins mv_X11_begins rfl (tX11_begins (d + 3) e74 hN3 k0) k0 (okN hN3 k0 (by decide)).1 (okN hN3 k0 (by decide)).2 cq_11 (by decide) rfl rfl (Nat.le_of_ble_eq_true rfl) (by decide) (by decide) (fun v ν hp => ?_) (fun i ν hp => nrm hp.1)
          obtain ⟨rfl, rfl, hN77, hb78⟩ := QEl hp
          show J _ _ _ _ 87 _ ([.int r76]) _ _ _ _
          rcases ifc h with ⟨hc, h⟩ | ⟨hc, h⟩
          · refine J.zeq (pc := 87) (tgt := 191) dX11_line_87 (by decide) (fun _ => ?_) (fun q => absurd hc q)
            refine J.aload_n (pc := 191) dX11_line_191 rfl 1 rfl ?_
            refine J.aload_n (pc := 192) dX11_line_192 rfl 1 rfl ?_
            refine J.bipush (pc := 193) dX11_line_193 ib_59 ?_
            refine J.callV (Y := mX11_line) (Z := mX11_isSign) (pc := 195) (st := [.ref v0]) (k2 := 0) (n2 := 0) dX11_line_195 ml_RX11_196 mo_X11_isSign mv_X11_isSign rfl (tX11_isSign (d + 5) v0 (59 : Int32) μ75 hN77 k0) k0 (okN hN77 k0 (by decide)).1 (okN hN77 k0 (by decide)).2 cq_11 (by decide) rfl rfl (Nat.le_of_ble_eq_true rfl) (by decide) (by decide) (fun v ν hp => ?_) (fun i ν hp => nrm hp.1)
            obtain ⟨rfl, rfl, hN80, hb81⟩ := QEl hp
            show J _ _ _ _ 198 _ ([.int (fX11_isSign v0 (59 : Int32) μ75), .ref v0]) _ _ _ _
            obtain ⟨μ83, e82, h⟩ := bnd h
            refine J.callV (Y := mX11_line) (Z := mX11_need) (pc := 198) (st := []) (k2 := 0) (n2 := 0) dX11_line_198 ml_RX11_263 mo_X11_need mv_X11_need rfl (tX11_need (d + 3) e82 hN80 k0) k0 (okN hN80 k0 (by decide)).1 (okN hN80 k0 (by decide)).2 cq_11 (by decide) rfl rfl (Nat.le_of_ble_eq_true rfl) (by decide) (by decide) (fun v ν hp => ?_) (fun i ν hp => nrm hp.1)
            obtain ⟨rfl, rfl, hN84, hb85⟩ := QEl hp
            show J _ _ _ _ 201 _ ([]) _ _ _ _
            cases h
            exact J.vret (pc := 201) dX11_line_201 rfl ⟨rfl, rfl, hN84, trivial⟩
          · refine J.zeq (pc := 87) (tgt := 191) dX11_line_87 (by decide) (fun q => absurd q hc) (fun _ => ?_)
            refine J.aload_n (pc := 90) dX11_line_90 rfl 1 rfl ?_
            obtain ⟨μ87, e86, h⟩ := bnd h
            refine J.callV (Y := mX11_line) (Z := mX11_readsPerson) (pc := 91) (st := []) (k2 := 0) (n2 := 0) dX11_line_91 ml_RX11_250 mo_X11_readsPerson mv_X11_readsPerson rfl (tX11_readsPerson (d + 2) e86 hN77 k0) k0 (okN hN77 k0 (by decide)).1 (okN hN77 k0 (by decide)).2 cq_11 (by decide) rfl rfl (Nat.le_of_ble_eq_true rfl) (by decide) (by decide) (fun v ν hp => ?_) (fun i ν hp => nrm hp.1)
            obtain ⟨rfl, rfl, hN88, hb89⟩ := QEl hp
            show J _ _ _ _ 94 _ ([]) _ _ _ _
            refine J.goto (pc := 94) (tgt := 191) dX11_line_94 (by decide) ?_
            refine J.aload_n (pc := 191) dX11_line_191 rfl 1 rfl ?_
            refine J.aload_n (pc := 192) dX11_line_192 rfl 1 rfl ?_
            refine J.bipush (pc := 193) dX11_line_193 ib_59 ?_
            refine J.callV (Y := mX11_line) (Z := mX11_isSign) (pc := 195) (st := [.ref v0]) (k2 := 0) (n2 := 0) dX11_line_195 ml_RX11_196 mo_X11_isSign mv_X11_isSign rfl (tX11_isSign (d + 5) v0 (59 : Int32) μ87 hN88 k0) k0 (okN hN88 k0 (by decide)).1 (okN hN88 k0 (by decide)).2 cq_11 (by decide) rfl rfl (Nat.le_of_ble_eq_true rfl) (by decide) (by decide) (fun v ν hp => ?_) (fun i ν hp => nrm hp.1)
            obtain ⟨rfl, rfl, hN91, hb92⟩ := QEl hp
            show J _ _ _ _ 198 _ ([.int (fX11_isSign v0 (59 : Int32) μ87), .ref v0]) _ _ _ _
            obtain ⟨μ94, e93, h⟩ := bnd h
            refine J.callV (Y := mX11_line) (Z := mX11_need) (pc := 198) (st := []) (k2 := 0) (n2 := 0) dX11_line_198 ml_RX11_263 mo_X11_need mv_X11_need rfl (tX11_need (d + 3) e93 hN91 k0) k0 (okN hN91 k0 (by decide)).1 (okN hN91 k0 (by decide)).2 cq_11 (by decide) rfl rfl (Nat.le_of_ble_eq_true rfl) (by decide) (by decide) (fun v ν hp => ?_) (fun i ν hp => nrm hp.1)
            obtain ⟨rfl, rfl, hN95, hb96⟩ := QEl hp
            show J _ _ _ _ 201 _ ([]) _ _ _ _
            cases h
            exact J.vret (pc := 201) dX11_line_201 rfl ⟨rfl, rfl, hN95, trivial⟩
        · refine J.cne (pc := 75) (tgt := 82) dX11_line_75 (by decide) (fun q => absurd q hc) (fun _ => ?_)
          refine J.iconst (pc := 82) dX11_line_82 ic_0 ?_
          refine J.iconst (pc := 83) dX11_line_83 ic_0 ?_
          obtain ⟨⟨r99, μ98⟩, e97, h⟩ := bnd h
          try dsimp only at h
          refine J.callV (Y := mX11_line) (Z := mX11_begins) (pc := 84) (st := []) (k2 := 0) (n2 := 0) dX11_line_84 ml_RX11_240 mo_X11_begins mv_X11_begins rfl (tX11_begins (d + 3) e97 hN3 k0) k0 (okN hN3 k0 (by decide)).1 (okN hN3 k0 (by decide)).2 cq_11 (by decide) rfl rfl (Nat.le_of_ble_eq_true rfl) (by decide) (by decide) (fun v ν hp => ?_) (fun i ν hp => nrm hp.1)
          obtain ⟨rfl, rfl, hN100, hb101⟩ := QEl hp
          show J _ _ _ _ 87 _ ([.int r99]) _ _ _ _
          rcases ifc h with ⟨hc, h⟩ | ⟨hc, h⟩
          · refine J.zeq (pc := 87) (tgt := 191) dX11_line_87 (by decide) (fun _ => ?_) (fun q => absurd hc q)
            refine J.aload_n (pc := 191) dX11_line_191 rfl 1 rfl ?_
            refine J.aload_n (pc := 192) dX11_line_192 rfl 1 rfl ?_
            refine J.bipush (pc := 193) dX11_line_193 ib_59 ?_
            refine J.callV (Y := mX11_line) (Z := mX11_isSign) (pc := 195) (st := [.ref v0]) (k2 := 0) (n2 := 0) dX11_line_195 ml_RX11_196 mo_X11_isSign mv_X11_isSign rfl (tX11_isSign (d + 5) v0 (59 : Int32) μ98 hN100 k0) k0 (okN hN100 k0 (by decide)).1 (okN hN100 k0 (by decide)).2 cq_11 (by decide) rfl rfl (Nat.le_of_ble_eq_true rfl) (by decide) (by decide) (fun v ν hp => ?_) (fun i ν hp => nrm hp.1)
            obtain ⟨rfl, rfl, hN103, hb104⟩ := QEl hp
            show J _ _ _ _ 198 _ ([.int (fX11_isSign v0 (59 : Int32) μ98), .ref v0]) _ _ _ _
            obtain ⟨μ106, e105, h⟩ := bnd h
            refine J.callV (Y := mX11_line) (Z := mX11_need) (pc := 198) (st := []) (k2 := 0) (n2 := 0) dX11_line_198 ml_RX11_263 mo_X11_need mv_X11_need rfl (tX11_need (d + 3) e105 hN103 k0) k0 (okN hN103 k0 (by decide)).1 (okN hN103 k0 (by decide)).2 cq_11 (by decide) rfl rfl (Nat.le_of_ble_eq_true rfl) (by decide) (by decide) (fun v ν hp => ?_) (fun i ν hp => nrm hp.1)
            obtain ⟨rfl, rfl, hN107, hb108⟩ := QEl hp
            show J _ _ _ _ 201 _ ([]) _ _ _ _
            cases h
            exact J.vret (pc := 201) dX11_line_201 rfl ⟨rfl, rfl, hN107, trivial⟩
          · refine J.zeq (pc := 87) (tgt := 191) dX11_line_87 (by decide) (fun q => absurd q hc) (fun _ => ?_)
            refine J.aload_n (pc := 90) dX11_line_90 rfl 1 rfl ?_
            obtain ⟨μ110, e109, h⟩ := bnd h
            refine J.callV (Y := mX11_line) (Z := mX11_readsPerson) (pc := 91) (st := []) (k2 := 0) (n2 := 0) dX11_line_91 ml_RX11_250 mo_X11_readsPerson mv_X11_readsPerson rfl (tX11_readsPerson (d + 2) e109 hN100 k0) k0 (okN hN100 k0 (by decide)).1 (okN hN100 k0 (by decide)).2 cq_11 (by decide) rfl rfl (Nat.le_of_ble_eq_true rfl) (by decide) (by decide) (fun v ν hp => ?_) (fun i ν hp => nrm hp.1)
            obtain ⟨rfl, rfl, hN111, hb112⟩ := QEl hp
            show J _ _ _ _ 94 _ ([]) _ _ _ _
            refine J.goto (pc := 94) (tgt := 191) dX11_line_94 (by decide) ?_
            refine J.aload_n (pc := 191) dX11_line_191 rfl 1 rfl ?_
            refine J.aload_n (pc := 192) dX11_line_192 rfl 1 rfl ?_
            refine J.bipush (pc := 193) dX11_line_193 ib_59 ?_
            refine J.callV (Y := mX11_line) (Z := mX11_isSign) (pc := 195) (st := [.ref v0]) (k2 := 0) (n2 := 0) dX11_line_195 ml_RX11_196 mo_X11_isSign mv_X11_isSign rfl (tX11_isSign (d + 5) v0 (59 : Int32) μ110 hN111 k0) k0 (okN hN111 k0 (by decide)).1 (okN hN111 k0 (by decide)).2 cq_11 (by decide) rfl rfl (Nat.le_of_ble_eq_true rfl) (by decide) (by decide) (fun v ν hp => ?_) (fun i ν hp => nrm hp.1)
            obtain ⟨rfl, rfl, hN114, hb115⟩ := QEl hp
            show J _ _ _ _ 198 _ ([.int (fX11_isSign v0 (59 : Int32) μ110), .ref v0]) _ _ _ _
            obtain ⟨μ117, e116, h⟩ := bnd h
            refine J.callV (Y := mX11_line) (Z := mX11_need) (pc := 198) (st := []) (k2 := 0) (n2 := 0) dX11_line_198 ml_RX11_263 mo_X11_need mv_X11_need rfl (tX11_need (d + 3) e116 hN114 k0) k0 (okN hN114 k0 (by decide)).1 (okN hN114 k0 (by decide)).2 cq_11 (by decide) rfl rfl (Nat.le_of_ble_eq_true rfl) (by decide) (by decide) (fun v ν hp => ?_) (fun i ν hp => nrm hp.1)
            obtain ⟨rfl, rfl, hN118, hb119⟩ := QEl hp
            show J _ _ _ _ 201 _ ([]) _ _ _ _
            cases h
            exact J.vret (pc := 201) dX11_line_201 rfl ⟨rfl, rfl, hN118, trivial⟩
      · refine J.cne (pc := 65) (tgt := 97) dX11_line_65 (by decide) (fun q => absurd q hc) (fun _ => ?_)
        refine J.iload_n (pc := 97) dX11_line_97 rfl 0 rfl ?_
        refine J.bipush (pc := 98) dX11_line_98 ib_12 ?_
        rcases ifc h with ⟨hc, h⟩ | ⟨hc, h⟩
        · refine J.cne (pc := 100) (tgt := 141) dX11_line_100 (by decide) (fun _ => ?_) (fun q => absurd hc q)
          refine J.aload_n (pc := 103) dX11_line_103 rfl 1 rfl ?_
          refine J.iconst (pc := 104) dX11_line_104 ic_0 ?_
          refine J.aload_n (pc := 105) dX11_line_105 rfl 1 rfl ?_
          refine J.fI (pc := 106) dX11_line_106 fl_RX11_253 k0 (okN hN3 k0 (by decide)) (Or.inl rfl) ?_
          refine J.iconst (pc := 109) dX11_line_109 ic_m1 ?_
          rcases ifc h with ⟨hc, h⟩ | ⟨hc, h⟩
          · refine J.ceq (pc := 110) (tgt := 117) dX11_line_110 (by decide) (fun _ => ?_) (fun q => absurd hc q)
            refine J.iconst (pc := 117) dX11_line_117 ic_0 ?_
            obtain ⟨⟨r122, μ121⟩, e120, h⟩ := bnd h
            try dsimp only at h
            refine J.callV (Y := mX11_line) (Z := mX11_begins) (pc := 118) (st := []) (k2 := 0) (n2 := 0) dX11_line_118 ml_RX11_240 mo_X11_begins mv_X11_begins rfl (tX11_begins (d + 3) e120 hN3 k0) k0 (okN hN3 k0 (by decide)).1 (okN hN3 k0 (by decide)).2 cq_11 (by decide) rfl rfl (Nat.le_of_ble_eq_true rfl) (by decide) (by decide) (fun v ν hp => ?_) (fun i ν hp => nrm hp.1)
            obtain ⟨rfl, rfl, hN123, hb124⟩ := QEl hp
            show J _ _ _ _ 121 _ ([.int r122]) _ _ _ _
            rcases ifc h with ⟨hc, h⟩ | ⟨hc, h⟩
            · refine J.zeq (pc := 121) (tgt := 191) dX11_line_121 (by decide) (fun _ => ?_) (fun q => absurd hc q)
              refine J.aload_n (pc := 191) dX11_line_191 rfl 1 rfl ?_
              refine J.aload_n (pc := 192) dX11_line_192 rfl 1 rfl ?_
              refine J.bipush (pc := 193) dX11_line_193 ib_59 ?_
              refine J.callV (Y := mX11_line) (Z := mX11_isSign) (pc := 195) (st := [.ref v0]) (k2 := 0) (n2 := 0) dX11_line_195 ml_RX11_196 mo_X11_isSign mv_X11_isSign rfl (tX11_isSign (d + 5) v0 (59 : Int32) μ121 hN123 k0) k0 (okN hN123 k0 (by decide)).1 (okN hN123 k0 (by decide)).2 cq_11 (by decide) rfl rfl (Nat.le_of_ble_eq_true rfl) (by decide) (by decide) (fun v ν hp => ?_) (fun i ν hp => nrm hp.1)
              obtain ⟨rfl, rfl, hN126, hb127⟩ := QEl hp
              show J _ _ _ _ 198 _ ([.int (fX11_isSign v0 (59 : Int32) μ121), .ref v0]) _ _ _ _
              obtain ⟨μ129, e128, h⟩ := bnd h
              refine J.callV (Y := mX11_line) (Z := mX11_need) (pc := 198) (st := []) (k2 := 0) (n2 := 0) dX11_line_198 ml_RX11_263 mo_X11_need mv_X11_need rfl (tX11_need (d + 3) e128 hN126 k0) k0 (okN hN126 k0 (by decide)).1 (okN hN126 k0 (by decide)).2 cq_11 (by decide) rfl rfl (Nat.le_of_ble_eq_true rfl) (by decide) (by decide) (fun v ν hp => ?_) (fun i ν hp => nrm hp.1)
              obtain ⟨rfl, rfl, hN130, hb131⟩ := QEl hp
              show J _ _ _ _ 201 _ ([]) _ _ _ _
              cases h
              exact J.vret (pc := 201) dX11_line_201 rfl ⟨rfl, rfl, hN130, trivial⟩
            · refine J.zeq (pc := 121) (tgt := 191) dX11_line_121 (by decide) (fun q => absurd q hc) (fun _ => ?_)
              refine J.aload_n (pc := 124) dX11_line_124 rfl 1 rfl ?_
              refine J.aload_n (pc := 125) dX11_line_125 rfl 1 rfl ?_
              refine J.fI (pc := 126) dX11_line_126 fl_RX11_168 k0 (okN hN123 k0 (by decide)) (Or.inl rfl) ?_
              obtain ⟨μ132, e133, h⟩ := bnd h
              have hN134 : μ132.1 = NN := smN e133 hN123
              refine J.qI (pc := 129) dX11_line_129 fl_RX11_253 k0 (okN hN123 k0 (by decide)) rfl rfl e133 ?_
              refine J.aload_n (pc := 132) dX11_line_132 rfl 1 rfl ?_
              refine J.iconst (pc := 133) dX11_line_133 ic_0 ?_
              refine J.iconst (pc := 134) dX11_line_134 ic_5 ?_
              obtain ⟨μ136, e135, h⟩ := bnd h
              refine J.callV (Y := mX11_line) (Z := mX11_expression) (pc := 135) (st := []) (k2 := 0) (n2 := 0) dX11_line_135 ml_RX11_256 mo_X11_expression mv_X11_expression rfl (tX11_expression d e135 hN134 k0) k0 (okN hN134 k0 (by decide)).1 (okN hN134 k0 (by decide)).2 cq_11 (by decide) rfl rfl (Nat.le_of_ble_eq_true rfl) (by decide) (by decide) (fun v ν hp => ?_) (fun i ν hp => nrm hp.1)
              obtain ⟨rfl, rfl, hN137, hb138⟩ := QEl hp
              show J _ _ _ _ 138 _ ([]) _ _ _ _
              refine J.goto (pc := 138) (tgt := 191) dX11_line_138 (by decide) ?_
              refine J.aload_n (pc := 191) dX11_line_191 rfl 1 rfl ?_
              refine J.aload_n (pc := 192) dX11_line_192 rfl 1 rfl ?_
              refine J.bipush (pc := 193) dX11_line_193 ib_59 ?_
              refine J.callV (Y := mX11_line) (Z := mX11_isSign) (pc := 195) (st := [.ref v0]) (k2 := 0) (n2 := 0) dX11_line_195 ml_RX11_196 mo_X11_isSign mv_X11_isSign rfl (tX11_isSign (d + 5) v0 (59 : Int32) μ136 hN137 k0) k0 (okN hN137 k0 (by decide)).1 (okN hN137 k0 (by decide)).2 cq_11 (by decide) rfl rfl (Nat.le_of_ble_eq_true rfl) (by decide) (by decide) (fun v ν hp => ?_) (fun i ν hp => nrm hp.1)
              obtain ⟨rfl, rfl, hN140, hb141⟩ := QEl hp
              show J _ _ _ _ 198 _ ([.int (fX11_isSign v0 (59 : Int32) μ136), .ref v0]) _ _ _ _
              obtain ⟨μ143, e142, h⟩ := bnd h
              refine J.callV (Y := mX11_line) (Z := mX11_need) (pc := 198) (st := []) (k2 := 0) (n2 := 0) dX11_line_198 ml_RX11_263 mo_X11_need mv_X11_need rfl (tX11_need (d + 3) e142 hN140 k0) k0 (okN hN140 k0 (by decide)).1 (okN hN140 k0 (by decide)).2 cq_11 (by decide) rfl rfl (Nat.le_of_ble_eq_true rfl) (by decide) (by decide) (fun v ν hp => ?_) (fun i ν hp => nrm hp.1)
              obtain ⟨rfl, rfl, hN144, hb145⟩ := QEl hp
              show J _ _ _ _ 201 _ ([]) _ _ _ _
              cases h
              exact J.vret (pc := 201) dX11_line_201 rfl ⟨rfl, rfl, hN144, trivial⟩
          · refine J.ceq (pc := 110) (tgt := 117) dX11_line_110 (by decide) (fun q => absurd q hc) (fun _ => ?_)
            refine J.iconst (pc := 113) dX11_line_113 ic_1 ?_
            refine J.goto (pc := 114) (tgt := 118) dX11_line_114 (by decide) ?_
            obtain ⟨⟨r148, μ147⟩, e146, h⟩ := bnd h
            try dsimp only at h
            refine J.callV (Y := mX11_line) (Z := mX11_begins) (pc := 118) (st := []) (k2 := 0) (n2 := 0) dX11_line_118 ml_RX11_240 mo_X11_begins mv_X11_begins rfl (tX11_begins (d + 3) e146 hN3 k0) k0 (okN hN3 k0 (by decide)).1 (okN hN3 k0 (by decide)).2 cq_11 (by decide) rfl rfl (Nat.le_of_ble_eq_true rfl) (by decide) (by decide) (fun v ν hp => ?_) (fun i ν hp => nrm hp.1)
            obtain ⟨rfl, rfl, hN149, hb150⟩ := QEl hp
            show J _ _ _ _ 121 _ ([.int r148]) _ _ _ _
            rcases ifc h with ⟨hc, h⟩ | ⟨hc, h⟩
            · refine J.zeq (pc := 121) (tgt := 191) dX11_line_121 (by decide) (fun _ => ?_) (fun q => absurd hc q)
              refine J.aload_n (pc := 191) dX11_line_191 rfl 1 rfl ?_
              refine J.aload_n (pc := 192) dX11_line_192 rfl 1 rfl ?_
              refine J.bipush (pc := 193) dX11_line_193 ib_59 ?_
              refine J.callV (Y := mX11_line) (Z := mX11_isSign) (pc := 195) (st := [.ref v0]) (k2 := 0) (n2 := 0) dX11_line_195 ml_RX11_196 mo_X11_isSign mv_X11_isSign rfl (tX11_isSign (d + 5) v0 (59 : Int32) μ147 hN149 k0) k0 (okN hN149 k0 (by decide)).1 (okN hN149 k0 (by decide)).2 cq_11 (by decide) rfl rfl (Nat.le_of_ble_eq_true rfl) (by decide) (by decide) (fun v ν hp => ?_) (fun i ν hp => nrm hp.1)
              obtain ⟨rfl, rfl, hN152, hb153⟩ := QEl hp
              show J _ _ _ _ 198 _ ([.int (fX11_isSign v0 (59 : Int32) μ147), .ref v0]) _ _ _ _
              obtain ⟨μ155, e154, h⟩ := bnd h
              refine J.callV (Y := mX11_line) (Z := mX11_need) (pc := 198) (st := []) (k2 := 0) (n2 := 0) dX11_line_198 ml_RX11_263 mo_X11_need mv_X11_need rfl (tX11_need (d + 3) e154 hN152 k0) k0 (okN hN152 k0 (by decide)).1 (okN hN152 k0 (by decide)).2 cq_11 (by decide) rfl rfl (Nat.le_of_ble_eq_true rfl) (by decide) (by decide) (fun v ν hp => ?_) (fun i ν hp => nrm hp.1)
              obtain ⟨rfl, rfl, hN156, hb157⟩ := QEl hp
              show J _ _ _ _ 201 _ ([]) _ _ _ _
              cases h
              exact J.vret (pc := 201) dX11_line_201 rfl ⟨rfl, rfl, hN156, trivial⟩
            · refine J.zeq (pc := 121) (tgt := 191) dX11_line_121 (by decide) (fun q => absurd q hc) (fun _ => ?_)
              refine J.aload_n (pc := 124) dX11_line_124 rfl 1 rfl ?_
              refine J.aload_n (pc := 125) dX11_line_125 rfl 1 rfl ?_
              refine J.fI (pc := 126) dX11_line_126 fl_RX11_168 k0 (okN hN149 k0 (by decide)) (Or.inl rfl) ?_
              obtain ⟨μ158, e159, h⟩ := bnd h
              have hN160 : μ158.1 = NN := smN e159 hN149
              refine J.qI (pc := 129) dX11_line_129 fl_RX11_253 k0 (okN hN149 k0 (by decide)) rfl rfl e159 ?_
              refine J.aload_n (pc := 132) dX11_line_132 rfl 1 rfl ?_
              refine J.iconst (pc := 133) dX11_line_133 ic_0 ?_
              refine J.iconst (pc := 134) dX11_line_134 ic_5 ?_
              obtain ⟨μ162, e161, h⟩ := bnd h
              refine J.callV (Y := mX11_line) (Z := mX11_expression) (pc := 135) (st := []) (k2 := 0) (n2 := 0) dX11_line_135 ml_RX11_256 mo_X11_expression mv_X11_expression rfl (tX11_expression d e161 hN160 k0) k0 (okN hN160 k0 (by decide)).1 (okN hN160 k0 (by decide)).2 cq_11 (by decide) rfl rfl (Nat.le_of_ble_eq_true rfl) (by decide) (by decide) (fun v ν hp => ?_) (fun i ν hp => nrm hp.1)
              obtain ⟨rfl, rfl, hN163, hb164⟩ := QEl hp
              show J _ _ _ _ 138 _ ([]) _ _ _ _
              refine J.goto (pc := 138) (tgt := 191) dX11_line_138 (by decide) ?_
              refine J.aload_n (pc := 191) dX11_line_191 rfl 1 rfl ?_
              refine J.aload_n (pc := 192) dX11_line_192 rfl 1 rfl ?_
              refine J.bipush (pc := 193) dX11_line_193 ib_59 ?_
              refine J.callV (Y := mX11_line) (Z := mX11_isSign) (pc := 195) (st := [.ref v0]) (k2 := 0) (n2 := 0) dX11_line_195 ml_RX11_196 mo_X11_isSign mv_X11_isSign rfl (tX11_isSign (d + 5) v0 (59 : Int32) μ162 hN163 k0) k0 (okN hN163 k0 (by decide)).1 (okN hN163 k0 (by decide)).2 cq_11 (by decide) rfl rfl (Nat.le_of_ble_eq_true rfl) (by decide) (by decide) (fun v ν hp => ?_) (fun i ν hp => nrm hp.1)
              obtain ⟨rfl, rfl, hN166, hb167⟩ := QEl hp
              show J _ _ _ _ 198 _ ([.int (fX11_isSign v0 (59 : Int32) μ162), .ref v0]) _ _ _ _
              obtain ⟨μ169, e168, h⟩ := bnd h
              refine J.callV (Y := mX11_line) (Z := mX11_need) (pc := 198) (st := []) (k2 := 0) (n2 := 0) dX11_line_198 ml_RX11_263 mo_X11_need mv_X11_need rfl (tX11_need (d + 3) e168 hN166 k0) k0 (okN hN166 k0 (by decide)).1 (okN hN166 k0 (by decide)).2 cq_11 (by decide) rfl rfl (Nat.le_of_ble_eq_true rfl) (by decide) (by decide) (fun v ν hp => ?_) (fun i ν hp => nrm hp.1)
              obtain ⟨rfl, rfl, hN170, hb171⟩ := QEl hp
              show J _ _ _ _ 201 _ ([]) _ _ _ _
              cases h
              exact J.vret (pc := 201) dX11_line_201 rfl ⟨rfl, rfl, hN170, trivial⟩
        · refine J.cne (pc := 100) (tgt := 141) dX11_line_100 (by decide) (fun q => absurd q hc) (fun _ => ?_)
          refine J.iload_n (pc := 141) dX11_line_141 rfl 0 rfl ?_
          refine J.bipush (pc := 142) dX11_line_142 ib_13 ?_
          rcases ifc h with ⟨hc, h⟩ | ⟨hc, h⟩
          · refine J.cne (pc := 144) (tgt := 186) dX11_line_144 (by decide) (fun _ => ?_) (fun q => absurd hc q)
            refine J.aload_n (pc := 147) dX11_line_147 rfl 1 rfl ?_
            refine J.iconst (pc := 148) dX11_line_148 ic_0 ?_
            refine J.aload_n (pc := 149) dX11_line_149 rfl 1 rfl ?_
            refine J.fI (pc := 150) dX11_line_150 fl_RX11_260 k0 (okN hN3 k0 (by decide)) (Or.inl rfl) ?_
            refine J.iconst (pc := 153) dX11_line_153 ic_m1 ?_
            rcases ifc h with ⟨hc, h⟩ | ⟨hc, h⟩
            · refine J.ceq (pc := 154) (tgt := 161) dX11_line_154 (by decide) (fun _ => ?_) (fun q => absurd hc q)
              refine J.iconst (pc := 161) dX11_line_161 ic_0 ?_
              obtain ⟨⟨r174, μ173⟩, e172, h⟩ := bnd h
              try dsimp only at h
              refine J.callV (Y := mX11_line) (Z := mX11_begins) (pc := 162) (st := []) (k2 := 0) (n2 := 0) dX11_line_162 ml_RX11_240 mo_X11_begins mv_X11_begins rfl (tX11_begins (d + 3) e172 hN3 k0) k0 (okN hN3 k0 (by decide)).1 (okN hN3 k0 (by decide)).2 cq_11 (by decide) rfl rfl (Nat.le_of_ble_eq_true rfl) (by decide) (by decide) (fun v ν hp => ?_) (fun i ν hp => nrm hp.1)
              obtain ⟨rfl, rfl, hN175, hb176⟩ := QEl hp
              show J _ _ _ _ 165 _ ([.int r174]) _ _ _ _
              rcases ifc h with ⟨hc, h⟩ | ⟨hc, h⟩
              · refine J.zeq (pc := 165) (tgt := 191) dX11_line_165 (by decide) (fun _ => ?_) (fun q => absurd hc q)
                refine J.aload_n (pc := 191) dX11_line_191 rfl 1 rfl ?_
                refine J.aload_n (pc := 192) dX11_line_192 rfl 1 rfl ?_
                refine J.bipush (pc := 193) dX11_line_193 ib_59 ?_
                refine J.callV (Y := mX11_line) (Z := mX11_isSign) (pc := 195) (st := [.ref v0]) (k2 := 0) (n2 := 0) dX11_line_195 ml_RX11_196 mo_X11_isSign mv_X11_isSign rfl (tX11_isSign (d + 5) v0 (59 : Int32) μ173 hN175 k0) k0 (okN hN175 k0 (by decide)).1 (okN hN175 k0 (by decide)).2 cq_11 (by decide) rfl rfl (Nat.le_of_ble_eq_true rfl) (by decide) (by decide) (fun v ν hp => ?_) (fun i ν hp => nrm hp.1)
                obtain ⟨rfl, rfl, hN178, hb179⟩ := QEl hp
                show J _ _ _ _ 198 _ ([.int (fX11_isSign v0 (59 : Int32) μ173), .ref v0]) _ _ _ _
                obtain ⟨μ181, e180, h⟩ := bnd h
                refine J.callV (Y := mX11_line) (Z := mX11_need) (pc := 198) (st := []) (k2 := 0) (n2 := 0) dX11_line_198 ml_RX11_263 mo_X11_need mv_X11_need rfl (tX11_need (d + 3) e180 hN178 k0) k0 (okN hN178 k0 (by decide)).1 (okN hN178 k0 (by decide)).2 cq_11 (by decide) rfl rfl (Nat.le_of_ble_eq_true rfl) (by decide) (by decide) (fun v ν hp => ?_) (fun i ν hp => nrm hp.1)
                obtain ⟨rfl, rfl, hN182, hb183⟩ := QEl hp
                show J _ _ _ _ 201 _ ([]) _ _ _ _
                cases h
                exact J.vret (pc := 201) dX11_line_201 rfl ⟨rfl, rfl, hN182, trivial⟩
              · refine J.zeq (pc := 165) (tgt := 191) dX11_line_165 (by decide) (fun q => absurd q hc) (fun _ => ?_)
                refine J.aload_n (pc := 168) dX11_line_168 rfl 1 rfl ?_
                refine J.aload_n (pc := 169) dX11_line_169 rfl 1 rfl ?_
                refine J.fI (pc := 170) dX11_line_170 fl_RX11_168 k0 (okN hN175 k0 (by decide)) (Or.inl rfl) ?_
                obtain ⟨μ184, e185, h⟩ := bnd h
                have hN186 : μ184.1 = NN := smN e185 hN175
                refine J.qI (pc := 173) dX11_line_173 fl_RX11_260 k0 (okN hN175 k0 (by decide)) rfl rfl e185 ?_
                refine J.aload_n (pc := 176) dX11_line_176 rfl 1 rfl ?_
                refine J.iconst (pc := 177) dX11_line_177 ic_4 ?_
                refine J.bipush (pc := 178) dX11_line_178 ib_8 ?_
                obtain ⟨μ188, e187, h⟩ := bnd h
                refine J.callV (Y := mX11_line) (Z := mX11_expression) (pc := 180) (st := []) (k2 := 0) (n2 := 0) dX11_line_180 ml_RX11_256 mo_X11_expression mv_X11_expression rfl (tX11_expression d e187 hN186 k0) k0 (okN hN186 k0 (by decide)).1 (okN hN186 k0 (by decide)).2 cq_11 (by decide) rfl rfl (Nat.le_of_ble_eq_true rfl) (by decide) (by decide) (fun v ν hp => ?_) (fun i ν hp => nrm hp.1)
                obtain ⟨rfl, rfl, hN189, hb190⟩ := QEl hp
                show J _ _ _ _ 183 _ ([]) _ _ _ _
                refine J.goto (pc := 183) (tgt := 191) dX11_line_183 (by decide) ?_
                refine J.aload_n (pc := 191) dX11_line_191 rfl 1 rfl ?_
                refine J.aload_n (pc := 192) dX11_line_192 rfl 1 rfl ?_
                refine J.bipush (pc := 193) dX11_line_193 ib_59 ?_
                refine J.callV (Y := mX11_line) (Z := mX11_isSign) (pc := 195) (st := [.ref v0]) (k2 := 0) (n2 := 0) dX11_line_195 ml_RX11_196 mo_X11_isSign mv_X11_isSign rfl (tX11_isSign (d + 5) v0 (59 : Int32) μ188 hN189 k0) k0 (okN hN189 k0 (by decide)).1 (okN hN189 k0 (by decide)).2 cq_11 (by decide) rfl rfl (Nat.le_of_ble_eq_true rfl) (by decide) (by decide) (fun v ν hp => ?_) (fun i ν hp => nrm hp.1)
                obtain ⟨rfl, rfl, hN192, hb193⟩ := QEl hp
                show J _ _ _ _ 198 _ ([.int (fX11_isSign v0 (59 : Int32) μ188), .ref v0]) _ _ _ _
                obtain ⟨μ195, e194, h⟩ := bnd h
                refine J.callV (Y := mX11_line) (Z := mX11_need) (pc := 198) (st := []) (k2 := 0) (n2 := 0) dX11_line_198 ml_RX11_263 mo_X11_need mv_X11_need rfl (tX11_need (d + 3) e194 hN192 k0) k0 (okN hN192 k0 (by decide)).1 (okN hN192 k0 (by decide)).2 cq_11 (by decide) rfl rfl (Nat.le_of_ble_eq_true rfl) (by decide) (by decide) (fun v ν hp => ?_) (fun i ν hp => nrm hp.1)
                obtain ⟨rfl, rfl, hN196, hb197⟩ := QEl hp
                show J _ _ _ _ 201 _ ([]) _ _ _ _
                cases h
                exact J.vret (pc := 201) dX11_line_201 rfl ⟨rfl, rfl, hN196, trivial⟩
            · refine J.ceq (pc := 154) (tgt := 161) dX11_line_154 (by decide) (fun q => absurd q hc) (fun _ => ?_)
              refine J.iconst (pc := 157) dX11_line_157 ic_1 ?_
              refine J.goto (pc := 158) (tgt := 162) dX11_line_158 (by decide) ?_
              obtain ⟨⟨r200, μ199⟩, e198, h⟩ := bnd h
              try dsimp only at h
              refine J.callV (Y := mX11_line) (Z := mX11_begins) (pc := 162) (st := []) (k2 := 0) (n2 := 0) dX11_line_162 ml_RX11_240 mo_X11_begins mv_X11_begins rfl (tX11_begins (d + 3) e198 hN3 k0) k0 (okN hN3 k0 (by decide)).1 (okN hN3 k0 (by decide)).2 cq_11 (by decide) rfl rfl (Nat.le_of_ble_eq_true rfl) (by decide) (by decide) (fun v ν hp => ?_) (fun i ν hp => nrm hp.1)
              obtain ⟨rfl, rfl, hN201, hb202⟩ := QEl hp
              show J _ _ _ _ 165 _ ([.int r200]) _ _ _ _
              rcases ifc h with ⟨hc, h⟩ | ⟨hc, h⟩
              · refine J.zeq (pc := 165) (tgt := 191) dX11_line_165 (by decide) (fun _ => ?_) (fun q => absurd hc q)
                refine J.aload_n (pc := 191) dX11_line_191 rfl 1 rfl ?_
                refine J.aload_n (pc := 192) dX11_line_192 rfl 1 rfl ?_
                refine J.bipush (pc := 193) dX11_line_193 ib_59 ?_
                refine J.callV (Y := mX11_line) (Z := mX11_isSign) (pc := 195) (st := [.ref v0]) (k2 := 0) (n2 := 0) dX11_line_195 ml_RX11_196 mo_X11_isSign mv_X11_isSign rfl (tX11_isSign (d + 5) v0 (59 : Int32) μ199 hN201 k0) k0 (okN hN201 k0 (by decide)).1 (okN hN201 k0 (by decide)).2 cq_11 (by decide) rfl rfl (Nat.le_of_ble_eq_true rfl) (by decide) (by decide) (fun v ν hp => ?_) (fun i ν hp => nrm hp.1)
                obtain ⟨rfl, rfl, hN204, hb205⟩ := QEl hp
                show J _ _ _ _ 198 _ ([.int (fX11_isSign v0 (59 : Int32) μ199), .ref v0]) _ _ _ _
                obtain ⟨μ207, e206, h⟩ := bnd h
                refine J.callV (Y := mX11_line) (Z := mX11_need) (pc := 198) (st := []) (k2 := 0) (n2 := 0) dX11_line_198 ml_RX11_263 mo_X11_need mv_X11_need rfl (tX11_need (d + 3) e206 hN204 k0) k0 (okN hN204 k0 (by decide)).1 (okN hN204 k0 (by decide)).2 cq_11 (by decide) rfl rfl (Nat.le_of_ble_eq_true rfl) (by decide) (by decide) (fun v ν hp => ?_) (fun i ν hp => nrm hp.1)
                obtain ⟨rfl, rfl, hN208, hb209⟩ := QEl hp
                show J _ _ _ _ 201 _ ([]) _ _ _ _
                cases h
                exact J.vret (pc := 201) dX11_line_201 rfl ⟨rfl, rfl, hN208, trivial⟩
              · refine J.zeq (pc := 165) (tgt := 191) dX11_line_165 (by decide) (fun q => absurd q hc) (fun _ => ?_)
                refine J.aload_n (pc := 168) dX11_line_168 rfl 1 rfl ?_
                refine J.aload_n (pc := 169) dX11_line_169 rfl 1 rfl ?_
                refine J.fI (pc := 170) dX11_line_170 fl_RX11_168 k0 (okN hN201 k0 (by decide)) (Or.inl rfl) ?_
                obtain ⟨μ210, e211, h⟩ := bnd h
                have hN212 : μ210.1 = NN := smN e211 hN201
                refine J.qI (pc := 173) dX11_line_173 fl_RX11_260 k0 (okN hN201 k0 (by decide)) rfl rfl e211 ?_
                refine J.aload_n (pc := 176) dX11_line_176 rfl 1 rfl ?_
                refine J.iconst (pc := 177) dX11_line_177 ic_4 ?_
                refine J.bipush (pc := 178) dX11_line_178 ib_8 ?_
                obtain ⟨μ214, e213, h⟩ := bnd h
                refine J.callV (Y := mX11_line) (Z := mX11_expression) (pc := 180) (st := []) (k2 := 0) (n2 := 0) dX11_line_180 ml_RX11_256 mo_X11_expression mv_X11_expression rfl (tX11_expression d e213 hN212 k0) k0 (okN hN212 k0 (by decide)).1 (okN hN212 k0 (by decide)).2 cq_11 (by decide) rfl rfl (Nat.le_of_ble_eq_true rfl) (by decide) (by decide) (fun v ν hp => ?_) (fun i ν hp => nrm hp.1)
                obtain ⟨rfl, rfl, hN215, hb216⟩ := QEl hp
                show J _ _ _ _ 183 _ ([]) _ _ _ _
                refine J.goto (pc := 183) (tgt := 191) dX11_line_183 (by decide) ?_
                refine J.aload_n (pc := 191) dX11_line_191 rfl 1 rfl ?_
                refine J.aload_n (pc := 192) dX11_line_192 rfl 1 rfl ?_
                refine J.bipush (pc := 193) dX11_line_193 ib_59 ?_
                refine J.callV (Y := mX11_line) (Z := mX11_isSign) (pc := 195) (st := [.ref v0]) (k2 := 0) (n2 := 0) dX11_line_195 ml_RX11_196 mo_X11_isSign mv_X11_isSign rfl (tX11_isSign (d + 5) v0 (59 : Int32) μ214 hN215 k0) k0 (okN hN215 k0 (by decide)).1 (okN hN215 k0 (by decide)).2 cq_11 (by decide) rfl rfl (Nat.le_of_ble_eq_true rfl) (by decide) (by decide) (fun v ν hp => ?_) (fun i ν hp => nrm hp.1)
                obtain ⟨rfl, rfl, hN218, hb219⟩ := QEl hp
                show J _ _ _ _ 198 _ ([.int (fX11_isSign v0 (59 : Int32) μ214), .ref v0]) _ _ _ _
                obtain ⟨μ221, e220, h⟩ := bnd h
                refine J.callV (Y := mX11_line) (Z := mX11_need) (pc := 198) (st := []) (k2 := 0) (n2 := 0) dX11_line_198 ml_RX11_263 mo_X11_need mv_X11_need rfl (tX11_need (d + 3) e220 hN218 k0) k0 (okN hN218 k0 (by decide)).1 (okN hN218 k0 (by decide)).2 cq_11 (by decide) rfl rfl (Nat.le_of_ble_eq_true rfl) (by decide) (by decide) (fun v ν hp => ?_) (fun i ν hp => nrm hp.1)
                obtain ⟨rfl, rfl, hN222, hb223⟩ := QEl hp
                show J _ _ _ _ 201 _ ([]) _ _ _ _
                cases h
                exact J.vret (pc := 201) dX11_line_201 rfl ⟨rfl, rfl, hN222, trivial⟩
          · refine J.cne (pc := 144) (tgt := 186) dX11_line_144 (by decide) (fun q => absurd q hc) (fun _ => ?_)
            refine J.aload_n (pc := 186) dX11_line_186 rfl 1 rfl ?_
            refine J.iconst (pc := 187) dX11_line_187 ic_1 ?_
            obtain ⟨μ225, e224, h⟩ := bnd h
            refine J.callV (Y := mX11_line) (Z := mX11_wrong) (pc := 188) (st := []) (k2 := 0) (n2 := 0) dX11_line_188 ml_RX11_165 mo_X11_wrong mv_X11_wrong rfl (tX11_wrong (d + 5) e224 hN3 k0) k0 (okN hN3 k0 (by decide)).1 (okN hN3 k0 (by decide)).2 cq_11 (by decide) rfl rfl (Nat.le_of_ble_eq_true rfl) (by decide) (by decide) (fun v ν hp => ?_) (fun i ν hp => nrm hp.1)
            obtain ⟨rfl, rfl, hN226, hb227⟩ := QEl hp
            show J _ _ _ _ 191 _ ([]) _ _ _ _
            refine J.aload_n (pc := 191) dX11_line_191 rfl 1 rfl ?_
            refine J.aload_n (pc := 192) dX11_line_192 rfl 1 rfl ?_
            refine J.bipush (pc := 193) dX11_line_193 ib_59 ?_
            refine J.callV (Y := mX11_line) (Z := mX11_isSign) (pc := 195) (st := [.ref v0]) (k2 := 0) (n2 := 0) dX11_line_195 ml_RX11_196 mo_X11_isSign mv_X11_isSign rfl (tX11_isSign (d + 5) v0 (59 : Int32) μ225 hN226 k0) k0 (okN hN226 k0 (by decide)).1 (okN hN226 k0 (by decide)).2 cq_11 (by decide) rfl rfl (Nat.le_of_ble_eq_true rfl) (by decide) (by decide) (fun v ν hp => ?_) (fun i ν hp => nrm hp.1)
            obtain ⟨rfl, rfl, hN229, hb230⟩ := QEl hp
            show J _ _ _ _ 198 _ ([.int (fX11_isSign v0 (59 : Int32) μ225), .ref v0]) _ _ _ _
            obtain ⟨μ232, e231, h⟩ := bnd h
            refine J.callV (Y := mX11_line) (Z := mX11_need) (pc := 198) (st := []) (k2 := 0) (n2 := 0) dX11_line_198 ml_RX11_263 mo_X11_need mv_X11_need rfl (tX11_need (d + 3) e231 hN229 k0) k0 (okN hN229 k0 (by decide)).1 (okN hN229 k0 (by decide)).2 cq_11 (by decide) rfl rfl (Nat.le_of_ble_eq_true rfl) (by decide) (by decide) (fun v ν hp => ?_) (fun i ν hp => nrm hp.1)
            obtain ⟨rfl, rfl, hN233, hb234⟩ := QEl hp
            show J _ _ _ _ 201 _ ([]) _ _ _ _
            cases h
            exact J.vret (pc := 201) dX11_line_201 rfl ⟨rfl, rfl, hN233, trivial⟩
def fX11_cellar_208  : Nat → Nat → Int32 → Mem → Option (Int32 × Mem)
  | 0, _, _, _ => none
  | n + 1, v0, v2, μ =>
    if v2 < (79 : Int32) then
      (gR μ v0 34 0).bind fun a1 =>
      (gR μ v0 30 0).bind fun a4 =>
      (ldI μ a4 v2).bind fun x7 =>
      (stI μ a1 v2 x7).bind fun μ9 =>
      (fX11_cellar_208 n) v0 (v2 + (1 : Int32)) μ9
    else
      (some (sI μ v0 36 (0 : Int32))).bind fun μ12 =>
      (some (sI μ12 v0 49 (0 : Int32))).bind fun μ15 =>
      (some (sI μ15 v0 54 (0 : Int32))).bind fun μ18 =>
      some ((0 : Int32), μ18)
set_option maxHeartbeats 4000000 in
theorem tX11_cellar_208 {ω : Wd} {l : Launch} (d : Nat) {res : Int32 × Mem} : ∀ n : Nat, ∀ (v0 : Nat) (v2 : Int32) (μ : Mem), fX11_cellar_208 n v0 v2 μ = some res → μ.1 = NN → (kd v0).1 = 21 → J ω l mX11_cellar (d + 7) 208 [(0, .ref v0), (2, .int v2)] [] μ 0 0 (PE (.inl (some (.int res.1))) res.2 True) := by
  intro n
  induction n with
  | zero =>
    intro v0 v2 μ h hN k0
    have h9 : (none : Option (Int32 × Mem)) = some res := h
    cases h9
  | succ n ih =>
    intro v0 v2 μ h hN k0
    unfold fX11_cellar_208 at h
    refine J.iload_n (pc := 208) dX11_cellar_208 rfl 1 rfl ?_
    refine J.bipush (pc := 209) dX11_cellar_209 ib_79 ?_
    rcases ifc h with ⟨hc, h⟩ | ⟨hc, h⟩
    · refine J.cge (pc := 211) (tgt := 232) dX11_cellar_211 (by decide) (fun _ => ?_) (fun q => absurd hc q)
      refine J.aload_n (pc := 214) dX11_cellar_214 rfl 0 rfl ?_
      obtain ⟨a1, e2, h⟩ := bnd h
      have k3 : (kd a1).1 = 0 := gR_k e2
      refine J.fR (pc := 215) dX11_cellar_215 fl_RX11_48 k0 (okN hN k0 (by decide)) rfl e2 ?_
      refine J.iload_n (pc := 218) dX11_cellar_218 rfl 1 rfl ?_
      refine J.aload_n (pc := 219) dX11_cellar_219 rfl 0 rfl ?_
      obtain ⟨a4, e5, h⟩ := bnd h
      have k6 : (kd a4).1 = 0 := gR_k e5
      refine J.fR (pc := 220) dX11_cellar_220 fl_RX11_35 k0 (okN hN k0 (by decide)) rfl e5 ?_
      refine J.iload_n (pc := 223) dX11_cellar_223 rfl 1 rfl ?_
      obtain ⟨x7, e8, h⟩ := bnd h
      refine J.aI (pc := 224) dX11_cellar_224 k6 (okN hN k6 (by decide)) e8 ?_
      obtain ⟨μ9, e10, h⟩ := bnd h
      have hN11 : μ9.1 = NN := stI_N e10 hN
      refine J.wI (pc := 225) dX11_cellar_225 k3 (okN hN k3 (by decide)) e10 ?_
      refine J.iinc (pc := 226) (j := 1) ([(2, .int (v2 + (1 : Int32))), (0, .ref v0)]) dX11_cellar_226 rfl (iincv ic_1) (Nat.le_of_ble_eq_true rfl) rfl ?_
      refine J.goto (pc := 229) (tgt := 208) dX11_cellar_229 (by decide) ?_
      refine J.pick [1, 0] rfl ?_
      exact ih v0 (v2 + (1 : Int32)) μ9 h hN11 k0
    · refine J.cge (pc := 211) (tgt := 232) dX11_cellar_211 (by decide) (fun q => absurd q hc) (fun _ => ?_)
      refine J.aload_n (pc := 232) dX11_cellar_232 rfl 0 rfl ?_
      refine J.iconst (pc := 233) dX11_cellar_233 ic_0 ?_
      obtain ⟨μ12, e13, h⟩ := bnd h
      have hN14 : μ12.1 = NN := smN e13 hN
      refine J.qI (pc := 234) dX11_cellar_234 fl_RX11_283 k0 (okN hN k0 (by decide)) rfl rfl e13 ?_
      refine J.aload_n (pc := 237) dX11_cellar_237 rfl 0 rfl ?_
      refine J.iconst (pc := 238) dX11_cellar_238 ic_0 ?_
      obtain ⟨μ15, e16, h⟩ := bnd h
      have hN17 : μ15.1 = NN := smN e16 hN14
      refine J.qI (pc := 239) dX11_cellar_239 fl_RX11_286 k0 (okN hN14 k0 (by decide)) rfl rfl e16 ?_
      refine J.aload_n (pc := 242) dX11_cellar_242 rfl 0 rfl ?_
      refine J.iconst (pc := 243) dX11_cellar_243 ic_0 ?_
      obtain ⟨μ18, e19, h⟩ := bnd h
      have hN20 : μ18.1 = NN := smN e19 hN17
      refine J.qZ (pc := 244) dX11_cellar_244 fl_RX11_289 k0 (okN hN17 k0 (by decide)) rfl rfl (Or.inl rfl) e19 ?_
      refine J.iconst (pc := 247) dX11_cellar_247 ic_0 ?_
      cases h
      exact J.iret (pc := 248) dX11_cellar_248 rfl ⟨rfl, rfl, hN20, trivial⟩
def fX11_cellar_107  : Nat → Nat → Mem → Option (Int32 × Mem)
  | 0, _, _ => none
  | n + 1, v0, μ =>
    if (fX11_isGood v0 μ) = 0 then
      if (fX11_isGood v0 μ) = 0 then
        (gR μ v0 11 0).bind fun a7 =>
        (ldI μ a7 (0 : Int32)).bind fun x10 =>
        (stI μ a7 (0 : Int32) (x10 + (1 : Int32))).bind fun μ12 =>
        some ((μ12.2.1 v0 9), μ12)
      else
        (some (sI μ v0 1 (μ.2.1 v0 20))).bind fun μ15 =>
        (some (sI μ15 v0 2 (μ15.2.1 v0 21))).bind fun μ18 =>
        (some (sI μ18 v0 3 (μ18.2.1 v0 22))).bind fun μ21 =>
        (some (sI μ21 v0 4 (μ21.2.1 v0 23))).bind fun μ24 =>
        (gR μ24 v0 29 0).bind fun a27 =>
        (gR μ24 v0 5 0).bind fun a30 =>
        (fX11_copies v0 a27 a30 μ24).bind fun μ34 =>
        (gR μ34 v0 31 0).bind fun a37 =>
        (gR μ34 v0 6 0).bind fun a40 =>
        (fX11_copies v0 a37 a40 μ34).bind fun μ44 =>
        (fX11_cellar_208 fuel) v0 (0 : Int32) μ44
    else
      if (μ.2.1 v0 14) = 0 then
        if (fX11_isGood v0 μ) = 0 then
          (gR μ v0 11 0).bind fun a50 =>
          (ldI μ a50 (0 : Int32)).bind fun x53 =>
          (stI μ a50 (0 : Int32) (x53 + (1 : Int32))).bind fun μ55 =>
          some ((μ55.2.1 v0 9), μ55)
        else
          (some (sI μ v0 1 (μ.2.1 v0 20))).bind fun μ58 =>
          (some (sI μ58 v0 2 (μ58.2.1 v0 21))).bind fun μ61 =>
          (some (sI μ61 v0 3 (μ61.2.1 v0 22))).bind fun μ64 =>
          (some (sI μ64 v0 4 (μ64.2.1 v0 23))).bind fun μ67 =>
          (gR μ67 v0 29 0).bind fun a70 =>
          (gR μ67 v0 5 0).bind fun a73 =>
          (fX11_copies v0 a70 a73 μ67).bind fun μ77 =>
          (gR μ77 v0 31 0).bind fun a80 =>
          (gR μ77 v0 6 0).bind fun a83 =>
          (fX11_copies v0 a80 a83 μ77).bind fun μ87 =>
          (fX11_cellar_208 fuel) v0 (0 : Int32) μ87
      else
        (fX11_line v0 μ).bind fun μ91 =>
        (fX11_cellar_107 n) v0 μ91
set_option maxHeartbeats 4000000 in
theorem tX11_cellar_107 {ω : Wd} {l : Launch} (d : Nat) {res : Int32 × Mem} : ∀ n : Nat, ∀ (v0 : Nat) (μ : Mem), fX11_cellar_107 n v0 μ = some res → μ.1 = NN → (kd v0).1 = 21 → J ω l mX11_cellar (d + 7) 107 [(0, .ref v0)] [] μ 0 0 (PE (.inl (some (.int res.1))) res.2 True) := by
  intro n
  induction n with
  | zero =>
    intro v0 μ h hN k0
    have h9 : (none : Option (Int32 × Mem)) = some res := h
    cases h9
  | succ n ih =>
    intro v0 μ h hN k0
    unfold fX11_cellar_107 at h
    refine J.aload_n (pc := 107) dX11_cellar_107 rfl 0 rfl ?_
    refine J.callV (Y := mX11_cellar) (Z := mX11_isGood) (pc := 108) (st := []) (k2 := 0) (n2 := 0) dX11_cellar_108 ml_RX11_158 mo_X11_isGood mv_X11_isGood rfl (tX11_isGood (d + 6) v0 μ hN k0) k0 (okN hN k0 (by decide)).1 (okN hN k0 (by decide)).2 cq_11 (by decide) rfl rfl (Nat.le_of_ble_eq_true rfl) (by decide) (by decide) (fun v ν hp => ?_) (fun i ν hp => nrm hp.1)
    obtain ⟨rfl, rfl, hN2, hb3⟩ := QEl hp
    show J _ _ _ _ 111 _ ([.int (fX11_isGood v0 μ)]) _ _ _ _
    rcases ifc h with ⟨hc, h⟩ | ⟨hc, h⟩
    · refine J.zeq (pc := 111) (tgt := 128) dX11_cellar_111 (by decide) (fun _ => ?_) (fun q => absurd hc q)
      refine J.aload_n (pc := 128) dX11_cellar_128 rfl 0 rfl ?_
      refine J.callV (Y := mX11_cellar) (Z := mX11_isGood) (pc := 129) (st := []) (k2 := 0) (n2 := 0) dX11_cellar_129 ml_RX11_158 mo_X11_isGood mv_X11_isGood rfl (tX11_isGood (d + 6) v0 μ hN2 k0) k0 (okN hN2 k0 (by decide)).1 (okN hN2 k0 (by decide)).2 cq_11 (by decide) rfl rfl (Nat.le_of_ble_eq_true rfl) (by decide) (by decide) (fun v ν hp => ?_) (fun i ν hp => nrm hp.1)
      obtain ⟨rfl, rfl, hN5, hb6⟩ := QEl hp
      show J _ _ _ _ 132 _ ([.int (fX11_isGood v0 μ)]) _ _ _ _
      rcases ifc h with ⟨hc, h⟩ | ⟨hc, h⟩
      · refine J.zne (pc := 132) (tgt := 150) dX11_cellar_132 (by decide) (fun _ => ?_) (fun q => absurd hc q)
        refine J.aload_n (pc := 135) dX11_cellar_135 rfl 0 rfl ?_
        obtain ⟨a7, e8, h⟩ := bnd h
        have k9 : (kd a7).1 = 0 := gR_k e8
        refine J.fR (pc := 136) dX11_cellar_136 fl_RX11_29 k0 (okN hN5 k0 (by decide)) rfl e8 ?_
        refine J.iconst (pc := 139) dX11_cellar_139 ic_0 ?_
        refine J.dup2 (pc := 140) dX11_cellar_140 rfl rfl ?_
        obtain ⟨x10, e11, h⟩ := bnd h
        refine J.aI (pc := 141) dX11_cellar_141 k9 (okN hN5 k9 (by decide)) e11 ?_
        refine J.iconst (pc := 142) dX11_cellar_142 ic_1 ?_
        refine J.iadd (pc := 143) dX11_cellar_143 ?_
        obtain ⟨μ12, e13, h⟩ := bnd h
        have hN14 : μ12.1 = NN := stI_N e13 hN5
        refine J.wI (pc := 144) dX11_cellar_144 k9 (okN hN5 k9 (by decide)) e13 ?_
        refine J.aload_n (pc := 145) dX11_cellar_145 rfl 0 rfl ?_
        refine J.fI (pc := 146) dX11_cellar_146 fl_RX11_155 k0 (okN hN14 k0 (by decide)) (Or.inl rfl) ?_
        cases h
        exact J.iret (pc := 149) dX11_cellar_149 rfl ⟨rfl, rfl, hN14, trivial⟩
      · refine J.zne (pc := 132) (tgt := 150) dX11_cellar_132 (by decide) (fun q => absurd q hc) (fun _ => ?_)
        refine J.aload_n (pc := 150) dX11_cellar_150 rfl 0 rfl ?_
        refine J.aload_n (pc := 151) dX11_cellar_151 rfl 0 rfl ?_
        refine J.fI (pc := 152) dX11_cellar_152 fl_RX11_221 k0 (okN hN5 k0 (by decide)) (Or.inl rfl) ?_
        obtain ⟨μ15, e16, h⟩ := bnd h
        have hN17 : μ15.1 = NN := smN e16 hN5
        refine J.qI (pc := 155) dX11_cellar_155 fl_RX11_273 k0 (okN hN5 k0 (by decide)) rfl rfl e16 ?_
        refine J.aload_n (pc := 158) dX11_cellar_158 rfl 0 rfl ?_
        refine J.aload_n (pc := 159) dX11_cellar_159 rfl 0 rfl ?_
        refine J.fI (pc := 160) dX11_cellar_160 fl_RX11_234 k0 (okN hN17 k0 (by decide)) (Or.inl rfl) ?_
        obtain ⟨μ18, e19, h⟩ := bnd h
        have hN20 : μ18.1 = NN := smN e19 hN17
        refine J.qI (pc := 163) dX11_cellar_163 fl_RX11_276 k0 (okN hN17 k0 (by decide)) rfl rfl e19 ?_
        refine J.aload_n (pc := 166) dX11_cellar_166 rfl 0 rfl ?_
        refine J.aload_n (pc := 167) dX11_cellar_167 rfl 0 rfl ?_
        refine J.fI (pc := 168) dX11_cellar_168 fl_RX11_253 k0 (okN hN20 k0 (by decide)) (Or.inl rfl) ?_
        obtain ⟨μ21, e22, h⟩ := bnd h
        have hN23 : μ21.1 = NN := smN e22 hN20
        refine J.qI (pc := 171) dX11_cellar_171 fl_RX11_9 k0 (okN hN20 k0 (by decide)) rfl rfl e22 ?_
        refine J.aload_n (pc := 174) dX11_cellar_174 rfl 0 rfl ?_
        refine J.aload_n (pc := 175) dX11_cellar_175 rfl 0 rfl ?_
        refine J.fI (pc := 176) dX11_cellar_176 fl_RX11_260 k0 (okN hN23 k0 (by decide)) (Or.inl rfl) ?_
        obtain ⟨μ24, e25, h⟩ := bnd h
        have hN26 : μ24.1 = NN := smN e25 hN23
        refine J.qI (pc := 179) dX11_cellar_179 fl_RX11_13 k0 (okN hN23 k0 (by decide)) rfl rfl e25 ?_
        refine J.aload_n (pc := 182) dX11_cellar_182 rfl 0 rfl ?_
        refine J.aload_n (pc := 183) dX11_cellar_183 rfl 0 rfl ?_
        obtain ⟨a27, e28, h⟩ := bnd h
        have k29 : (kd a27).1 = 0 := gR_k e28
        refine J.fR (pc := 184) dX11_cellar_184 fl_RX11_32 k0 (okN hN26 k0 (by decide)) rfl e28 ?_
        refine J.aload_n (pc := 187) dX11_cellar_187 rfl 0 rfl ?_
        obtain ⟨a30, e31, h⟩ := bnd h
        have k32 : (kd a30).1 = 0 := gR_k e31
        refine J.fR (pc := 188) dX11_cellar_188 fl_RX11_16 k0 (okN hN26 k0 (by decide)) rfl e31 ?_
        obtain ⟨μ34, e33, h⟩ := bnd h
        refine J.callV (Y := mX11_cellar) (Z := mX11_copies) (pc := 191) (st := []) (k2 := 0) (n2 := 0) dX11_cellar_191 ml_RX11_279 mo_X11_copies mv_X11_copies rfl (tX11_copies (d + 6) e33 hN26 k0 k29 k32) k0 (okN hN26 k0 (by decide)).1 (okN hN26 k0 (by decide)).2 cq_11 (by decide) rfl rfl (Nat.le_of_ble_eq_true rfl) (by decide) (by decide) (fun v ν hp => ?_) (fun i ν hp => nrm hp.1)
        obtain ⟨rfl, rfl, hN35, hb36⟩ := QEl hp
        show J _ _ _ _ 194 _ ([]) _ _ _ _
        refine J.aload_n (pc := 194) dX11_cellar_194 rfl 0 rfl ?_
        refine J.aload_n (pc := 195) dX11_cellar_195 rfl 0 rfl ?_
        obtain ⟨a37, e38, h⟩ := bnd h
        have k39 : (kd a37).1 = 0 := gR_k e38
        refine J.fR (pc := 196) dX11_cellar_196 fl_RX11_38 k0 (okN hN35 k0 (by decide)) rfl e38 ?_
        refine J.aload_n (pc := 199) dX11_cellar_199 rfl 0 rfl ?_
        obtain ⟨a40, e41, h⟩ := bnd h
        have k42 : (kd a40).1 = 0 := gR_k e41
        refine J.fR (pc := 200) dX11_cellar_200 fl_RX11_20 k0 (okN hN35 k0 (by decide)) rfl e41 ?_
        obtain ⟨μ44, e43, h⟩ := bnd h
        refine J.callV (Y := mX11_cellar) (Z := mX11_copies) (pc := 203) (st := []) (k2 := 0) (n2 := 0) dX11_cellar_203 ml_RX11_279 mo_X11_copies mv_X11_copies rfl (tX11_copies (d + 6) e43 hN35 k0 k39 k42) k0 (okN hN35 k0 (by decide)).1 (okN hN35 k0 (by decide)).2 cq_11 (by decide) rfl rfl (Nat.le_of_ble_eq_true rfl) (by decide) (by decide) (fun v ν hp => ?_) (fun i ν hp => nrm hp.1)
        obtain ⟨rfl, rfl, hN45, hb46⟩ := QEl hp
        show J _ _ _ _ 206 _ ([]) _ _ _ _
        refine J.iconst (pc := 206) dX11_cellar_206 ic_0 ?_
        refine J.istore_n (pc := 207) ([(2, .int (0 : Int32)), (0, .ref v0)]) dX11_cellar_207 rfl (Nat.le_of_ble_eq_true rfl) rfl ?_
        refine J.pick [1, 0] rfl ?_
        exact (tX11_cellar_208 d fuel) v0 (0 : Int32) μ44 h hN45 k0
    · refine J.zeq (pc := 111) (tgt := 128) dX11_cellar_111 (by decide) (fun q => absurd q hc) (fun _ => ?_)
      refine J.aload_n (pc := 114) dX11_cellar_114 rfl 0 rfl ?_
      refine J.fI (pc := 115) dX11_cellar_115 fl_RX11_132 k0 (okN hN2 k0 (by decide)) (Or.inl rfl) ?_
      rcases ifc h with ⟨hc, h⟩ | ⟨hc, h⟩
      · refine J.zeq (pc := 118) (tgt := 128) dX11_cellar_118 (by decide) (fun _ => ?_) (fun q => absurd hc q)
        refine J.aload_n (pc := 128) dX11_cellar_128 rfl 0 rfl ?_
        refine J.callV (Y := mX11_cellar) (Z := mX11_isGood) (pc := 129) (st := []) (k2 := 0) (n2 := 0) dX11_cellar_129 ml_RX11_158 mo_X11_isGood mv_X11_isGood rfl (tX11_isGood (d + 6) v0 μ hN2 k0) k0 (okN hN2 k0 (by decide)).1 (okN hN2 k0 (by decide)).2 cq_11 (by decide) rfl rfl (Nat.le_of_ble_eq_true rfl) (by decide) (by decide) (fun v ν hp => ?_) (fun i ν hp => nrm hp.1)
        obtain ⟨rfl, rfl, hN48, hb49⟩ := QEl hp
        show J _ _ _ _ 132 _ ([.int (fX11_isGood v0 μ)]) _ _ _ _
        rcases ifc h with ⟨hc, h⟩ | ⟨hc, h⟩
        · refine J.zne (pc := 132) (tgt := 150) dX11_cellar_132 (by decide) (fun _ => ?_) (fun q => absurd hc q)
          refine J.aload_n (pc := 135) dX11_cellar_135 rfl 0 rfl ?_
          obtain ⟨a50, e51, h⟩ := bnd h
          have k52 : (kd a50).1 = 0 := gR_k e51
          refine J.fR (pc := 136) dX11_cellar_136 fl_RX11_29 k0 (okN hN48 k0 (by decide)) rfl e51 ?_
          refine J.iconst (pc := 139) dX11_cellar_139 ic_0 ?_
          refine J.dup2 (pc := 140) dX11_cellar_140 rfl rfl ?_
          obtain ⟨x53, e54, h⟩ := bnd h
          refine J.aI (pc := 141) dX11_cellar_141 k52 (okN hN48 k52 (by decide)) e54 ?_
          refine J.iconst (pc := 142) dX11_cellar_142 ic_1 ?_
          refine J.iadd (pc := 143) dX11_cellar_143 ?_
          obtain ⟨μ55, e56, h⟩ := bnd h
          have hN57 : μ55.1 = NN := stI_N e56 hN48
          refine J.wI (pc := 144) dX11_cellar_144 k52 (okN hN48 k52 (by decide)) e56 ?_
          refine J.aload_n (pc := 145) dX11_cellar_145 rfl 0 rfl ?_
          refine J.fI (pc := 146) dX11_cellar_146 fl_RX11_155 k0 (okN hN57 k0 (by decide)) (Or.inl rfl) ?_
          cases h
          exact J.iret (pc := 149) dX11_cellar_149 rfl ⟨rfl, rfl, hN57, trivial⟩
        · refine J.zne (pc := 132) (tgt := 150) dX11_cellar_132 (by decide) (fun q => absurd q hc) (fun _ => ?_)
          refine J.aload_n (pc := 150) dX11_cellar_150 rfl 0 rfl ?_
          refine J.aload_n (pc := 151) dX11_cellar_151 rfl 0 rfl ?_
          refine J.fI (pc := 152) dX11_cellar_152 fl_RX11_221 k0 (okN hN48 k0 (by decide)) (Or.inl rfl) ?_
          obtain ⟨μ58, e59, h⟩ := bnd h
          have hN60 : μ58.1 = NN := smN e59 hN48
          refine J.qI (pc := 155) dX11_cellar_155 fl_RX11_273 k0 (okN hN48 k0 (by decide)) rfl rfl e59 ?_
          refine J.aload_n (pc := 158) dX11_cellar_158 rfl 0 rfl ?_
          refine J.aload_n (pc := 159) dX11_cellar_159 rfl 0 rfl ?_
          refine J.fI (pc := 160) dX11_cellar_160 fl_RX11_234 k0 (okN hN60 k0 (by decide)) (Or.inl rfl) ?_
          obtain ⟨μ61, e62, h⟩ := bnd h
          have hN63 : μ61.1 = NN := smN e62 hN60
          refine J.qI (pc := 163) dX11_cellar_163 fl_RX11_276 k0 (okN hN60 k0 (by decide)) rfl rfl e62 ?_
          refine J.aload_n (pc := 166) dX11_cellar_166 rfl 0 rfl ?_
          refine J.aload_n (pc := 167) dX11_cellar_167 rfl 0 rfl ?_
          refine J.fI (pc := 168) dX11_cellar_168 fl_RX11_253 k0 (okN hN63 k0 (by decide)) (Or.inl rfl) ?_
          obtain ⟨μ64, e65, h⟩ := bnd h
          have hN66 : μ64.1 = NN := smN e65 hN63
          refine J.qI (pc := 171) dX11_cellar_171 fl_RX11_9 k0 (okN hN63 k0 (by decide)) rfl rfl e65 ?_
          refine J.aload_n (pc := 174) dX11_cellar_174 rfl 0 rfl ?_
          refine J.aload_n (pc := 175) dX11_cellar_175 rfl 0 rfl ?_
          refine J.fI (pc := 176) dX11_cellar_176 fl_RX11_260 k0 (okN hN66 k0 (by decide)) (Or.inl rfl) ?_
          obtain ⟨μ67, e68, h⟩ := bnd h
          have hN69 : μ67.1 = NN := smN e68 hN66
          refine J.qI (pc := 179) dX11_cellar_179 fl_RX11_13 k0 (okN hN66 k0 (by decide)) rfl rfl e68 ?_
          refine J.aload_n (pc := 182) dX11_cellar_182 rfl 0 rfl ?_
          refine J.aload_n (pc := 183) dX11_cellar_183 rfl 0 rfl ?_
          obtain ⟨a70, e71, h⟩ := bnd h
          have k72 : (kd a70).1 = 0 := gR_k e71
          refine J.fR (pc := 184) dX11_cellar_184 fl_RX11_32 k0 (okN hN69 k0 (by decide)) rfl e71 ?_
          refine J.aload_n (pc := 187) dX11_cellar_187 rfl 0 rfl ?_
          obtain ⟨a73, e74, h⟩ := bnd h
          have k75 : (kd a73).1 = 0 := gR_k e74
          refine J.fR (pc := 188) dX11_cellar_188 fl_RX11_16 k0 (okN hN69 k0 (by decide)) rfl e74 ?_
          obtain ⟨μ77, e76, h⟩ := bnd h
          refine J.callV (Y := mX11_cellar) (Z := mX11_copies) (pc := 191) (st := []) (k2 := 0) (n2 := 0) dX11_cellar_191 ml_RX11_279 mo_X11_copies mv_X11_copies rfl (tX11_copies (d + 6) e76 hN69 k0 k72 k75) k0 (okN hN69 k0 (by decide)).1 (okN hN69 k0 (by decide)).2 cq_11 (by decide) rfl rfl (Nat.le_of_ble_eq_true rfl) (by decide) (by decide) (fun v ν hp => ?_) (fun i ν hp => nrm hp.1)
          obtain ⟨rfl, rfl, hN78, hb79⟩ := QEl hp
          show J _ _ _ _ 194 _ ([]) _ _ _ _
          refine J.aload_n (pc := 194) dX11_cellar_194 rfl 0 rfl ?_
          refine J.aload_n (pc := 195) dX11_cellar_195 rfl 0 rfl ?_
          obtain ⟨a80, e81, h⟩ := bnd h
          have k82 : (kd a80).1 = 0 := gR_k e81
          refine J.fR (pc := 196) dX11_cellar_196 fl_RX11_38 k0 (okN hN78 k0 (by decide)) rfl e81 ?_
          refine J.aload_n (pc := 199) dX11_cellar_199 rfl 0 rfl ?_
          obtain ⟨a83, e84, h⟩ := bnd h
          have k85 : (kd a83).1 = 0 := gR_k e84
          refine J.fR (pc := 200) dX11_cellar_200 fl_RX11_20 k0 (okN hN78 k0 (by decide)) rfl e84 ?_
          obtain ⟨μ87, e86, h⟩ := bnd h
          refine J.callV (Y := mX11_cellar) (Z := mX11_copies) (pc := 203) (st := []) (k2 := 0) (n2 := 0) dX11_cellar_203 ml_RX11_279 mo_X11_copies mv_X11_copies rfl (tX11_copies (d + 6) e86 hN78 k0 k82 k85) k0 (okN hN78 k0 (by decide)).1 (okN hN78 k0 (by decide)).2 cq_11 (by decide) rfl rfl (Nat.le_of_ble_eq_true rfl) (by decide) (by decide) (fun v ν hp => ?_) (fun i ν hp => nrm hp.1)
          obtain ⟨rfl, rfl, hN88, hb89⟩ := QEl hp
          show J _ _ _ _ 206 _ ([]) _ _ _ _
          refine J.iconst (pc := 206) dX11_cellar_206 ic_0 ?_
          refine J.istore_n (pc := 207) ([(2, .int (0 : Int32)), (0, .ref v0)]) dX11_cellar_207 rfl (Nat.le_of_ble_eq_true rfl) rfl ?_
          refine J.pick [1, 0] rfl ?_
          exact (tX11_cellar_208 d fuel) v0 (0 : Int32) μ87 h hN88 k0
      · refine J.zeq (pc := 118) (tgt := 128) dX11_cellar_118 (by decide) (fun q => absurd q hc) (fun _ => ?_)
        refine J.aload_n (pc := 121) dX11_cellar_121 rfl 0 rfl ?_
        obtain ⟨μ91, e90, h⟩ := bnd h
        refine J.callV (Y := mX11_cellar) (Z := mX11_line) (pc := 122) (st := []) (k2 := 0) (n2 := 0) dX11_cellar_122 ml_RX11_270 mo_X11_line mv_X11_line rfl (tX11_line d e90 hN2 k0) k0 (okN hN2 k0 (by decide)).1 (okN hN2 k0 (by decide)).2 cq_11 (by decide) rfl rfl (Nat.le_of_ble_eq_true rfl) (by decide) (by decide) (fun v ν hp => ?_) (fun i ν hp => nrm hp.1)
        obtain ⟨rfl, rfl, hN92, hb93⟩ := QEl hp
        show J _ _ _ _ 125 _ ([]) _ _ _ _
        refine J.goto (pc := 125) (tgt := 107) dX11_cellar_125 (by decide) ?_
        exact ih v0 μ91 h hN92 k0
def fX11_cellar_79  : Nat → Nat → Int32 → Mem → Option (Int32 × Mem)
  | 0, _, _, _ => none
  | n + 1, v0, v2, μ =>
    if v2 < (79 : Int32) then
      (gR μ v0 30 0).bind fun a1 =>
      (stI μ a1 v2 (0 : Int32)).bind fun μ4 =>
      (fX11_cellar_79 n) v0 (v2 + (1 : Int32)) μ4
    else
      (some (sI μ v0 24 (0 : Int32))).bind fun μ7 =>
      (fX11_goes v0 μ7).bind fun μ11 =>
      (fX11_cellar_107 fuel) v0 μ11
set_option maxHeartbeats 4000000 in
theorem tX11_cellar_79 {ω : Wd} {l : Launch} (d : Nat) {res : Int32 × Mem} : ∀ n : Nat, ∀ (v0 : Nat) (v2 : Int32) (μ : Mem), fX11_cellar_79 n v0 v2 μ = some res → μ.1 = NN → (kd v0).1 = 21 → J ω l mX11_cellar (d + 7) 79 [(0, .ref v0), (2, .int v2)] [] μ 0 0 (PE (.inl (some (.int res.1))) res.2 True) := by
  intro n
  induction n with
  | zero =>
    intro v0 v2 μ h hN k0
    have h9 : (none : Option (Int32 × Mem)) = some res := h
    cases h9
  | succ n ih =>
    intro v0 v2 μ h hN k0
    unfold fX11_cellar_79 at h
    refine J.iload_n (pc := 79) dX11_cellar_79 rfl 1 rfl ?_
    refine J.bipush (pc := 80) dX11_cellar_80 ib_79 ?_
    rcases ifc h with ⟨hc, h⟩ | ⟨hc, h⟩
    · refine J.cge (pc := 82) (tgt := 98) dX11_cellar_82 (by decide) (fun _ => ?_) (fun q => absurd hc q)
      refine J.aload_n (pc := 85) dX11_cellar_85 rfl 0 rfl ?_
      obtain ⟨a1, e2, h⟩ := bnd h
      have k3 : (kd a1).1 = 0 := gR_k e2
      refine J.fR (pc := 86) dX11_cellar_86 fl_RX11_35 k0 (okN hN k0 (by decide)) rfl e2 ?_
      refine J.iload_n (pc := 89) dX11_cellar_89 rfl 1 rfl ?_
      refine J.iconst (pc := 90) dX11_cellar_90 ic_0 ?_
      obtain ⟨μ4, e5, h⟩ := bnd h
      have hN6 : μ4.1 = NN := stI_N e5 hN
      refine J.wI (pc := 91) dX11_cellar_91 k3 (okN hN k3 (by decide)) e5 ?_
      refine J.iinc (pc := 92) (j := 1) ([(2, .int (v2 + (1 : Int32))), (0, .ref v0)]) dX11_cellar_92 rfl (iincv ic_1) (Nat.le_of_ble_eq_true rfl) rfl ?_
      refine J.goto (pc := 95) (tgt := 79) dX11_cellar_95 (by decide) ?_
      refine J.pick [1, 0] rfl ?_
      exact ih v0 (v2 + (1 : Int32)) μ4 h hN6 k0
    · refine J.cge (pc := 82) (tgt := 98) dX11_cellar_82 (by decide) (fun q => absurd q hc) (fun _ => ?_)
      refine J.aload_n (pc := 98) dX11_cellar_98 rfl 0 rfl ?_
      refine J.iconst (pc := 99) dX11_cellar_99 ic_0 ?_
      obtain ⟨μ7, e8, h⟩ := bnd h
      have hN9 : μ7.1 = NN := smN e8 hN
      refine J.qI (pc := 100) dX11_cellar_100 fl_RX11_168 k0 (okN hN k0 (by decide)) rfl rfl e8 ?_
      refine J.aload_n (pc := 103) dX11_cellar_103 rfl 0 rfl ?_
      obtain ⟨μ11, e10, h⟩ := bnd h
      refine J.callV (Y := mX11_cellar) (Z := mX11_goes) (pc := 104) (st := []) (k2 := 0) (n2 := 0) dX11_cellar_104 ml_RX11_162 mo_X11_goes mv_X11_goes rfl (tX11_goes (d + 5) e10 hN9 k0) k0 (okN hN9 k0 (by decide)).1 (okN hN9 k0 (by decide)).2 cq_11 (by decide) rfl rfl (Nat.le_of_ble_eq_true rfl) (by decide) (by decide) (fun v ν hp => ?_) (fun i ν hp => nrm hp.1)
      obtain ⟨rfl, rfl, hN12, hb13⟩ := QEl hp
      show J _ _ _ _ 107 _ ([]) _ _ _ _
      refine J.pick [0] rfl ?_
      exact (tX11_cellar_107 d fuel) v0 μ11 h hN12 k0
def fX11_cellar (v0 : Nat) (v1 : Int32) (μ : Mem) : Option (Int32 × Mem) :=
  (some (sI μ v0 0 (0 : Int32))).bind fun μ1 =>
  if v1 < 0 then
    (fX11_right v0 (0 : Int32) (1 : Int32) μ1).bind fun (r6, μ5) =>
    if r6 = 0 then
      some ((0 : Int32), μ5)
    else
      (some (sI μ5 v0 8 (0 : Int32))).bind fun μ9 =>
      (some (sI μ9 v0 10 (-1 : Int32))).bind fun μ12 =>
      (some (sI μ12 v0 9 (0 : Int32))).bind fun μ15 =>
      (some (sI μ15 v0 12 v1)).bind fun μ18 =>
      (some (sI μ18 v0 13 (0 : Int32))).bind fun μ21 =>
      (some (sI μ21 v0 20 (0 : Int32))).bind fun μ24 =>
      (some (sI μ24 v0 21 (0 : Int32))).bind fun μ27 =>
      (some (sI μ27 v0 22 (-1 : Int32))).bind fun μ30 =>
      (some (sI μ30 v0 23 (-1 : Int32))).bind fun μ33 =>
      (fX11_cellar_79 fuel) v0 (0 : Int32) μ33
  else
    if (μ1.2.1 v0 8) < v1 then
      (fX11_right v0 (0 : Int32) (1 : Int32) μ1).bind fun (r38, μ37) =>
      if r38 = 0 then
        some ((0 : Int32), μ37)
      else
        (some (sI μ37 v0 8 (0 : Int32))).bind fun μ41 =>
        (some (sI μ41 v0 10 (-1 : Int32))).bind fun μ44 =>
        (some (sI μ44 v0 9 (0 : Int32))).bind fun μ47 =>
        (some (sI μ47 v0 12 v1)).bind fun μ50 =>
        (some (sI μ50 v0 13 (0 : Int32))).bind fun μ53 =>
        (some (sI μ53 v0 20 (0 : Int32))).bind fun μ56 =>
        (some (sI μ56 v0 21 (0 : Int32))).bind fun μ59 =>
        (some (sI μ59 v0 22 (-1 : Int32))).bind fun μ62 =>
        (some (sI μ62 v0 23 (-1 : Int32))).bind fun μ65 =>
        (fX11_cellar_79 fuel) v0 (0 : Int32) μ65
    else
      (fX11_right v0 (1 : Int32) (1 : Int32) μ1).bind fun (r70, μ69) =>
      if r70 = 0 then
        some ((0 : Int32), μ69)
      else
        (some (sI μ69 v0 8 (0 : Int32))).bind fun μ73 =>
        (some (sI μ73 v0 10 (-1 : Int32))).bind fun μ76 =>
        (some (sI μ76 v0 9 (0 : Int32))).bind fun μ79 =>
        (some (sI μ79 v0 12 v1)).bind fun μ82 =>
        (some (sI μ82 v0 13 (0 : Int32))).bind fun μ85 =>
        (some (sI μ85 v0 20 (0 : Int32))).bind fun μ88 =>
        (some (sI μ88 v0 21 (0 : Int32))).bind fun μ91 =>
        (some (sI μ91 v0 22 (-1 : Int32))).bind fun μ94 =>
        (some (sI μ94 v0 23 (-1 : Int32))).bind fun μ97 =>
        (fX11_cellar_79 fuel) v0 (0 : Int32) μ97
set_option maxHeartbeats 4000000 in
theorem tX11_cellar {ω : Wd} {l : Launch} (d : Nat) {v0 : Nat} {v1 : Int32} {μ : Mem} {res : Int32 × Mem} (h : fX11_cellar v0 v1 μ = some res) (hN : μ.1 = NN) (k0 : (kd v0).1 = 21) : Ct ω l mX11_cellar (d + 7) [.ref v0, .int v1] μ 0 0 (PE (.inl (some (.int res.1))) res.2 True) := by
  refine Ct.of pn_RX11 (Nat.le_of_ble_eq_true rfl) ?_
  show J ω l mX11_cellar (d + 7) 0 [(0, .ref v0), (1, .int v1)] [] μ 0 0 _
  unfold fX11_cellar at h
  refine J.aload_n (pc := 0) dX11_cellar_0 rfl 0 rfl ?_
  refine J.iconst (pc := 1) dX11_cellar_1 ic_0 ?_
  obtain ⟨μ1, e2, h⟩ := bnd h
  have hN3 : μ1.1 = NN := smN e2 hN
  refine J.qI (pc := 2) dX11_cellar_2 fl_RX11_99 k0 (okN hN k0 (by decide)) rfl rfl e2 ?_
  refine J.aload_n (pc := 5) dX11_cellar_5 rfl 0 rfl ?_
  refine J.iload_n (pc := 6) dX11_cellar_6 rfl 1 rfl ?_
  rcases ifc h with ⟨hc, h⟩ | ⟨hc, h⟩
  · refine J.zlt (pc := 7) (tgt := 22) dX11_cellar_7 (by decide) (fun _ => ?_) (fun q => absurd hc q)
    refine J.iconst (pc := 22) dX11_cellar_22 ic_0 ?_
    refine J.iconst (pc := 23) dX11_cellar_23 ic_1 ?_
    obtain ⟨⟨r6, μ5⟩, e4, h⟩ := bnd h
    try dsimp only at h
    refine J.callV (Y := mX11_cellar) (Z := mX11_right) (pc := 24) (st := []) (k2 := 0) (n2 := 0) dX11_cellar_24 ml_RX11_266 mo_X11_right mv_X11_right rfl (tX11_right (d + 6) e4 hN3 k0) k0 (okN hN3 k0 (by decide)).1 (okN hN3 k0 (by decide)).2 cq_11 (by decide) rfl rfl (Nat.le_of_ble_eq_true rfl) (by decide) (by decide) (fun v ν hp => ?_) (fun i ν hp => nrm hp.1)
    obtain ⟨rfl, rfl, hN7, hb8⟩ := QEl hp
    show J _ _ _ _ 27 _ ([.int r6]) _ _ _ _
    rcases ifc h with ⟨hc, h⟩ | ⟨hc, h⟩
    · refine J.zne (pc := 27) (tgt := 32) dX11_cellar_27 (by decide) (fun _ => ?_) (fun q => absurd hc q)
      refine J.iconst (pc := 30) dX11_cellar_30 ic_0 ?_
      cases h
      exact J.iret (pc := 31) dX11_cellar_31 rfl ⟨rfl, rfl, hN7, trivial⟩
    · refine J.zne (pc := 27) (tgt := 32) dX11_cellar_27 (by decide) (fun q => absurd q hc) (fun _ => ?_)
      refine J.aload_n (pc := 32) dX11_cellar_32 rfl 0 rfl ?_
      refine J.iconst (pc := 33) dX11_cellar_33 ic_0 ?_
      obtain ⟨μ9, e10, h⟩ := bnd h
      have hN11 : μ9.1 = NN := smN e10 hN7
      refine J.qI (pc := 34) dX11_cellar_34 fl_RX11_102 k0 (okN hN7 k0 (by decide)) rfl rfl e10 ?_
      refine J.aload_n (pc := 37) dX11_cellar_37 rfl 0 rfl ?_
      refine J.iconst (pc := 38) dX11_cellar_38 ic_m1 ?_
      obtain ⟨μ12, e13, h⟩ := bnd h
      have hN14 : μ12.1 = NN := smN e13 hN11
      refine J.qI (pc := 39) dX11_cellar_39 fl_RX11_26 k0 (okN hN11 k0 (by decide)) rfl rfl e13 ?_
      refine J.aload_n (pc := 42) dX11_cellar_42 rfl 0 rfl ?_
      refine J.iconst (pc := 43) dX11_cellar_43 ic_0 ?_
      obtain ⟨μ15, e16, h⟩ := bnd h
      have hN17 : μ15.1 = NN := smN e16 hN14
      refine J.qI (pc := 44) dX11_cellar_44 fl_RX11_155 k0 (okN hN14 k0 (by decide)) rfl rfl e16 ?_
      refine J.aload_n (pc := 47) dX11_cellar_47 rfl 0 rfl ?_
      refine J.iload_n (pc := 48) dX11_cellar_48 rfl 1 rfl ?_
      obtain ⟨μ18, e19, h⟩ := bnd h
      have hN20 : μ18.1 = NN := smN e19 hN17
      refine J.qI (pc := 49) dX11_cellar_49 fl_RX11_109 k0 (okN hN17 k0 (by decide)) rfl rfl e19 ?_
      refine J.aload_n (pc := 52) dX11_cellar_52 rfl 0 rfl ?_
      refine J.iconst (pc := 53) dX11_cellar_53 ic_0 ?_
      obtain ⟨μ21, e22, h⟩ := bnd h
      have hN23 : μ21.1 = NN := smN e22 hN20
      refine J.qI (pc := 54) dX11_cellar_54 fl_RX11_112 k0 (okN hN20 k0 (by decide)) rfl rfl e22 ?_
      refine J.aload_n (pc := 57) dX11_cellar_57 rfl 0 rfl ?_
      refine J.iconst (pc := 58) dX11_cellar_58 ic_0 ?_
      obtain ⟨μ24, e25, h⟩ := bnd h
      have hN26 : μ24.1 = NN := smN e25 hN23
      refine J.qI (pc := 59) dX11_cellar_59 fl_RX11_221 k0 (okN hN23 k0 (by decide)) rfl rfl e25 ?_
      refine J.aload_n (pc := 62) dX11_cellar_62 rfl 0 rfl ?_
      refine J.iconst (pc := 63) dX11_cellar_63 ic_0 ?_
      obtain ⟨μ27, e28, h⟩ := bnd h
      have hN29 : μ27.1 = NN := smN e28 hN26
      refine J.qI (pc := 64) dX11_cellar_64 fl_RX11_234 k0 (okN hN26 k0 (by decide)) rfl rfl e28 ?_
      refine J.aload_n (pc := 67) dX11_cellar_67 rfl 0 rfl ?_
      refine J.iconst (pc := 68) dX11_cellar_68 ic_m1 ?_
      obtain ⟨μ30, e31, h⟩ := bnd h
      have hN32 : μ30.1 = NN := smN e31 hN29
      refine J.qI (pc := 69) dX11_cellar_69 fl_RX11_253 k0 (okN hN29 k0 (by decide)) rfl rfl e31 ?_
      refine J.aload_n (pc := 72) dX11_cellar_72 rfl 0 rfl ?_
      refine J.iconst (pc := 73) dX11_cellar_73 ic_m1 ?_
      obtain ⟨μ33, e34, h⟩ := bnd h
      have hN35 : μ33.1 = NN := smN e34 hN32
      refine J.qI (pc := 74) dX11_cellar_74 fl_RX11_260 k0 (okN hN32 k0 (by decide)) rfl rfl e34 ?_
      refine J.iconst (pc := 77) dX11_cellar_77 ic_0 ?_
      refine J.istore_n (pc := 78) ([(2, .int (0 : Int32)), (0, .ref v0), (1, .int v1)]) dX11_cellar_78 rfl (Nat.le_of_ble_eq_true rfl) rfl ?_
      refine J.pick [1, 0] rfl ?_
      exact (tX11_cellar_79 d fuel) v0 (0 : Int32) μ33 h hN35 k0
  · refine J.zlt (pc := 7) (tgt := 22) dX11_cellar_7 (by decide) (fun q => absurd q hc) (fun _ => ?_)
    refine J.iload_n (pc := 10) dX11_cellar_10 rfl 1 rfl ?_
    refine J.aload_n (pc := 11) dX11_cellar_11 rfl 0 rfl ?_
    refine J.fI (pc := 12) dX11_cellar_12 fl_RX11_102 k0 (okN hN3 k0 (by decide)) (Or.inl rfl) ?_
    rcases ifc h with ⟨hc, h⟩ | ⟨hc, h⟩
    · refine J.cgt (pc := 15) (tgt := 22) dX11_cellar_15 (by decide) (fun _ => ?_) (fun q => absurd hc q)
      refine J.iconst (pc := 22) dX11_cellar_22 ic_0 ?_
      refine J.iconst (pc := 23) dX11_cellar_23 ic_1 ?_
      obtain ⟨⟨r38, μ37⟩, e36, h⟩ := bnd h
      try dsimp only at h
      refine J.callV (Y := mX11_cellar) (Z := mX11_right) (pc := 24) (st := []) (k2 := 0) (n2 := 0) dX11_cellar_24 ml_RX11_266 mo_X11_right mv_X11_right rfl (tX11_right (d + 6) e36 hN3 k0) k0 (okN hN3 k0 (by decide)).1 (okN hN3 k0 (by decide)).2 cq_11 (by decide) rfl rfl (Nat.le_of_ble_eq_true rfl) (by decide) (by decide) (fun v ν hp => ?_) (fun i ν hp => nrm hp.1)
      obtain ⟨rfl, rfl, hN39, hb40⟩ := QEl hp
      show J _ _ _ _ 27 _ ([.int r38]) _ _ _ _
      rcases ifc h with ⟨hc, h⟩ | ⟨hc, h⟩
      · refine J.zne (pc := 27) (tgt := 32) dX11_cellar_27 (by decide) (fun _ => ?_) (fun q => absurd hc q)
        refine J.iconst (pc := 30) dX11_cellar_30 ic_0 ?_
        cases h
        exact J.iret (pc := 31) dX11_cellar_31 rfl ⟨rfl, rfl, hN39, trivial⟩
      · refine J.zne (pc := 27) (tgt := 32) dX11_cellar_27 (by decide) (fun q => absurd q hc) (fun _ => ?_)
        refine J.aload_n (pc := 32) dX11_cellar_32 rfl 0 rfl ?_
        refine J.iconst (pc := 33) dX11_cellar_33 ic_0 ?_
        obtain ⟨μ41, e42, h⟩ := bnd h
        have hN43 : μ41.1 = NN := smN e42 hN39
        refine J.qI (pc := 34) dX11_cellar_34 fl_RX11_102 k0 (okN hN39 k0 (by decide)) rfl rfl e42 ?_
        refine J.aload_n (pc := 37) dX11_cellar_37 rfl 0 rfl ?_
        refine J.iconst (pc := 38) dX11_cellar_38 ic_m1 ?_
        obtain ⟨μ44, e45, h⟩ := bnd h
        have hN46 : μ44.1 = NN := smN e45 hN43
        refine J.qI (pc := 39) dX11_cellar_39 fl_RX11_26 k0 (okN hN43 k0 (by decide)) rfl rfl e45 ?_
        refine J.aload_n (pc := 42) dX11_cellar_42 rfl 0 rfl ?_
        refine J.iconst (pc := 43) dX11_cellar_43 ic_0 ?_
        obtain ⟨μ47, e48, h⟩ := bnd h
        have hN49 : μ47.1 = NN := smN e48 hN46
        refine J.qI (pc := 44) dX11_cellar_44 fl_RX11_155 k0 (okN hN46 k0 (by decide)) rfl rfl e48 ?_
        refine J.aload_n (pc := 47) dX11_cellar_47 rfl 0 rfl ?_
        refine J.iload_n (pc := 48) dX11_cellar_48 rfl 1 rfl ?_
        obtain ⟨μ50, e51, h⟩ := bnd h
        have hN52 : μ50.1 = NN := smN e51 hN49
        refine J.qI (pc := 49) dX11_cellar_49 fl_RX11_109 k0 (okN hN49 k0 (by decide)) rfl rfl e51 ?_
        refine J.aload_n (pc := 52) dX11_cellar_52 rfl 0 rfl ?_
        refine J.iconst (pc := 53) dX11_cellar_53 ic_0 ?_
        obtain ⟨μ53, e54, h⟩ := bnd h
        have hN55 : μ53.1 = NN := smN e54 hN52
        refine J.qI (pc := 54) dX11_cellar_54 fl_RX11_112 k0 (okN hN52 k0 (by decide)) rfl rfl e54 ?_
        refine J.aload_n (pc := 57) dX11_cellar_57 rfl 0 rfl ?_
        refine J.iconst (pc := 58) dX11_cellar_58 ic_0 ?_
        obtain ⟨μ56, e57, h⟩ := bnd h
        have hN58 : μ56.1 = NN := smN e57 hN55
        refine J.qI (pc := 59) dX11_cellar_59 fl_RX11_221 k0 (okN hN55 k0 (by decide)) rfl rfl e57 ?_
        refine J.aload_n (pc := 62) dX11_cellar_62 rfl 0 rfl ?_
        refine J.iconst (pc := 63) dX11_cellar_63 ic_0 ?_
        obtain ⟨μ59, e60, h⟩ := bnd h
        have hN61 : μ59.1 = NN := smN e60 hN58
        refine J.qI (pc := 64) dX11_cellar_64 fl_RX11_234 k0 (okN hN58 k0 (by decide)) rfl rfl e60 ?_
        refine J.aload_n (pc := 67) dX11_cellar_67 rfl 0 rfl ?_
        refine J.iconst (pc := 68) dX11_cellar_68 ic_m1 ?_
        obtain ⟨μ62, e63, h⟩ := bnd h
        have hN64 : μ62.1 = NN := smN e63 hN61
        refine J.qI (pc := 69) dX11_cellar_69 fl_RX11_253 k0 (okN hN61 k0 (by decide)) rfl rfl e63 ?_
        refine J.aload_n (pc := 72) dX11_cellar_72 rfl 0 rfl ?_
        refine J.iconst (pc := 73) dX11_cellar_73 ic_m1 ?_
        obtain ⟨μ65, e66, h⟩ := bnd h
        have hN67 : μ65.1 = NN := smN e66 hN64
        refine J.qI (pc := 74) dX11_cellar_74 fl_RX11_260 k0 (okN hN64 k0 (by decide)) rfl rfl e66 ?_
        refine J.iconst (pc := 77) dX11_cellar_77 ic_0 ?_
        refine J.istore_n (pc := 78) ([(2, .int (0 : Int32)), (0, .ref v0), (1, .int v1)]) dX11_cellar_78 rfl (Nat.le_of_ble_eq_true rfl) rfl ?_
        refine J.pick [1, 0] rfl ?_
        exact (tX11_cellar_79 d fuel) v0 (0 : Int32) μ65 h hN67 k0
    · refine J.cgt (pc := 15) (tgt := 22) dX11_cellar_15 (by decide) (fun q => absurd q hc) (fun _ => ?_)
      refine J.iconst (pc := 18) dX11_cellar_18 ic_1 ?_
      refine J.goto (pc := 19) (tgt := 23) dX11_cellar_19 (by decide) ?_
      refine J.iconst (pc := 23) dX11_cellar_23 ic_1 ?_
      obtain ⟨⟨r70, μ69⟩, e68, h⟩ := bnd h
      try dsimp only at h
      refine J.callV (Y := mX11_cellar) (Z := mX11_right) (pc := 24) (st := []) (k2 := 0) (n2 := 0) dX11_cellar_24 ml_RX11_266 mo_X11_right mv_X11_right rfl (tX11_right (d + 6) e68 hN3 k0) k0 (okN hN3 k0 (by decide)).1 (okN hN3 k0 (by decide)).2 cq_11 (by decide) rfl rfl (Nat.le_of_ble_eq_true rfl) (by decide) (by decide) (fun v ν hp => ?_) (fun i ν hp => nrm hp.1)
      obtain ⟨rfl, rfl, hN71, hb72⟩ := QEl hp
      show J _ _ _ _ 27 _ ([.int r70]) _ _ _ _
      rcases ifc h with ⟨hc, h⟩ | ⟨hc, h⟩
      · refine J.zne (pc := 27) (tgt := 32) dX11_cellar_27 (by decide) (fun _ => ?_) (fun q => absurd hc q)
        refine J.iconst (pc := 30) dX11_cellar_30 ic_0 ?_
        cases h
        exact J.iret (pc := 31) dX11_cellar_31 rfl ⟨rfl, rfl, hN71, trivial⟩
      · refine J.zne (pc := 27) (tgt := 32) dX11_cellar_27 (by decide) (fun q => absurd q hc) (fun _ => ?_)
        refine J.aload_n (pc := 32) dX11_cellar_32 rfl 0 rfl ?_
        refine J.iconst (pc := 33) dX11_cellar_33 ic_0 ?_
        obtain ⟨μ73, e74, h⟩ := bnd h
        have hN75 : μ73.1 = NN := smN e74 hN71
        refine J.qI (pc := 34) dX11_cellar_34 fl_RX11_102 k0 (okN hN71 k0 (by decide)) rfl rfl e74 ?_
        refine J.aload_n (pc := 37) dX11_cellar_37 rfl 0 rfl ?_
        refine J.iconst (pc := 38) dX11_cellar_38 ic_m1 ?_
        obtain ⟨μ76, e77, h⟩ := bnd h
        have hN78 : μ76.1 = NN := smN e77 hN75
        refine J.qI (pc := 39) dX11_cellar_39 fl_RX11_26 k0 (okN hN75 k0 (by decide)) rfl rfl e77 ?_
        refine J.aload_n (pc := 42) dX11_cellar_42 rfl 0 rfl ?_
        refine J.iconst (pc := 43) dX11_cellar_43 ic_0 ?_
        obtain ⟨μ79, e80, h⟩ := bnd h
        have hN81 : μ79.1 = NN := smN e80 hN78
        refine J.qI (pc := 44) dX11_cellar_44 fl_RX11_155 k0 (okN hN78 k0 (by decide)) rfl rfl e80 ?_
        refine J.aload_n (pc := 47) dX11_cellar_47 rfl 0 rfl ?_
        refine J.iload_n (pc := 48) dX11_cellar_48 rfl 1 rfl ?_
        obtain ⟨μ82, e83, h⟩ := bnd h
        have hN84 : μ82.1 = NN := smN e83 hN81
        refine J.qI (pc := 49) dX11_cellar_49 fl_RX11_109 k0 (okN hN81 k0 (by decide)) rfl rfl e83 ?_
        refine J.aload_n (pc := 52) dX11_cellar_52 rfl 0 rfl ?_
        refine J.iconst (pc := 53) dX11_cellar_53 ic_0 ?_
        obtain ⟨μ85, e86, h⟩ := bnd h
        have hN87 : μ85.1 = NN := smN e86 hN84
        refine J.qI (pc := 54) dX11_cellar_54 fl_RX11_112 k0 (okN hN84 k0 (by decide)) rfl rfl e86 ?_
        refine J.aload_n (pc := 57) dX11_cellar_57 rfl 0 rfl ?_
        refine J.iconst (pc := 58) dX11_cellar_58 ic_0 ?_
        obtain ⟨μ88, e89, h⟩ := bnd h
        have hN90 : μ88.1 = NN := smN e89 hN87
        refine J.qI (pc := 59) dX11_cellar_59 fl_RX11_221 k0 (okN hN87 k0 (by decide)) rfl rfl e89 ?_
        refine J.aload_n (pc := 62) dX11_cellar_62 rfl 0 rfl ?_
        refine J.iconst (pc := 63) dX11_cellar_63 ic_0 ?_
        obtain ⟨μ91, e92, h⟩ := bnd h
        have hN93 : μ91.1 = NN := smN e92 hN90
        refine J.qI (pc := 64) dX11_cellar_64 fl_RX11_234 k0 (okN hN90 k0 (by decide)) rfl rfl e92 ?_
        refine J.aload_n (pc := 67) dX11_cellar_67 rfl 0 rfl ?_
        refine J.iconst (pc := 68) dX11_cellar_68 ic_m1 ?_
        obtain ⟨μ94, e95, h⟩ := bnd h
        have hN96 : μ94.1 = NN := smN e95 hN93
        refine J.qI (pc := 69) dX11_cellar_69 fl_RX11_253 k0 (okN hN93 k0 (by decide)) rfl rfl e95 ?_
        refine J.aload_n (pc := 72) dX11_cellar_72 rfl 0 rfl ?_
        refine J.iconst (pc := 73) dX11_cellar_73 ic_m1 ?_
        obtain ⟨μ97, e98, h⟩ := bnd h
        have hN99 : μ97.1 = NN := smN e98 hN96
        refine J.qI (pc := 74) dX11_cellar_74 fl_RX11_260 k0 (okN hN96 k0 (by decide)) rfl rfl e98 ?_
        refine J.iconst (pc := 77) dX11_cellar_77 ic_0 ?_
        refine J.istore_n (pc := 78) ([(2, .int (0 : Int32)), (0, .ref v0), (1, .int v1)]) dX11_cellar_78 rfl (Nat.le_of_ble_eq_true rfl) rfl ?_
        refine J.pick [1, 0] rfl ?_
        exact (tX11_cellar_79 d fuel) v0 (0 : Int32) μ97 h hN99 k0
