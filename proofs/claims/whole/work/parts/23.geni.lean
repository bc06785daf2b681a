def fX11_placeOf (v0 : Nat) (v1 : Int32) (μ : Mem) : Option (Int32 × Mem) :=
  if v1 < 0 then
    (fX11_right v0 (0 : Int32) (1 : Int32) μ).bind fun (r3, μ2) =>
    if r3 = 0 then
      some ((-1 : Int32), μ2)
    else
      some ((((8 : Int32) * (v1 / (10 : Int32))) + (v1 - v1 / (10 : Int32) * (10 : Int32))), μ2)
  else
    if (v1 / (10 : Int32)) < (μ.2.1 v0 1) then
      if (v1 - v1 / (10 : Int32) * (10 : Int32)) < (8 : Int32) then
        (fX11_isThere v0 (((8 : Int32) * (v1 / (10 : Int32))) + (v1 - v1 / (10 : Int32) * (10 : Int32))) μ).bind fun r7 =>
        if r7 = 0 then
          (fX11_right v0 (0 : Int32) (1 : Int32) μ).bind fun (r12, μ11) =>
          if r12 = 0 then
            some ((-1 : Int32), μ11)
          else
            some ((((8 : Int32) * (v1 / (10 : Int32))) + (v1 - v1 / (10 : Int32) * (10 : Int32))), μ11)
        else
          (fX11_right v0 (1 : Int32) (1 : Int32) μ).bind fun (r17, μ16) =>
          if r17 = 0 then
            some ((-1 : Int32), μ16)
          else
            some ((((8 : Int32) * (v1 / (10 : Int32))) + (v1 - v1 / (10 : Int32) * (10 : Int32))), μ16)
      else
        (fX11_right v0 (0 : Int32) (1 : Int32) μ).bind fun (r22, μ21) =>
        if r22 = 0 then
          some ((-1 : Int32), μ21)
        else
          some ((((8 : Int32) * (v1 / (10 : Int32))) + (v1 - v1 / (10 : Int32) * (10 : Int32))), μ21)
    else
      (fX11_right v0 (0 : Int32) (1 : Int32) μ).bind fun (r27, μ26) =>
      if r27 = 0 then
        some ((-1 : Int32), μ26)
      else
        some ((((8 : Int32) * (v1 / (10 : Int32))) + (v1 - v1 / (10 : Int32) * (10 : Int32))), μ26)
set_option maxHeartbeats 4000000 in
theorem tX11_placeOf {ω : Wd} {l : Launch} (d : Nat) {v0 : Nat} {v1 : Int32} {μ : Mem} {res : Int32 × Mem} (h : fX11_placeOf v0 v1 μ = some res) (hN : μ.1 = NN) (k0 : (kd v0).1 = 21) : Ct ω l mX11_placeOf (d + 1) [.ref v0, .int v1] μ 0 0 (PE (.inl (some (.int res.1))) res.2 True) := by
  refine Ct.of pn_RX11 (Nat.le_of_ble_eq_true rfl) ?_
  show J ω l mX11_placeOf (d + 1) 0 [(0, .ref v0), (1, .int v1)] [] μ 0 0 _
  unfold fX11_placeOf at h
  refine J.iload_n (pc := 0) dX11_placeOf_0 rfl 1 rfl ?_
  rcases ifc h with ⟨hc, h⟩ | ⟨hc, h⟩
  · refine J.zlt (pc := 1) (tgt := 47) dX11_placeOf_1 (by decide) (fun _ => ?_) (fun q => absurd hc q)
    refine J.iconst (pc := 47) dX11_placeOf_47 ic_0 ?_
    refine J.istore_n (pc := 48) ([(2, .int (0 : Int32)), (0, .ref v0), (1, .int v1)]) dX11_placeOf_48 rfl (Nat.le_of_ble_eq_true rfl) rfl ?_
    refine J.aload_n (pc := 49) dX11_placeOf_49 rfl 1 rfl ?_
    refine J.iload_n (pc := 50) dX11_placeOf_50 rfl 0 rfl ?_
    refine J.iconst (pc := 51) dX11_placeOf_51 ic_1 ?_
    obtain ⟨⟨r3, μ2⟩, e1, h⟩ := bnd h
    try dsimp only at h
    refine J.callV (Y := mX11_placeOf) (Z := mX11_right) (pc := 52) (st := []) (k2 := 0) (n2 := 0) dX11_placeOf_52 ml_RX11_266 mo_X11_right mv_X11_right rfl (tX11_right d e1 hN k0) k0 (okN hN k0 (by decide)).1 (okN hN k0 (by decide)).2 cq_11 (by decide) rfl rfl (Nat.le_of_ble_eq_true rfl) (by decide) (by decide) (fun v ν hp => ?_) (fun i ν hp => nrm hp.1)
    obtain ⟨rfl, rfl, hN4, hb5⟩ := QEl hp
    show J _ _ _ _ 55 _ ([.int r3]) _ _ _ _
    rcases ifc h with ⟨hc, h⟩ | ⟨hc, h⟩
    · refine J.zeq (pc := 55) (tgt := 73) dX11_placeOf_55 (by decide) (fun _ => ?_) (fun q => absurd hc q)
      refine J.iconst (pc := 73) dX11_placeOf_73 ic_m1 ?_
      cases h
      exact J.iret (pc := 74) dX11_placeOf_74 rfl ⟨rfl, rfl, hN4, trivial⟩
    · refine J.zeq (pc := 55) (tgt := 73) dX11_placeOf_55 (by decide) (fun q => absurd q hc) (fun _ => ?_)
      refine J.bipush (pc := 58) dX11_placeOf_58 ib_8 ?_
      refine J.iload_n (pc := 60) dX11_placeOf_60 rfl 2 rfl ?_
      refine J.bipush (pc := 61) dX11_placeOf_61 ib_10 ?_
      refine J.idiv (pc := 63) dX11_placeOf_63 (by decide) ?_
      refine J.imul (pc := 64) dX11_placeOf_64 ?_
      refine J.iload_n (pc := 65) dX11_placeOf_65 rfl 2 rfl ?_
      refine J.bipush (pc := 66) dX11_placeOf_66 ib_10 ?_
      refine J.irem (pc := 68) dX11_placeOf_68 (by decide) ?_
      refine J.iadd (pc := 69) dX11_placeOf_69 ?_
      refine J.goto (pc := 70) (tgt := 74) dX11_placeOf_70 (by decide) ?_
      cases h
      exact J.iret (pc := 74) dX11_placeOf_74 rfl ⟨rfl, rfl, hN4, trivial⟩
  · refine J.zlt (pc := 1) (tgt := 47) dX11_placeOf_1 (by decide) (fun q => absurd q hc) (fun _ => ?_)
    refine J.iload_n (pc := 4) dX11_placeOf_4 rfl 1 rfl ?_
    refine J.bipush (pc := 5) dX11_placeOf_5 ib_10 ?_
    refine J.idiv (pc := 7) dX11_placeOf_7 (by decide) ?_
    refine J.aload_n (pc := 8) dX11_placeOf_8 rfl 0 rfl ?_
    refine J.fI (pc := 9) dX11_placeOf_9 fl_RX11_273 k0 (okN hN k0 (by decide)) (Or.inl rfl) ?_
    rcases ifc h with ⟨hc, h⟩ | ⟨hc, h⟩
    · refine J.cge (pc := 12) (tgt := 47) dX11_placeOf_12 (by decide) (fun _ => ?_) (fun q => absurd hc q)
      refine J.iload_n (pc := 15) dX11_placeOf_15 rfl 1 rfl ?_
      refine J.bipush (pc := 16) dX11_placeOf_16 ib_10 ?_
      refine J.irem (pc := 18) dX11_placeOf_18 (by decide) ?_
      refine J.bipush (pc := 19) dX11_placeOf_19 ib_8 ?_
      rcases ifc h with ⟨hc, h⟩ | ⟨hc, h⟩
      · refine J.cge (pc := 21) (tgt := 47) dX11_placeOf_21 (by decide) (fun _ => ?_) (fun q => absurd hc q)
        refine J.aload_n (pc := 24) dX11_placeOf_24 rfl 0 rfl ?_
        refine J.bipush (pc := 25) dX11_placeOf_25 ib_8 ?_
        refine J.iload_n (pc := 27) dX11_placeOf_27 rfl 1 rfl ?_
        refine J.bipush (pc := 28) dX11_placeOf_28 ib_10 ?_
        refine J.idiv (pc := 30) dX11_placeOf_30 (by decide) ?_
        refine J.imul (pc := 31) dX11_placeOf_31 ?_
        refine J.iload_n (pc := 32) dX11_placeOf_32 rfl 1 rfl ?_
        refine J.bipush (pc := 33) dX11_placeOf_33 ib_10 ?_
        refine J.irem (pc := 35) dX11_placeOf_35 (by decide) ?_
        refine J.iadd (pc := 36) dX11_placeOf_36 ?_
        obtain ⟨r7, e6, h⟩ := bnd h
        refine J.callV (Y := mX11_placeOf) (Z := mX11_isThere) (pc := 37) (st := []) (k2 := 0) (n2 := 0) dX11_placeOf_37 ml_RX11_332 mo_X11_isThere mv_X11_isThere rfl (tX11_isThere d e6 hN k0) k0 (okN hN k0 (by decide)).1 (okN hN k0 (by decide)).2 cq_11 (by decide) rfl rfl (Nat.le_of_ble_eq_true rfl) (by decide) (by decide) (fun v ν hp => ?_) (fun i ν hp => nrm hp.1)
        obtain ⟨rfl, rfl, hN8, hb9⟩ := QEl hp
        show J _ _ _ _ 40 _ ([.int r7]) _ _ _ _
        rcases ifc h with ⟨hc, h⟩ | ⟨hc, h⟩
        · refine J.zeq (pc := 40) (tgt := 47) dX11_placeOf_40 (by decide) (fun _ => ?_) (fun q => absurd hc q)
          refine J.iconst (pc := 47) dX11_placeOf_47 ic_0 ?_
          refine J.istore_n (pc := 48) ([(2, .int (0 : Int32)), (0, .ref v0), (1, .int v1)]) dX11_placeOf_48 rfl (Nat.le_of_ble_eq_true rfl) rfl ?_
          refine J.aload_n (pc := 49) dX11_placeOf_49 rfl 1 rfl ?_
          refine J.iload_n (pc := 50) dX11_placeOf_50 rfl 0 rfl ?_
          refine J.iconst (pc := 51) dX11_placeOf_51 ic_1 ?_
          obtain ⟨⟨r12, μ11⟩, e10, h⟩ := bnd h
          try dsimp only at h
          refine J.callV (Y := mX11_placeOf) (Z := mX11_right) (pc := 52) (st := []) (k2 := 0) (n2 := 0) dX11_placeOf_52 ml_RX11_266 mo_X11_right mv_X11_right rfl (tX11_right d e10 hN8 k0) k0 (okN hN8 k0 (by decide)).1 (okN hN8 k0 (by decide)).2 cq_11 (by decide) rfl rfl (Nat.le_of_ble_eq_true rfl) (by decide) (by decide) (fun v ν hp => ?_) (fun i ν hp => nrm hp.1)
          obtain ⟨rfl, rfl, hN13, hb14⟩ := QEl hp
          show J _ _ _ _ 55 _ ([.int r12]) _ _ _ _
          rcases ifc h with ⟨hc, h⟩ | ⟨hc, h⟩
          · refine J.zeq (pc := 55) (tgt := 73) dX11_placeOf_55 (by decide) (fun _ => ?_) (fun q => absurd hc q)
            refine J.iconst (pc := 73) dX11_placeOf_73 ic_m1 ?_
            cases h
            exact J.iret (pc := 74) dX11_placeOf_74 rfl ⟨rfl, rfl, hN13, trivial⟩
          · refine J.zeq (pc := 55) (tgt := 73) dX11_placeOf_55 (by decide) (fun q => absurd q hc) (fun _ => ?_)
            refine J.bipush (pc := 58) dX11_placeOf_58 ib_8 ?_
            refine J.iload_n (pc := 60) dX11_placeOf_60 rfl 2 rfl ?_
            refine J.bipush (pc := 61) dX11_placeOf_61 ib_10 ?_
            refine J.idiv (pc := 63) dX11_placeOf_63 (by decide) ?_
            refine J.imul (pc := 64) dX11_placeOf_64 ?_
            refine J.iload_n (pc := 65) dX11_placeOf_65 rfl 2 rfl ?_
            refine J.bipush (pc := 66) dX11_placeOf_66 ib_10 ?_
            refine J.irem (pc := 68) dX11_placeOf_68 (by decide) ?_
            refine J.iadd (pc := 69) dX11_placeOf_69 ?_
            refine J.goto (pc := 70) (tgt := 74) dX11_placeOf_70 (by decide) ?_
            cases h
            exact J.iret (pc := 74) dX11_placeOf_74 rfl ⟨rfl, rfl, hN13, trivial⟩
        · refine J.zeq (pc := 40) (tgt := 47) dX11_placeOf_40 (by decide) (fun q => absurd q hc) (fun _ => ?_)
          refine J.iconst (pc := 43) dX11_placeOf_43 ic_1 ?_
          refine J.goto (pc := 44) (tgt := 48) dX11_placeOf_44 (by decide) ?_
          refine J.istore_n (pc := 48) ([(2, .int (1 : Int32)), (0, .ref v0), (1, .int v1)]) dX11_placeOf_48 rfl (Nat.le_of_ble_eq_true rfl) rfl ?_
          refine J.aload_n (pc := 49) dX11_placeOf_49 rfl 1 rfl ?_
          refine J.iload_n (pc := 50) dX11_placeOf_50 rfl 0 rfl ?_
          refine J.iconst (pc := 51) dX11_placeOf_51 ic_1 ?_
          obtain ⟨⟨r17, μ16⟩, e15, h⟩ := bnd h
          try dsimp only at h
          refine J.callV (Y := mX11_placeOf) (Z := mX11_right) (pc := 52) (st := []) (k2 := 0) (n2 := 0) dX11_placeOf_52 ml_RX11_266 mo_X11_right mv_X11_right rfl (tX11_right d e15 hN8 k0) k0 (okN hN8 k0 (by decide)).1 (okN hN8 k0 (by decide)).2 cq_11 (by decide) rfl rfl (Nat.le_of_ble_eq_true rfl) (by decide) (by decide) (fun v ν hp => ?_) (fun i ν hp => nrm hp.1)
          obtain ⟨rfl, rfl, hN18, hb19⟩ := QEl hp
          show J _ _ _ _ 55 _ ([.int r17]) _ _ _ _
          rcases ifc h with ⟨hc, h⟩ | ⟨hc, h⟩
          · refine J.zeq (pc := 55) (tgt := 73) dX11_placeOf_55 (by decide) (fun _ => ?_) (fun q => absurd hc q)
            refine J.iconst (pc := 73) dX11_placeOf_73 ic_m1 ?_
            cases h
            exact J.iret (pc := 74) dX11_placeOf_74 rfl ⟨rfl, rfl, hN18, trivial⟩
          · refine J.zeq (pc := 55) (tgt := 73) dX11_placeOf_55 (by decide) (fun q => absurd q hc) (fun _ => ?_)
            refine J.bipush (pc := 58) dX11_placeOf_58 ib_8 ?_
            refine J.iload_n (pc := 60) dX11_placeOf_60 rfl 2 rfl ?_
            refine J.bipush (pc := 61) dX11_placeOf_61 ib_10 ?_
            refine J.idiv (pc := 63) dX11_placeOf_63 (by decide) ?_
            refine J.imul (pc := 64) dX11_placeOf_64 ?_
            refine J.iload_n (pc := 65) dX11_placeOf_65 rfl 2 rfl ?_
            refine J.bipush (pc := 66) dX11_placeOf_66 ib_10 ?_
            refine J.irem (pc := 68) dX11_placeOf_68 (by decide) ?_
            refine J.iadd (pc := 69) dX11_placeOf_69 ?_
            refine J.goto (pc := 70) (tgt := 74) dX11_placeOf_70 (by decide) ?_
            cases h
            exact J.iret (pc := 74) dX11_placeOf_74 rfl ⟨rfl, rfl, hN18, trivial⟩
      · refine J.cge (pc := 21) (tgt := 47) dX11_placeOf_21 (by decide) (fun q => absurd q hc) (fun _ => ?_)
        refine J.iconst (pc := 47) dX11_placeOf_47 ic_0 ?_
        refine J.istore_n (pc := 48) ([(2, .int (0 : Int32)), (0, .ref v0), (1, .int v1)]) dX11_placeOf_48 rfl (Nat.le_of_ble_eq_true rfl) rfl ?_
        refine J.aload_n (pc := 49) dX11_placeOf_49 rfl 1 rfl ?_
        refine J.iload_n (pc := 50) dX11_placeOf_50 rfl 0 rfl ?_
        refine J.iconst (pc := 51) dX11_placeOf_51 ic_1 ?_
        obtain ⟨⟨r22, μ21⟩, e20, h⟩ := bnd h
        try dsimp only at h
        refine J.callV (Y := mX11_placeOf) (Z := mX11_right) (pc := 52) (st := []) (k2 := 0) (n2 := 0) dX11_placeOf_52 ml_RX11_266 mo_X11_right mv_X11_right rfl (tX11_right d e20 hN k0) k0 (okN hN k0 (by decide)).1 (okN hN k0 (by decide)).2 cq_11 (by decide) rfl rfl (Nat.le_of_ble_eq_true rfl) (by decide) (by decide) (fun v ν hp => ?_) (fun i ν hp => nrm hp.1)
        obtain ⟨rfl, rfl, hN23, hb24⟩ := QEl hp
        show J _ _ _ _ 55 _ ([.int r22]) _ _ _ _
        rcases ifc h with ⟨hc, h⟩ | ⟨hc, h⟩
        · refine J.zeq (pc := 55) (tgt := 73) dX11_placeOf_55 (by decide) (fun _ => ?_) (fun q => absurd hc q)
          refine J.iconst (pc := 73) dX11_placeOf_73 ic_m1 ?_
          cases h
          exact J.iret (pc := 74) dX11_placeOf_74 rfl ⟨rfl, rfl, hN23, trivial⟩
        · refine J.zeq (pc := 55) (tgt := 73) dX11_placeOf_55 (by decide) (fun q => absurd q hc) (fun _ => ?_)
          refine J.bipush (pc := 58) dX11_placeOf_58 ib_8 ?_
          refine J.iload_n (pc := 60) dX11_placeOf_60 rfl 2 rfl ?_
          refine J.bipush (pc := 61) dX11_placeOf_61 ib_10 ?_
          refine J.idiv (pc := 63) dX11_placeOf_63 (by decide) ?_
          refine J.imul (pc := 64) dX11_placeOf_64 ?_
          refine J.iload_n (pc := 65) dX11_placeOf_65 rfl 2 rfl ?_
          refine J.bipush (pc := 66) dX11_placeOf_66 ib_10 ?_
          refine J.irem (pc := 68) dX11_placeOf_68 (by decide) ?_
          refine J.iadd (pc := 69) dX11_placeOf_69 ?_
          refine J.goto (pc := 70) (tgt := 74) dX11_placeOf_70 (by decide) ?_
          cases h
          exact J.iret (pc := 74) dX11_placeOf_74 rfl ⟨rfl, rfl, hN23, trivial⟩
    · refine J.cge (pc := 12) (tgt := 47) dX11_placeOf_12 (by decide) (fun q => absurd q hc) (fun _ => ?_)
      refine J.iconst (pc := 47) dX11_placeOf_47 ic_0 ?_
      refine J.istore_n (pc := 48) ([(2, .int (0 : Int32)), (0, .ref v0), (1, .int v1)]) dX11_placeOf_48 rfl (Nat.le_of_ble_eq_true rfl) rfl ?_
      refine J.aload_n (pc := 49) dX11_placeOf_49 rfl 1 rfl ?_
      refine J.iload_n (pc := 50) dX11_placeOf_50 rfl 0 rfl ?_
      refine J.iconst (pc := 51) dX11_placeOf_51 ic_1 ?_
      obtain ⟨⟨r27, μ26⟩, e25, h⟩ := bnd h
      try dsimp only at h
      refine J.callV (Y := mX11_placeOf) (Z := mX11_right) (pc := 52) (st := []) (k2 := 0) (n2 := 0) dX11_placeOf_52 ml_RX11_266 mo_X11_right mv_X11_right rfl (tX11_right d e25 hN k0) k0 (okN hN k0 (by decide)).1 (okN hN k0 (by decide)).2 cq_11 (by decide) rfl rfl (Nat.le_of_ble_eq_true rfl) (by decide) (by decide) (fun v ν hp => ?_) (fun i ν hp => nrm hp.1)
      obtain ⟨rfl, rfl, hN28, hb29⟩ := QEl hp
      show J _ _ _ _ 55 _ ([.int r27]) _ _ _ _
      rcases ifc h with ⟨hc, h⟩ | ⟨hc, h⟩
      · refine J.zeq (pc := 55) (tgt := 73) dX11_placeOf_55 (by decide) (fun _ => ?_) (fun q => absurd hc q)
        refine J.iconst (pc := 73) dX11_placeOf_73 ic_m1 ?_
        cases h
        exact J.iret (pc := 74) dX11_placeOf_74 rfl ⟨rfl, rfl, hN28, trivial⟩
      · refine J.zeq (pc := 55) (tgt := 73) dX11_placeOf_55 (by decide) (fun q => absurd q hc) (fun _ => ?_)
        refine J.bipush (pc := 58) dX11_placeOf_58 ib_8 ?_
        refine J.iload_n (pc := 60) dX11_placeOf_60 rfl 2 rfl ?_
        refine J.bipush (pc := 61) dX11_placeOf_61 ib_10 ?_
        refine J.idiv (pc := 63) dX11_placeOf_63 (by decide) ?_
        refine J.imul (pc := 64) dX11_placeOf_64 ?_
        refine J.iload_n (pc := 65) dX11_placeOf_65 rfl 2 rfl ?_
        refine J.bipush (pc := 66) dX11_placeOf_66 ib_10 ?_
        refine J.irem (pc := 68) dX11_placeOf_68 (by decide) ?_
        refine J.iadd (pc := 69) dX11_placeOf_69 ?_
        refine J.goto (pc := 70) (tgt := 74) dX11_placeOf_70 (by decide) ?_
        cases h
        exact J.iret (pc := 74) dX11_placeOf_74 rfl ⟨rfl, rfl, hN28, trivial⟩
def fX11_clear_24  : Nat → Nat → Int32 → Int32 → Mem → Option (Int32 × Mem)
  | 0, _, _, _, _ => none
  | n + 1, v0, v2, v3, μ =>
    if (60 : Int32) < v3 then
      some ((-1 : Int32), μ)
    else
      (fX11_isWhite v0 (79 : Int32) v2 μ).bind fun r2 =>
      if r2 = 0 then
        (fX11_dayGoes v0 (79 : Int32) μ).bind fun μ6 =>
        (fX11_clear_24 n) v0 v2 (v3 + (1 : Int32)) μ6
      else
        some (v3, μ)
set_option maxHeartbeats 4000000 in
theorem tX11_clear_24 {ω : Wd} {l : Launch} (d : Nat) {res : Int32 × Mem} : ∀ n : Nat, ∀ (v0 : Nat) (v2 : Int32) (v3 : Int32) (μ : Mem), fX11_clear_24 n v0 v2 v3 μ = some res → μ.1 = NN → (kd v0).1 = 21 → J ω l mX11_clear (d + 5) 24 [(0, .ref v0), (2, .int v2), (3, .int v3)] [] μ 0 0 (PE (.inl (some (.int res.1))) res.2 True) := by
  intro n
  induction n with
  | zero =>
    intro v0 v2 v3 μ h hN k0
    have h9 : (none : Option (Int32 × Mem)) = some res := h
    cases h9
  | succ n ih =>
    intro v0 v2 v3 μ h hN k0
    unfold fX11_clear_24 at h
    refine J.iload_n (pc := 24) dX11_clear_24 rfl 2 rfl ?_
    refine J.bipush (pc := 25) dX11_clear_25 ib_60 ?_
    rcases ifc h with ⟨hc, h⟩ | ⟨hc, h⟩
    · refine J.cgt (pc := 27) (tgt := 54) dX11_clear_27 (by decide) (fun _ => ?_) (fun q => absurd hc q)
      refine J.iconst (pc := 54) dX11_clear_54 ic_m1 ?_
      cases h
      exact J.iret (pc := 55) dX11_clear_55 rfl ⟨rfl, rfl, hN, trivial⟩
    · refine J.cgt (pc := 27) (tgt := 54) dX11_clear_27 (by decide) (fun q => absurd q hc) (fun _ => ?_)
      refine J.aload_n (pc := 30) dX11_clear_30 rfl 0 rfl ?_
      refine J.bipush (pc := 31) dX11_clear_31 ib_79 ?_
      refine J.iload_n (pc := 33) dX11_clear_33 rfl 1 rfl ?_
      obtain ⟨r2, e1, h⟩ := bnd h
      refine J.callV (Y := mX11_clear) (Z := mX11_isWhite) (pc := 34) (st := []) (k2 := 0) (n2 := 0) dX11_clear_34 ml_RX11_297 mo_X11_isWhite mv_X11_isWhite rfl (tX11_isWhite (d + 4) e1 hN k0) k0 (okN hN k0 (by decide)).1 (okN hN k0 (by decide)).2 cq_11 (by decide) rfl rfl (Nat.le_of_ble_eq_true rfl) (by decide) (by decide) (fun v ν hp => ?_) (fun i ν hp => nrm hp.1)
      obtain ⟨rfl, rfl, hN3, hb4⟩ := QEl hp
      show J _ _ _ _ 37 _ ([.int r2]) _ _ _ _
      rcases ifc h with ⟨hc, h⟩ | ⟨hc, h⟩
      · refine J.zeq (pc := 37) (tgt := 42) dX11_clear_37 (by decide) (fun _ => ?_) (fun q => absurd hc q)
        refine J.aload_n (pc := 42) dX11_clear_42 rfl 0 rfl ?_
        refine J.bipush (pc := 43) dX11_clear_43 ib_79 ?_
        obtain ⟨μ6, e5, h⟩ := bnd h
        refine J.callV (Y := mX11_clear) (Z := mX11_dayGoes) (pc := 45) (st := []) (k2 := 0) (n2 := 0) dX11_clear_45 ml_RX11_341 mo_X11_dayGoes mv_X11_dayGoes rfl (tX11_dayGoes d e5 hN3 k0) k0 (okN hN3 k0 (by decide)).1 (okN hN3 k0 (by decide)).2 cq_11 (by decide) rfl rfl (Nat.le_of_ble_eq_true rfl) (by decide) (by decide) (fun v ν hp => ?_) (fun i ν hp => nrm hp.1)
        obtain ⟨rfl, rfl, hN7, hb8⟩ := QEl hp
        show J _ _ _ _ 48 _ ([]) _ _ _ _
        refine J.iinc (pc := 48) (j := 2) ([(3, .int (v3 + (1 : Int32))), (0, .ref v0), (2, .int v2)]) dX11_clear_48 rfl (iincv ic_1) (Nat.le_of_ble_eq_true rfl) rfl ?_
        refine J.goto (pc := 51) (tgt := 24) dX11_clear_51 (by decide) ?_
        refine J.pick [1, 2, 0] rfl ?_
        exact ih v0 v2 (v3 + (1 : Int32)) μ6 h hN7 k0
      · refine J.zeq (pc := 37) (tgt := 42) dX11_clear_37 (by decide) (fun q => absurd q hc) (fun _ => ?_)
        refine J.iload_n (pc := 40) dX11_clear_40 rfl 2 rfl ?_
        cases h
        exact J.iret (pc := 41) dX11_clear_41 rfl ⟨rfl, rfl, hN3, trivial⟩
def fX11_clear (v0 : Nat) (v1 : Int32) (μ : Mem) : Option (Int32 × Mem) :=
  (some (sI μ v0 0 (0 : Int32))).bind fun μ1 =>
  (fX11_placeOf v0 v1 μ1).bind fun (r6, μ5) =>
  if r6 = (-1 : Int32) then
    some ((0 : Int32), μ5)
  else
    (fX11_tries v0 μ5).bind fun μ10 =>
    (fX11_clear_24 fuel) v0 r6 (0 : Int32) μ10
set_option maxHeartbeats 4000000 in
theorem tX11_clear {ω : Wd} {l : Launch} (d : Nat) {v0 : Nat} {v1 : Int32} {μ : Mem} {res : Int32 × Mem} (h : fX11_clear v0 v1 μ = some res) (hN : μ.1 = NN) (k0 : (kd v0).1 = 21) : Ct ω l mX11_clear (d + 5) [.ref v0, .int v1] μ 0 0 (PE (.inl (some (.int res.1))) res.2 True) := by
  refine Ct.of pn_RX11 (Nat.le_of_ble_eq_true rfl) ?_
  show J ω l mX11_clear (d + 5) 0 [(0, .ref v0), (1, .int v1)] [] μ 0 0 _
  unfold fX11_clear at h
  refine J.aload_n (pc := 0) dX11_clear_0 rfl 0 rfl ?_
  refine J.iconst (pc := 1) dX11_clear_1 ic_0 ?_
  obtain ⟨μ1, e2, h⟩ := bnd h
  have hN3 : μ1.1 = NN := smN e2 hN
  refine J.qI (pc := 2) dX11_clear_2 fl_RX11_99 k0 (okN hN k0 (by decide)) rfl rfl e2 ?_
  refine J.aload_n (pc := 5) dX11_clear_5 rfl 0 rfl ?_
  refine J.iload_n (pc := 6) dX11_clear_6 rfl 1 rfl ?_
  obtain ⟨⟨r6, μ5⟩, e4, h⟩ := bnd h
  try dsimp only at h
  refine J.callV (Y := mX11_clear) (Z := mX11_placeOf) (pc := 7) (st := []) (k2 := 0) (n2 := 0) dX11_clear_7 ml_RX11_380 mo_X11_placeOf mv_X11_placeOf rfl (tX11_placeOf (d + 3) e4 hN3 k0) k0 (okN hN3 k0 (by decide)).1 (okN hN3 k0 (by decide)).2 cq_11 (by decide) rfl rfl (Nat.le_of_ble_eq_true rfl) (by decide) (by decide) (fun v ν hp => ?_) (fun i ν hp => nrm hp.1)
  obtain ⟨rfl, rfl, hN7, hb8⟩ := QEl hp
  show J _ _ _ _ 10 _ ([.int r6]) _ _ _ _
  refine J.istore_n (pc := 10) ([(2, .int r6), (0, .ref v0), (1, .int v1)]) dX11_clear_10 rfl (Nat.le_of_ble_eq_true rfl) rfl ?_
  refine J.iload_n (pc := 11) dX11_clear_11 rfl 0 rfl ?_
  refine J.iconst (pc := 12) dX11_clear_12 ic_m1 ?_
  rcases ifc h with ⟨hc, h⟩ | ⟨hc, h⟩
  · refine J.cne (pc := 13) (tgt := 18) dX11_clear_13 (by decide) (fun _ => ?_) (fun q => absurd hc q)
    refine J.iconst (pc := 16) dX11_clear_16 ic_0 ?_
    cases h
    exact J.iret (pc := 17) dX11_clear_17 rfl ⟨rfl, rfl, hN7, trivial⟩
  · refine J.cne (pc := 13) (tgt := 18) dX11_clear_13 (by decide) (fun q => absurd q hc) (fun _ => ?_)
    refine J.aload_n (pc := 18) dX11_clear_18 rfl 1 rfl ?_
    obtain ⟨μ10, e9, h⟩ := bnd h
    refine J.callV (Y := mX11_clear) (Z := mX11_tries) (pc := 19) (st := []) (k2 := 0) (n2 := 0) dX11_clear_19 ml_RX11_389 mo_X11_tries mv_X11_tries rfl (tX11_tries (d + 4) e9 hN7 k0) k0 (okN hN7 k0 (by decide)).1 (okN hN7 k0 (by decide)).2 cq_11 (by decide) rfl rfl (Nat.le_of_ble_eq_true rfl) (by decide) (by decide) (fun v ν hp => ?_) (fun i ν hp => nrm hp.1)
    obtain ⟨rfl, rfl, hN11, hb12⟩ := QEl hp
    show J _ _ _ _ 22 _ ([]) _ _ _ _
    refine J.iconst (pc := 22) dX11_clear_22 ic_0 ?_
    refine J.istore_n (pc := 23) ([(3, .int (0 : Int32)), (2, .int r6), (0, .ref v0), (1, .int v1)]) dX11_clear_23 rfl (Nat.le_of_ble_eq_true rfl) rfl ?_
    refine J.pick [2, 1, 0] rfl ?_
    exact (tX11_clear_24 d fuel) v0 r6 (0 : Int32) μ10 h hN11 k0
def fX11_comes_21  : Nat → Nat → Int32 → Int32 → Mem → Option (Int32 × Mem)
  | 0, _, _, _, _ => none
  | n + 1, v0, v1, v2, μ =>
    if (60 : Int32) < v2 then
      some ((-1 : Int32), μ)
    else
      (fX11_dayGoes v0 (79 : Int32) μ).bind fun μ2 =>
      if (((μ2.2.1 v0 42) >>> (v1 &&& 31)) &&& (1 : Int32)) = (1 : Int32) then
        some (v2, μ2)
      else
        (fX11_comes_21 n) v0 v1 (v2 + (1 : Int32)) μ2
set_option maxHeartbeats 4000000 in
theorem tX11_comes_21 {ω : Wd} {l : Launch} (d : Nat) {res : Int32 × Mem} : ∀ n : Nat, ∀ (v0 : Nat) (v1 : Int32) (v2 : Int32) (μ : Mem), fX11_comes_21 n v0 v1 v2 μ = some res → μ.1 = NN → (kd v0).1 = 21 → J ω l mX11_comes (d + 5) 21 [(0, .ref v0), (1, .int v1), (2, .int v2)] [] μ 0 0 (PE (.inl (some (.int res.1))) res.2 True) := by
  intro n
  induction n with
  | zero =>
    intro v0 v1 v2 μ h hN k0
    have h9 : (none : Option (Int32 × Mem)) = some res := h
    cases h9
  | succ n ih =>
    intro v0 v1 v2 μ h hN k0
    unfold fX11_comes_21 at h
    refine J.iload_n (pc := 21) dX11_comes_21 rfl 2 rfl ?_
    refine J.bipush (pc := 22) dX11_comes_22 ib_60 ?_
    rcases ifc h with ⟨hc, h⟩ | ⟨hc, h⟩
    · refine J.cgt (pc := 24) (tgt := 53) dX11_comes_24 (by decide) (fun _ => ?_) (fun q => absurd hc q)
      refine J.iconst (pc := 53) dX11_comes_53 ic_m1 ?_
      cases h
      exact J.iret (pc := 54) dX11_comes_54 rfl ⟨rfl, rfl, hN, trivial⟩
    · refine J.cgt (pc := 24) (tgt := 53) dX11_comes_24 (by decide) (fun q => absurd q hc) (fun _ => ?_)
      refine J.aload_n (pc := 27) dX11_comes_27 rfl 0 rfl ?_
      refine J.bipush (pc := 28) dX11_comes_28 ib_79 ?_
      obtain ⟨μ2, e1, h⟩ := bnd h
      refine J.callV (Y := mX11_comes) (Z := mX11_dayGoes) (pc := 30) (st := []) (k2 := 0) (n2 := 0) dX11_comes_30 ml_RX11_341 mo_X11_dayGoes mv_X11_dayGoes rfl (tX11_dayGoes d e1 hN k0) k0 (okN hN k0 (by decide)).1 (okN hN k0 (by decide)).2 cq_11 (by decide) rfl rfl (Nat.le_of_ble_eq_true rfl) (by decide) (by decide) (fun v ν hp => ?_) (fun i ν hp => nrm hp.1)
      obtain ⟨rfl, rfl, hN3, hb4⟩ := QEl hp
      show J _ _ _ _ 33 _ ([]) _ _ _ _
      refine J.aload_n (pc := 33) dX11_comes_33 rfl 0 rfl ?_
      refine J.fI (pc := 34) dX11_comes_34 fl_RX11_323 k0 (okN hN3 k0 (by decide)) (Or.inl rfl) ?_
      refine J.iload_n (pc := 37) dX11_comes_37 rfl 1 rfl ?_
      refine J.ishr (pc := 38) dX11_comes_38 ?_
      refine J.iconst (pc := 39) dX11_comes_39 ic_1 ?_
      refine J.iand (pc := 40) dX11_comes_40 ?_
      refine J.iconst (pc := 41) dX11_comes_41 ic_1 ?_
      rcases ifc h with ⟨hc, h⟩ | ⟨hc, h⟩
      · refine J.cne (pc := 42) (tgt := 47) dX11_comes_42 (by decide) (fun _ => ?_) (fun q => absurd hc q)
        refine J.iload_n (pc := 45) dX11_comes_45 rfl 2 rfl ?_
        cases h
        exact J.iret (pc := 46) dX11_comes_46 rfl ⟨rfl, rfl, hN3, trivial⟩
      · refine J.cne (pc := 42) (tgt := 47) dX11_comes_42 (by decide) (fun q => absurd q hc) (fun _ => ?_)
        refine J.iinc (pc := 47) (j := 2) ([(2, .int (v2 + (1 : Int32))), (0, .ref v0), (1, .int v1)]) dX11_comes_47 rfl (iincv ic_1) (Nat.le_of_ble_eq_true rfl) rfl ?_
        refine J.goto (pc := 50) (tgt := 21) dX11_comes_50 (by decide) ?_
        refine J.pick [1, 2, 0] rfl ?_
        exact ih v0 v1 (v2 + (1 : Int32)) μ2 h hN3 k0
def fX11_comes (v0 : Nat) (v1 : Int32) (μ : Mem) : Option (Int32 × Mem) :=
  (some (sI μ v0 0 (0 : Int32))).bind fun μ1 =>
  (fX11_isPerson v0 v1 μ1).bind fun (r6, μ5) =>
  if r6 = 0 then
    some ((0 : Int32), μ5)
  else
    (fX11_tries v0 μ5).bind fun μ10 =>
    (fX11_comes_21 fuel) v0 v1 (1 : Int32) μ10
set_option maxHeartbeats 4000000 in
theorem tX11_comes {ω : Wd} {l : Launch} (d : Nat) {v0 : Nat} {v1 : Int32} {μ : Mem} {res : Int32 × Mem} (h : fX11_comes v0 v1 μ = some res) (hN : μ.1 = NN) (k0 : (kd v0).1 = 21) : Ct ω l mX11_comes (d + 5) [.ref v0, .int v1] μ 0 0 (PE (.inl (some (.int res.1))) res.2 True) := by
  refine Ct.of pn_RX11 (Nat.le_of_ble_eq_true rfl) ?_
  show J ω l mX11_comes (d + 5) 0 [(0, .ref v0), (1, .int v1)] [] μ 0 0 _
  unfold fX11_comes at h
  refine J.aload_n (pc := 0) dX11_comes_0 rfl 0 rfl ?_
  refine J.iconst (pc := 1) dX11_comes_1 ic_0 ?_
  obtain ⟨μ1, e2, h⟩ := bnd h
  have hN3 : μ1.1 = NN := smN e2 hN
  refine J.qI (pc := 2) dX11_comes_2 fl_RX11_99 k0 (okN hN k0 (by decide)) rfl rfl e2 ?_
  refine J.aload_n (pc := 5) dX11_comes_5 rfl 0 rfl ?_
  refine J.iload_n (pc := 6) dX11_comes_6 rfl 1 rfl ?_
  obtain ⟨⟨r6, μ5⟩, e4, h⟩ := bnd h
  try dsimp only at h
  refine J.callV (Y := mX11_comes) (Z := mX11_isPerson) (pc := 7) (st := []) (k2 := 0) (n2 := 0) dX11_comes_7 ml_RX11_368 mo_X11_isPerson mv_X11_isPerson rfl (tX11_isPerson (d + 3) e4 hN3 k0) k0 (okN hN3 k0 (by decide)).1 (okN hN3 k0 (by decide)).2 cq_11 (by decide) rfl rfl (Nat.le_of_ble_eq_true rfl) (by decide) (by decide) (fun v ν hp => ?_) (fun i ν hp => nrm hp.1)
  obtain ⟨rfl, rfl, hN7, hb8⟩ := QEl hp
  show J _ _ _ _ 10 _ ([.int r6]) _ _ _ _
  rcases ifc h with ⟨hc, h⟩ | ⟨hc, h⟩
  · refine J.zne (pc := 10) (tgt := 15) dX11_comes_10 (by decide) (fun _ => ?_) (fun q => absurd hc q)
    refine J.iconst (pc := 13) dX11_comes_13 ic_0 ?_
    cases h
    exact J.iret (pc := 14) dX11_comes_14 rfl ⟨rfl, rfl, hN7, trivial⟩
  · refine J.zne (pc := 10) (tgt := 15) dX11_comes_10 (by decide) (fun q => absurd q hc) (fun _ => ?_)
    refine J.aload_n (pc := 15) dX11_comes_15 rfl 0 rfl ?_
    obtain ⟨μ10, e9, h⟩ := bnd h
    refine J.callV (Y := mX11_comes) (Z := mX11_tries) (pc := 16) (st := []) (k2 := 0) (n2 := 0) dX11_comes_16 ml_RX11_389 mo_X11_tries mv_X11_tries rfl (tX11_tries (d + 4) e9 hN7 k0) k0 (okN hN7 k0 (by decide)).1 (okN hN7 k0 (by decide)).2 cq_11 (by decide) rfl rfl (Nat.le_of_ble_eq_true rfl) (by decide) (by decide) (fun v ν hp => ?_) (fun i ν hp => nrm hp.1)
    obtain ⟨rfl, rfl, hN11, hb12⟩ := QEl hp
    show J _ _ _ _ 19 _ ([]) _ _ _ _
    refine J.iconst (pc := 19) dX11_comes_19 ic_1 ?_
    refine J.istore_n (pc := 20) ([(2, .int (1 : Int32)), (0, .ref v0), (1, .int v1)]) dX11_comes_20 rfl (Nat.le_of_ble_eq_true rfl) rfl ?_
    refine J.pick [1, 2, 0] rfl ?_
    exact (tX11_comes_21 d fuel) v0 v1 (1 : Int32) μ10 h hN11 k0
def fX11_inked_4 (μ : Mem) : Nat → Nat → Int32 → Int32 → Int32 → Option (Int32)
  | 0, _, _, _, _ => none
  | n + 1, v0, v1, v2, v3 =>
    if v3 < (48 : Int32) then
      (fX11_isThere v0 v3 μ).bind fun r2 =>
      if r2 = 0 then
        (fX11_inked_4 μ n) v0 v1 (v2 + (0 : Int32)) (v3 + (1 : Int32))
      else
        (fX11_isWhite v0 v1 v3 μ).bind fun r6 =>
        if r6 = 0 then
          (fX11_inked_4 μ n) v0 v1 (v2 + (1 : Int32)) (v3 + (1 : Int32))
        else
          (fX11_inked_4 μ n) v0 v1 (v2 + (0 : Int32)) (v3 + (1 : Int32))
    else
      some v2
set_option maxHeartbeats 4000000 in
theorem tX11_inked_4 {ω : Wd} {l : Launch} (d : Nat) {μ : Mem} (hN : μ.1 = NN) {res : Int32} : ∀ n : Nat, ∀ (v0 : Nat) (v1 : Int32) (v2 : Int32) (v3 : Int32), fX11_inked_4 μ n v0 v1 v2 v3 = some res → (kd v0).1 = 21 → J ω l mX11_inked (d + 1) 4 [(0, .ref v0), (1, .int v1), (2, .int v2), (3, .int v3)] [] μ 0 0 (PE (.inl (some (.int res))) μ True) := by
  intro n
  induction n with
  | zero =>
    intro v0 v1 v2 v3 h k0
    have h9 : (none : Option (Int32)) = some res := h
    cases h9
  | succ n ih =>
    intro v0 v1 v2 v3 h k0
    unfold fX11_inked_4 at h
    refine J.iload_n (pc := 4) dX11_inked_4 rfl 3 rfl ?_
    refine J.bipush (pc := 5) dX11_inked_5 ib_48 ?_
    rcases ifc h with ⟨hc, h⟩ | ⟨hc, h⟩
    · refine J.cge (pc := 7) (tgt := 41) dX11_inked_7 (by decide) (fun _ => ?_) (fun q => absurd hc q)
      refine J.iload_n (pc := 10) dX11_inked_10 rfl 2 rfl ?_
      refine J.aload_n (pc := 11) dX11_inked_11 rfl 0 rfl ?_
      refine J.iload_n (pc := 12) dX11_inked_12 rfl 3 rfl ?_
      obtain ⟨r2, e1, h⟩ := bnd h
      refine J.callV (Y := mX11_inked) (Z := mX11_isThere) (pc := 13) (st := [.int v2]) (k2 := 0) (n2 := 0) dX11_inked_13 ml_RX11_332 mo_X11_isThere mv_X11_isThere rfl (tX11_isThere d e1 hN k0) k0 (okN hN k0 (by decide)).1 (okN hN k0 (by decide)).2 cq_11 (by decide) rfl rfl (Nat.le_of_ble_eq_true rfl) (by decide) (by decide) (fun v ν hp => ?_) (fun i ν hp => nrm hp.1)
      obtain ⟨rfl, rfl, hN3, hb4⟩ := QEl hp
      show J _ _ _ _ 16 _ ([.int r2, .int v2]) _ _ _ _
      rcases ifc h with ⟨hc, h⟩ | ⟨hc, h⟩
      · refine J.zeq (pc := 16) (tgt := 32) dX11_inked_16 (by decide) (fun _ => ?_) (fun q => absurd hc q)
        refine J.iconst (pc := 32) dX11_inked_32 ic_0 ?_
        refine J.iadd (pc := 33) dX11_inked_33 ?_
        refine J.istore_n (pc := 34) ([(2, .int (v2 + (0 : Int32))), (0, .ref v0), (1, .int v1), (3, .int v3)]) dX11_inked_34 rfl (Nat.le_of_ble_eq_true rfl) rfl ?_
        refine J.iinc (pc := 35) (j := 3) ([(3, .int (v3 + (1 : Int32))), (2, .int (v2 + (0 : Int32))), (0, .ref v0), (1, .int v1)]) dX11_inked_35 rfl (iincv ic_1) (Nat.le_of_ble_eq_true rfl) rfl ?_
        refine J.goto (pc := 38) (tgt := 4) dX11_inked_38 (by decide) ?_
        refine J.pick [2, 3, 1, 0] rfl ?_
        exact ih v0 v1 (v2 + (0 : Int32)) (v3 + (1 : Int32)) h k0
      · refine J.zeq (pc := 16) (tgt := 32) dX11_inked_16 (by decide) (fun q => absurd q hc) (fun _ => ?_)
        refine J.aload_n (pc := 19) dX11_inked_19 rfl 0 rfl ?_
        refine J.iload_n (pc := 20) dX11_inked_20 rfl 1 rfl ?_
        refine J.iload_n (pc := 21) dX11_inked_21 rfl 3 rfl ?_
        obtain ⟨r6, e5, h⟩ := bnd h
        refine J.callV (Y := mX11_inked) (Z := mX11_isWhite) (pc := 22) (st := [.int v2]) (k2 := 0) (n2 := 0) dX11_inked_22 ml_RX11_297 mo_X11_isWhite mv_X11_isWhite rfl (tX11_isWhite d e5 hN3 k0) k0 (okN hN3 k0 (by decide)).1 (okN hN3 k0 (by decide)).2 cq_11 (by decide) rfl rfl (Nat.le_of_ble_eq_true rfl) (by decide) (by decide) (fun v ν hp => ?_) (fun i ν hp => nrm hp.1)
        obtain ⟨rfl, rfl, hN7, hb8⟩ := QEl hp
        show J _ _ _ _ 25 _ ([.int r6, .int v2]) _ _ _ _
        rcases ifc h with ⟨hc, h⟩ | ⟨hc, h⟩
        · refine J.zne (pc := 25) (tgt := 32) dX11_inked_25 (by decide) (fun _ => ?_) (fun q => absurd hc q)
          refine J.iconst (pc := 28) dX11_inked_28 ic_1 ?_
          refine J.goto (pc := 29) (tgt := 33) dX11_inked_29 (by decide) ?_
          refine J.iadd (pc := 33) dX11_inked_33 ?_
          refine J.istore_n (pc := 34) ([(2, .int (v2 + (1 : Int32))), (0, .ref v0), (1, .int v1), (3, .int v3)]) dX11_inked_34 rfl (Nat.le_of_ble_eq_true rfl) rfl ?_
          refine J.iinc (pc := 35) (j := 3) ([(3, .int (v3 + (1 : Int32))), (2, .int (v2 + (1 : Int32))), (0, .ref v0), (1, .int v1)]) dX11_inked_35 rfl (iincv ic_1) (Nat.le_of_ble_eq_true rfl) rfl ?_
          refine J.goto (pc := 38) (tgt := 4) dX11_inked_38 (by decide) ?_
          refine J.pick [2, 3, 1, 0] rfl ?_
          exact ih v0 v1 (v2 + (1 : Int32)) (v3 + (1 : Int32)) h k0
        · refine J.zne (pc := 25) (tgt := 32) dX11_inked_25 (by decide) (fun q => absurd q hc) (fun _ => ?_)
          refine J.iconst (pc := 32) dX11_inked_32 ic_0 ?_
          refine J.iadd (pc := 33) dX11_inked_33 ?_
          refine J.istore_n (pc := 34) ([(2, .int (v2 + (0 : Int32))), (0, .ref v0), (1, .int v1), (3, .int v3)]) dX11_inked_34 rfl (Nat.le_of_ble_eq_true rfl) rfl ?_
          refine J.iinc (pc := 35) (j := 3) ([(3, .int (v3 + (1 : Int32))), (2, .int (v2 + (0 : Int32))), (0, .ref v0), (1, .int v1)]) dX11_inked_35 rfl (iincv ic_1) (Nat.le_of_ble_eq_true rfl) rfl ?_
          refine J.goto (pc := 38) (tgt := 4) dX11_inked_38 (by decide) ?_
          refine J.pick [2, 3, 1, 0] rfl ?_
          exact ih v0 v1 (v2 + (0 : Int32)) (v3 + (1 : Int32)) h k0
    · refine J.cge (pc := 7) (tgt := 41) dX11_inked_7 (by decide) (fun q => absurd q hc) (fun _ => ?_)
      refine J.iload_n (pc := 41) dX11_inked_41 rfl 2 rfl ?_
      cases h
      exact J.iret (pc := 42) dX11_inked_42 rfl ⟨rfl, rfl, hN, trivial⟩
def fX11_inked (v0 : Nat) (v1 : Int32) (μ : Mem) : Option (Int32) :=
  (fX11_inked_4 μ fuel) v0 v1 (0 : Int32) (0 : Int32)
set_option maxHeartbeats 4000000 in
theorem tX11_inked {ω : Wd} {l : Launch} (d : Nat) {v0 : Nat} {v1 : Int32} {μ : Mem} {res : Int32} (h : fX11_inked v0 v1 μ = some res) (hN : μ.1 = NN) (k0 : (kd v0).1 = 21) : Ct ω l mX11_inked (d + 1) [.ref v0, .int v1] μ 0 0 (PE (.inl (some (.int res))) μ True) := by
  refine Ct.of pn_RX11 (Nat.le_of_ble_eq_true rfl) ?_
  show J ω l mX11_inked (d + 1) 0 [(0, .ref v0), (1, .int v1)] [] μ 0 0 _
  unfold fX11_inked at h
  refine J.iconst (pc := 0) dX11_inked_0 ic_0 ?_
  refine J.istore_n (pc := 1) ([(2, .int (0 : Int32)), (0, .ref v0), (1, .int v1)]) dX11_inked_1 rfl (Nat.le_of_ble_eq_true rfl) rfl ?_
  refine J.iconst (pc := 2) dX11_inked_2 ic_0 ?_
  refine J.istore_n (pc := 3) ([(3, .int (0 : Int32)), (2, .int (0 : Int32)), (0, .ref v0), (1, .int v1)]) dX11_inked_3 rfl (Nat.le_of_ble_eq_true rfl) rfl ?_
  refine J.pick [2, 3, 1, 0] rfl ?_
  exact (tX11_inked_4 d hN fuel) v0 v1 (0 : Int32) (0 : Int32) h k0
def fX11_metAll_4 (μ : Mem) : Nat → Nat → Int32 → Int32 → Int32 → Option (Int32)
  | 0, _, _, _, _ => none
  | n + 1, v0, v1, v2, v3 =>
    if v3 < (μ.2.1 v0 2) then
      (gR μ v0 34 0).bind fun a1 =>
      (ldI μ a1 ((v1 + (67 : Int32)) + v3)).bind fun x4 =>
      (fX11_metAll_4 μ n) v0 v1 (v2 + x4) (v3 + (1 : Int32))
    else
      some v2
set_option maxHeartbeats 4000000 in
theorem tX11_metAll_4 {ω : Wd} {l : Launch} (d : Nat) {μ : Mem} (hN : μ.1 = NN) {res : Int32} : ∀ n : Nat, ∀ (v0 : Nat) (v1 : Int32) (v2 : Int32) (v3 : Int32), fX11_metAll_4 μ n v0 v1 v2 v3 = some res → (kd v0).1 = 21 → J ω l mX11_metAll d 4 [(0, .ref v0), (1, .int v1), (2, .int v2), (3, .int v3)] [] μ 0 0 (PE (.inl (some (.int res))) μ True) := by
  intro n
  induction n with
  | zero =>
    intro v0 v1 v2 v3 h k0
    have h9 : (none : Option (Int32)) = some res := h
    cases h9
  | succ n ih =>
    intro v0 v1 v2 v3 h k0
    unfold fX11_metAll_4 at h
    refine J.iload_n (pc := 4) dX11_metAll_4 rfl 3 rfl ?_
    refine J.aload_n (pc := 5) dX11_metAll_5 rfl 0 rfl ?_
    refine J.fI (pc := 6) dX11_metAll_6 fl_RX11_276 k0 (okN hN k0 (by decide)) (Or.inl rfl) ?_
    rcases ifc h with ⟨hc, h⟩ | ⟨hc, h⟩
    · refine J.cge (pc := 9) (tgt := 32) dX11_metAll_9 (by decide) (fun _ => ?_) (fun q => absurd hc q)
      refine J.iload_n (pc := 12) dX11_metAll_12 rfl 2 rfl ?_
      refine J.aload_n (pc := 13) dX11_metAll_13 rfl 0 rfl ?_
      obtain ⟨a1, e2, h⟩ := bnd h
      have k3 : (kd a1).1 = 0 := gR_k e2
      refine J.fR (pc := 14) dX11_metAll_14 fl_RX11_48 k0 (okN hN k0 (by decide)) rfl e2 ?_
      refine J.iload_n (pc := 17) dX11_metAll_17 rfl 1 rfl ?_
      refine J.bipush (pc := 18) dX11_metAll_18 ib_67 ?_
      refine J.iadd (pc := 20) dX11_metAll_20 ?_
      refine J.iload_n (pc := 21) dX11_metAll_21 rfl 3 rfl ?_
      refine J.iadd (pc := 22) dX11_metAll_22 ?_
      obtain ⟨x4, e5, h⟩ := bnd h
      refine J.aI (pc := 23) dX11_metAll_23 k3 (okN hN k3 (by decide)) e5 ?_
      refine J.iadd (pc := 24) dX11_metAll_24 ?_
      refine J.istore_n (pc := 25) ([(2, .int (v2 + x4)), (0, .ref v0), (1, .int v1), (3, .int v3)]) dX11_metAll_25 rfl (Nat.le_of_ble_eq_true rfl) rfl ?_
      refine J.iinc (pc := 26) (j := 3) ([(3, .int (v3 + (1 : Int32))), (2, .int (v2 + x4)), (0, .ref v0), (1, .int v1)]) dX11_metAll_26 rfl (iincv ic_1) (Nat.le_of_ble_eq_true rfl) rfl ?_
      refine J.goto (pc := 29) (tgt := 4) dX11_metAll_29 (by decide) ?_
      refine J.pick [2, 3, 1, 0] rfl ?_
      exact ih v0 v1 (v2 + x4) (v3 + (1 : Int32)) h k0
    · refine J.cge (pc := 9) (tgt := 32) dX11_metAll_9 (by decide) (fun q => absurd q hc) (fun _ => ?_)
      refine J.iload_n (pc := 32) dX11_metAll_32 rfl 2 rfl ?_
      cases h
      exact J.iret (pc := 33) dX11_metAll_33 rfl ⟨rfl, rfl, hN, trivial⟩
def fX11_metAll (v0 : Nat) (v1 : Int32) (μ : Mem) : Option (Int32) :=
  (fX11_metAll_4 μ fuel) v0 v1 (0 : Int32) (0 : Int32)
set_option maxHeartbeats 4000000 in
theorem tX11_metAll {ω : Wd} {l : Launch} (d : Nat) {v0 : Nat} {v1 : Int32} {μ : Mem} {res : Int32} (h : fX11_metAll v0 v1 μ = some res) (hN : μ.1 = NN) (k0 : (kd v0).1 = 21) : Ct ω l mX11_metAll d [.ref v0, .int v1] μ 0 0 (PE (.inl (some (.int res))) μ True) := by
  refine Ct.of pn_RX11 (Nat.le_of_ble_eq_true rfl) ?_
  show J ω l mX11_metAll d 0 [(0, .ref v0), (1, .int v1)] [] μ 0 0 _
  unfold fX11_metAll at h
  refine J.iconst (pc := 0) dX11_metAll_0 ic_0 ?_
  refine J.istore_n (pc := 1) ([(2, .int (0 : Int32)), (0, .ref v0), (1, .int v1)]) dX11_metAll_1 rfl (Nat.le_of_ble_eq_true rfl) rfl ?_
  refine J.iconst (pc := 2) dX11_metAll_2 ic_0 ?_
  refine J.istore_n (pc := 3) ([(3, .int (0 : Int32)), (2, .int (0 : Int32)), (0, .ref v0), (1, .int v1)]) dX11_metAll_3 rfl (Nat.le_of_ble_eq_true rfl) rfl ?_
  refine J.pick [2, 3, 1, 0] rfl ?_
  exact (tX11_metAll_4 d hN fuel) v0 v1 (0 : Int32) (0 : Int32) h k0
def fX11_parts_41  (K4 : Nat → Int32 → Int32 → Mem → Option (Int32 × Mem)) : Nat → Nat → Int32 → Int32 → Int32 → Int32 → Mem → Option (Int32 × Mem)
  | 0, _, _, _, _, _, _ => none
  | n + 1, v0, v1, v2, v3, v4, μ =>
    if v4 < v2 then
      if v3 = 0 then
        (fX11_parts_41 K4 n) v0 v1 v2 (0 : Int32) (v4 + (1 : Int32)) μ
      else
        (gR μ v0 39 0).bind fun a1 =>
        (ldI μ a1 v4).bind fun x4 =>
        if x4 = (9999 : Int32) then
          (fX11_parts_41 K4 n) v0 v1 v2 (1 : Int32) (v4 + (1 : Int32)) μ
        else
          (fX11_isThere v0 v4 μ).bind fun r7 =>
          if r7 = 0 then
            (fX11_parts_41 K4 n) v0 v1 v2 (1 : Int32) (v4 + (1 : Int32)) μ
          else
            (fX11_isWhite v0 (0 : Int32) v4 μ).bind fun r11 =>
            if r11 = 0 then
              (fX11_parts_41 K4 n) v0 v1 v2 (1 : Int32) (v4 + (1 : Int32)) μ
            else
              (fX11_parts_41 K4 n) v0 v1 v2 (0 : Int32) (v4 + (1 : Int32)) μ
    else
      if v3 = 0 then
        K4 v0 (v1 + (0 : Int32)) (v2 + (1 : Int32)) μ
      else
        K4 v0 (v1 + (1 : Int32)) (v2 + (1 : Int32)) μ
set_option maxHeartbeats 4000000 in
theorem tX11_parts_41 {ω : Wd} {l : Launch} (d : Nat) {res : Int32 × Mem} (K4 : Nat → Int32 → Int32 → Mem → Option (Int32 × Mem)) (hK4 : ∀ (v0 : Nat) (v1 : Int32) (v2 : Int32) (μ : Mem), K4 v0 v1 v2 μ = some res → μ.1 = NN → (kd v0).1 = 21 → J ω l mX11_parts (d + 2) 4 [(0, .ref v0), (1, .int v1), (2, .int v2)] [] μ 0 0 (PE (.inl (some (.int res.1))) res.2 True)) : ∀ n : Nat, ∀ (v0 : Nat) (v1 : Int32) (v2 : Int32) (v3 : Int32) (v4 : Int32) (μ : Mem), fX11_parts_41 K4 n v0 v1 v2 v3 v4 μ = some res → μ.1 = NN → (kd v0).1 = 21 → J ω l mX11_parts (d + 2) 41 [(0, .ref v0), (1, .int v1), (2, .int v2), (3, .int v3), (4, .int v4)] [] μ 0 0 (PE (.inl (some (.int res.1))) res.2 True) := by
  intro n
  induction n with
  | zero =>
    intro v0 v1 v2 v3 v4 μ h hN k0
    have h9 : (none : Option (Int32 × Mem)) = some res := h
    cases h9
  | succ n ih =>
    intro v0 v1 v2 v3 v4 μ h hN k0
    unfold fX11_parts_41 at h
    refine J.iload (pc := 41) dX11_parts_41 4 rfl ?_
    refine J.iload_n (pc := 43) dX11_parts_43 rfl 2 rfl ?_
    rcases ifc h with ⟨hc, h⟩ | ⟨hc, h⟩
    · refine J.cge (pc := 44) (tgt := 95) dX11_parts_44 (by decide) (fun _ => ?_) (fun q => absurd hc q)
      refine J.iload_n (pc := 47) dX11_parts_47 rfl 3 rfl ?_
      rcases ifc h with ⟨hc, h⟩ | ⟨hc, h⟩
      · refine J.zeq (pc := 48) (tgt := 87) dX11_parts_48 (by decide) (fun _ => ?_) (fun q => absurd hc q)
        refine J.iconst (pc := 87) dX11_parts_87 ic_0 ?_
        refine J.istore_n (pc := 88) ([(3, .int (0 : Int32)), (0, .ref v0), (1, .int v1), (2, .int v2), (4, .int v4)]) dX11_parts_88 rfl (Nat.le_of_ble_eq_true rfl) rfl ?_
        refine J.iinc (pc := 89) (j := 4) ([(4, .int (v4 + (1 : Int32))), (3, .int (0 : Int32)), (0, .ref v0), (1, .int v1), (2, .int v2)]) dX11_parts_89 rfl (iincv ic_1) (Nat.le_of_ble_eq_true rfl) rfl ?_
        refine J.goto (pc := 92) (tgt := 41) dX11_parts_92 (by decide) ?_
        refine J.pick [2, 3, 4, 1, 0] rfl ?_
        exact ih v0 v1 v2 (0 : Int32) (v4 + (1 : Int32)) μ h hN k0
      · refine J.zeq (pc := 48) (tgt := 87) dX11_parts_48 (by decide) (fun q => absurd q hc) (fun _ => ?_)
        refine J.aload_n (pc := 51) dX11_parts_51 rfl 0 rfl ?_
        obtain ⟨a1, e2, h⟩ := bnd h
        have k3 : (kd a1).1 = 0 := gR_k e2
        refine J.fR (pc := 52) dX11_parts_52 fl_RX11_60 k0 (okN hN k0 (by decide)) rfl e2 ?_
        refine J.iload (pc := 55) dX11_parts_55 4 rfl ?_
        obtain ⟨x4, e5, h⟩ := bnd h
        refine J.aI (pc := 57) dX11_parts_57 k3 (okN hN k3 (by decide)) e5 ?_
        refine J.sipush (pc := 58) dX11_parts_58 is_9999 ?_
        rcases ifc h with ⟨hc, h⟩ | ⟨hc, h⟩
        · refine J.ceq (pc := 61) (tgt := 83) dX11_parts_61 (by decide) (fun _ => ?_) (fun q => absurd hc q)
          refine J.iconst (pc := 83) dX11_parts_83 ic_1 ?_
          refine J.goto (pc := 84) (tgt := 88) dX11_parts_84 (by decide) ?_
          refine J.istore_n (pc := 88) ([(3, .int (1 : Int32)), (0, .ref v0), (1, .int v1), (2, .int v2), (4, .int v4)]) dX11_parts_88 rfl (Nat.le_of_ble_eq_true rfl) rfl ?_
          refine J.iinc (pc := 89) (j := 4) ([(4, .int (v4 + (1 : Int32))), (3, .int (1 : Int32)), (0, .ref v0), (1, .int v1), (2, .int v2)]) dX11_parts_89 rfl (iincv ic_1) (Nat.le_of_ble_eq_true rfl) rfl ?_
          refine J.goto (pc := 92) (tgt := 41) dX11_parts_92 (by decide) ?_
          refine J.pick [2, 3, 4, 1, 0] rfl ?_
          exact ih v0 v1 v2 (1 : Int32) (v4 + (1 : Int32)) μ h hN k0
        · refine J.ceq (pc := 61) (tgt := 83) dX11_parts_61 (by decide) (fun q => absurd q hc) (fun _ => ?_)
          refine J.aload_n (pc := 64) dX11_parts_64 rfl 0 rfl ?_
          refine J.iload (pc := 65) dX11_parts_65 4 rfl ?_
          obtain ⟨r7, e6, h⟩ := bnd h
          refine J.callV (Y := mX11_parts) (Z := mX11_isThere) (pc := 67) (st := []) (k2 := 0) (n2 := 0) dX11_parts_67 ml_RX11_332 mo_X11_isThere mv_X11_isThere rfl (tX11_isThere (d + 1) e6 hN k0) k0 (okN hN k0 (by decide)).1 (okN hN k0 (by decide)).2 cq_11 (by decide) rfl rfl (Nat.le_of_ble_eq_true rfl) (by decide) (by decide) (fun v ν hp => ?_) (fun i ν hp => nrm hp.1)
          obtain ⟨rfl, rfl, hN8, hb9⟩ := QEl hp
          show J _ _ _ _ 70 _ ([.int r7]) _ _ _ _
          rcases ifc h with ⟨hc, h⟩ | ⟨hc, h⟩
          · refine J.zeq (pc := 70) (tgt := 83) dX11_parts_70 (by decide) (fun _ => ?_) (fun q => absurd hc q)
            refine J.iconst (pc := 83) dX11_parts_83 ic_1 ?_
            refine J.goto (pc := 84) (tgt := 88) dX11_parts_84 (by decide) ?_
            refine J.istore_n (pc := 88) ([(3, .int (1 : Int32)), (0, .ref v0), (1, .int v1), (2, .int v2), (4, .int v4)]) dX11_parts_88 rfl (Nat.le_of_ble_eq_true rfl) rfl ?_
            refine J.iinc (pc := 89) (j := 4) ([(4, .int (v4 + (1 : Int32))), (3, .int (1 : Int32)), (0, .ref v0), (1, .int v1), (2, .int v2)]) dX11_parts_89 rfl (iincv ic_1) (Nat.le_of_ble_eq_true rfl) rfl ?_
            refine J.goto (pc := 92) (tgt := 41) dX11_parts_92 (by decide) ?_
            refine J.pick [2, 3, 4, 1, 0] rfl ?_
            exact ih v0 v1 v2 (1 : Int32) (v4 + (1 : Int32)) μ h hN8 k0
          · refine J.zeq (pc := 70) (tgt := 83) dX11_parts_70 (by decide) (fun q => absurd q hc) (fun _ => ?_)
            refine J.aload_n (pc := 73) dX11_parts_73 rfl 0 rfl ?_
            refine J.iconst (pc := 74) dX11_parts_74 ic_0 ?_
            refine J.iload (pc := 75) dX11_parts_75 4 rfl ?_
            obtain ⟨r11, e10, h⟩ := bnd h
            refine J.callV (Y := mX11_parts) (Z := mX11_isWhite) (pc := 77) (st := []) (k2 := 0) (n2 := 0) dX11_parts_77 ml_RX11_297 mo_X11_isWhite mv_X11_isWhite rfl (tX11_isWhite (d + 1) e10 hN8 k0) k0 (okN hN8 k0 (by decide)).1 (okN hN8 k0 (by decide)).2 cq_11 (by decide) rfl rfl (Nat.le_of_ble_eq_true rfl) (by decide) (by decide) (fun v ν hp => ?_) (fun i ν hp => nrm hp.1)
            obtain ⟨rfl, rfl, hN12, hb13⟩ := QEl hp
            show J _ _ _ _ 80 _ ([.int r11]) _ _ _ _
            rcases ifc h with ⟨hc, h⟩ | ⟨hc, h⟩
            · refine J.zne (pc := 80) (tgt := 87) dX11_parts_80 (by decide) (fun _ => ?_) (fun q => absurd hc q)
              refine J.iconst (pc := 83) dX11_parts_83 ic_1 ?_
              refine J.goto (pc := 84) (tgt := 88) dX11_parts_84 (by decide) ?_
              refine J.istore_n (pc := 88) ([(3, .int (1 : Int32)), (0, .ref v0), (1, .int v1), (2, .int v2), (4, .int v4)]) dX11_parts_88 rfl (Nat.le_of_ble_eq_true rfl) rfl ?_
              refine J.iinc (pc := 89) (j := 4) ([(4, .int (v4 + (1 : Int32))), (3, .int (1 : Int32)), (0, .ref v0), (1, .int v1), (2, .int v2)]) dX11_parts_89 rfl (iincv ic_1) (Nat.le_of_ble_eq_true rfl) rfl ?_
              refine J.goto (pc := 92) (tgt := 41) dX11_parts_92 (by decide) ?_
              refine J.pick [2, 3, 4, 1, 0] rfl ?_
              exact ih v0 v1 v2 (1 : Int32) (v4 + (1 : Int32)) μ h hN12 k0
            · refine J.zne (pc := 80) (tgt := 87) dX11_parts_80 (by decide) (fun q => absurd q hc) (fun _ => ?_)
              refine J.iconst (pc := 87) dX11_parts_87 ic_0 ?_
              refine J.istore_n (pc := 88) ([(3, .int (0 : Int32)), (0, .ref v0), (1, .int v1), (2, .int v2), (4, .int v4)]) dX11_parts_88 rfl (Nat.le_of_ble_eq_true rfl) rfl ?_
              refine J.iinc (pc := 89) (j := 4) ([(4, .int (v4 + (1 : Int32))), (3, .int (0 : Int32)), (0, .ref v0), (1, .int v1), (2, .int v2)]) dX11_parts_89 rfl (iincv ic_1) (Nat.le_of_ble_eq_true rfl) rfl ?_
              refine J.goto (pc := 92) (tgt := 41) dX11_parts_92 (by decide) ?_
              refine J.pick [2, 3, 4, 1, 0] rfl ?_
              exact ih v0 v1 v2 (0 : Int32) (v4 + (1 : Int32)) μ h hN12 k0
    · refine J.cge (pc := 44) (tgt := 95) dX11_parts_44 (by decide) (fun q => absurd q hc) (fun _ => ?_)
      refine J.iload_n (pc := 95) dX11_parts_95 rfl 1 rfl ?_
      refine J.iload_n (pc := 96) dX11_parts_96 rfl 3 rfl ?_
      rcases ifc h with ⟨hc, h⟩ | ⟨hc, h⟩
      · refine J.zeq (pc := 97) (tgt := 104) dX11_parts_97 (by decide) (fun _ => ?_) (fun q => absurd hc q)
        refine J.iconst (pc := 104) dX11_parts_104 ic_0 ?_
        refine J.iadd (pc := 105) dX11_parts_105 ?_
        refine J.istore_n (pc := 106) ([(1, .int (v1 + (0 : Int32))), (0, .ref v0), (2, .int v2), (3, .int v3), (4, .int v4)]) dX11_parts_106 rfl (Nat.le_of_ble_eq_true rfl) rfl ?_
        refine J.iinc (pc := 107) (j := 2) ([(2, .int (v2 + (1 : Int32))), (1, .int (v1 + (0 : Int32))), (0, .ref v0), (3, .int v3), (4, .int v4)]) dX11_parts_107 rfl (iincv ic_1) (Nat.le_of_ble_eq_true rfl) rfl ?_
        refine J.goto (pc := 110) (tgt := 4) dX11_parts_110 (by decide) ?_
        refine J.pick [2, 1, 0] rfl ?_
        exact hK4 v0 (v1 + (0 : Int32)) (v2 + (1 : Int32)) μ h hN k0
      · refine J.zeq (pc := 97) (tgt := 104) dX11_parts_97 (by decide) (fun q => absurd q hc) (fun _ => ?_)
        refine J.iconst (pc := 100) dX11_parts_100 ic_1 ?_
        refine J.goto (pc := 101) (tgt := 105) dX11_parts_101 (by decide) ?_
        refine J.iadd (pc := 105) dX11_parts_105 ?_
        refine J.istore_n (pc := 106) ([(1, .int (v1 + (1 : Int32))), (0, .ref v0), (2, .int v2), (3, .int v3), (4, .int v4)]) dX11_parts_106 rfl (Nat.le_of_ble_eq_true rfl) rfl ?_
        refine J.iinc (pc := 107) (j := 2) ([(2, .int (v2 + (1 : Int32))), (1, .int (v1 + (1 : Int32))), (0, .ref v0), (3, .int v3), (4, .int v4)]) dX11_parts_107 rfl (iincv ic_1) (Nat.le_of_ble_eq_true rfl) rfl ?_
        refine J.goto (pc := 110) (tgt := 4) dX11_parts_110 (by decide) ?_
        refine J.pick [2, 1, 0] rfl ?_
        exact hK4 v0 (v1 + (1 : Int32)) (v2 + (1 : Int32)) μ h hN k0
def fX11_parts_4  : Nat → Nat → Int32 → Int32 → Mem → Option (Int32 × Mem)
  | 0, _, _, _, _ => none
  | n + 1, v0, v1, v2, μ =>
    if v2 < (48 : Int32) then
      (fX11_isThere v0 v2 μ).bind fun r2 =>
      if r2 = 0 then
        (fX11_parts_4 n) v0 v1 (v2 + (1 : Int32)) μ
      else
        (fX11_isWhite v0 (0 : Int32) v2 μ).bind fun r6 =>
        if r6 = 0 then
          (fX11_parts_4 n) v0 v1 (v2 + (1 : Int32)) μ
        else
          (fX11_laysFar v0 (0 : Int32) v2 μ).bind fun μ10 =>
          (fX11_parts_41 (fX11_parts_4 n) fuel) v0 v1 v2 (1 : Int32) (0 : Int32) μ10
    else
      some (v1, μ)
set_option maxHeartbeats 4000000 in
theorem tX11_parts_4 {ω : Wd} {l : Launch} (d : Nat) {res : Int32 × Mem} : ∀ n : Nat, ∀ (v0 : Nat) (v1 : Int32) (v2 : Int32) (μ : Mem), fX11_parts_4 n v0 v1 v2 μ = some res → μ.1 = NN → (kd v0).1 = 21 → J ω l mX11_parts (d + 2) 4 [(0, .ref v0), (1, .int v1), (2, .int v2)] [] μ 0 0 (PE (.inl (some (.int res.1))) res.2 True) := by
  intro n
  induction n with
  | zero =>
    intro v0 v1 v2 μ h hN k0
    have h9 : (none : Option (Int32 × Mem)) = some res := h
    cases h9
  | succ n ih =>
    intro v0 v1 v2 μ h hN k0
    unfold fX11_parts_4 at h
    refine J.iload_n (pc := 4) dX11_parts_4 rfl 2 rfl ?_
    refine J.bipush (pc := 5) dX11_parts_5 ib_48 ?_
    rcases ifc h with ⟨hc, h⟩ | ⟨hc, h⟩
    · refine J.cge (pc := 7) (tgt := 113) dX11_parts_7 (by decide) (fun _ => ?_) (fun q => absurd hc q)
      refine J.aload_n (pc := 10) dX11_parts_10 rfl 0 rfl ?_
      refine J.iload_n (pc := 11) dX11_parts_11 rfl 2 rfl ?_
      obtain ⟨r2, e1, h⟩ := bnd h
      refine J.callV (Y := mX11_parts) (Z := mX11_isThere) (pc := 12) (st := []) (k2 := 0) (n2 := 0) dX11_parts_12 ml_RX11_332 mo_X11_isThere mv_X11_isThere rfl (tX11_isThere (d + 1) e1 hN k0) k0 (okN hN k0 (by decide)).1 (okN hN k0 (by decide)).2 cq_11 (by decide) rfl rfl (Nat.le_of_ble_eq_true rfl) (by decide) (by decide) (fun v ν hp => ?_) (fun i ν hp => nrm hp.1)
      obtain ⟨rfl, rfl, hN3, hb4⟩ := QEl hp
      show J _ _ _ _ 15 _ ([.int r2]) _ _ _ _
      rcases ifc h with ⟨hc, h⟩ | ⟨hc, h⟩
      · refine J.zeq (pc := 15) (tgt := 107) dX11_parts_15 (by decide) (fun _ => ?_) (fun q => absurd hc q)
        refine J.iinc (pc := 107) (j := 2) ([(2, .int (v2 + (1 : Int32))), (0, .ref v0), (1, .int v1)]) dX11_parts_107 rfl (iincv ic_1) (Nat.le_of_ble_eq_true rfl) rfl ?_
        refine J.goto (pc := 110) (tgt := 4) dX11_parts_110 (by decide) ?_
        refine J.pick [1, 2, 0] rfl ?_
        exact ih v0 v1 (v2 + (1 : Int32)) μ h hN3 k0
      · refine J.zeq (pc := 15) (tgt := 107) dX11_parts_15 (by decide) (fun q => absurd q hc) (fun _ => ?_)
        refine J.aload_n (pc := 18) dX11_parts_18 rfl 0 rfl ?_
        refine J.iconst (pc := 19) dX11_parts_19 ic_0 ?_
        refine J.iload_n (pc := 20) dX11_parts_20 rfl 2 rfl ?_
        obtain ⟨r6, e5, h⟩ := bnd h
        refine J.callV (Y := mX11_parts) (Z := mX11_isWhite) (pc := 21) (st := []) (k2 := 0) (n2 := 0) dX11_parts_21 ml_RX11_297 mo_X11_isWhite mv_X11_isWhite rfl (tX11_isWhite (d + 1) e5 hN3 k0) k0 (okN hN3 k0 (by decide)).1 (okN hN3 k0 (by decide)).2 cq_11 (by decide) rfl rfl (Nat.le_of_ble_eq_true rfl) (by decide) (by decide) (fun v ν hp => ?_) (fun i ν hp => nrm hp.1)
        obtain ⟨rfl, rfl, hN7, hb8⟩ := QEl hp
        show J _ _ _ _ 24 _ ([.int r6]) _ _ _ _
        rcases ifc h with ⟨hc, h⟩ | ⟨hc, h⟩
        · refine J.zne (pc := 24) (tgt := 30) dX11_parts_24 (by decide) (fun _ => ?_) (fun q => absurd hc q)
          refine J.goto (pc := 27) (tgt := 107) dX11_parts_27 (by decide) ?_
          refine J.iinc (pc := 107) (j := 2) ([(2, .int (v2 + (1 : Int32))), (0, .ref v0), (1, .int v1)]) dX11_parts_107 rfl (iincv ic_1) (Nat.le_of_ble_eq_true rfl) rfl ?_
          refine J.goto (pc := 110) (tgt := 4) dX11_parts_110 (by decide) ?_
          refine J.pick [1, 2, 0] rfl ?_
          exact ih v0 v1 (v2 + (1 : Int32)) μ h hN7 k0
        · refine J.zne (pc := 24) (tgt := 30) dX11_parts_24 (by decide) (fun q => absurd q hc) (fun _ => ?_)
          refine J.aload_n (pc := 30) dX11_parts_30 rfl 0 rfl ?_
          refine J.iconst (pc := 31) dX11_parts_31 ic_0 ?_
          refine J.iload_n (pc := 32) dX11_parts_32 rfl 2 rfl ?_
          obtain ⟨μ10, e9, h⟩ := bnd h
          refine J.callV (Y := mX11_parts) (Z := mX11_laysFar) (pc := 33) (st := []) (k2 := 0) (n2 := 0) dX11_parts_33 ml_RX11_313 mo_X11_laysFar mv_X11_laysFar rfl (tX11_laysFar d e9 hN7 k0) k0 (okN hN7 k0 (by decide)).1 (okN hN7 k0 (by decide)).2 cq_11 (by decide) rfl rfl (Nat.le_of_ble_eq_true rfl) (by decide) (by decide) (fun v ν hp => ?_) (fun i ν hp => nrm hp.1)
          obtain ⟨rfl, rfl, hN11, hb12⟩ := QEl hp
          show J _ _ _ _ 36 _ ([]) _ _ _ _
          refine J.iconst (pc := 36) dX11_parts_36 ic_1 ?_
          refine J.istore_n (pc := 37) ([(3, .int (1 : Int32)), (0, .ref v0), (1, .int v1), (2, .int v2)]) dX11_parts_37 rfl (Nat.le_of_ble_eq_true rfl) rfl ?_
          refine J.iconst (pc := 38) dX11_parts_38 ic_0 ?_
          refine J.istore (pc := 39) ([(4, .int (0 : Int32)), (3, .int (1 : Int32)), (0, .ref v0), (1, .int v1), (2, .int v2)]) dX11_parts_39 (Nat.le_of_ble_eq_true rfl) rfl ?_
          refine J.pick [2, 3, 4, 1, 0] rfl ?_
          exact (tX11_parts_41 d (fX11_parts_4 n) ih fuel) v0 v1 v2 (1 : Int32) (0 : Int32) μ10 h hN11 k0
    · refine J.cge (pc := 7) (tgt := 113) dX11_parts_7 (by decide) (fun q => absurd q hc) (fun _ => ?_)
      refine J.iload_n (pc := 113) dX11_parts_113 rfl 1 rfl ?_
      cases h
      exact J.iret (pc := 114) dX11_parts_114 rfl ⟨rfl, rfl, hN, trivial⟩
def fX11_parts (v0 : Nat) (μ : Mem) : Option (Int32 × Mem) :=
  (fX11_parts_4 fuel) v0 (0 : Int32) (0 : Int32) μ
set_option maxHeartbeats 4000000 in
theorem tX11_parts {ω : Wd} {l : Launch} (d : Nat) {v0 : Nat} {μ : Mem} {res : Int32 × Mem} (h : fX11_parts v0 μ = some res) (hN : μ.1 = NN) (k0 : (kd v0).1 = 21) : Ct ω l mX11_parts (d + 2) [.ref v0] μ 0 0 (PE (.inl (some (.int res.1))) res.2 True) := by
  refine Ct.of pn_RX11 (Nat.le_of_ble_eq_true rfl) ?_
  show J ω l mX11_parts (d + 2) 0 [(0, .ref v0)] [] μ 0 0 _
  unfold fX11_parts at h
  refine J.iconst (pc := 0) dX11_parts_0 ic_0 ?_
  refine J.istore_n (pc := 1) ([(1, .int (0 : Int32)), (0, .ref v0)]) dX11_parts_1 rfl (Nat.le_of_ble_eq_true rfl) rfl ?_
  refine J.iconst (pc := 2) dX11_parts_2 ic_0 ?_
  refine J.istore_n (pc := 3) ([(2, .int (0 : Int32)), (1, .int (0 : Int32)), (0, .ref v0)]) dX11_parts_3 rfl (Nat.le_of_ble_eq_true rfl) rfl ?_
  refine J.pick [2, 1, 0] rfl ?_
  exact (tX11_parts_4 d fuel) v0 (0 : Int32) (0 : Int32) μ h hN k0
def fX11_sentOnes_4 (μ : Mem) : Nat → Nat → Int32 → Int32 → Option (Int32)
  | 0, _, _, _ => none
  | n + 1, v0, v1, v2 =>
    if v2 < (μ.2.1 v0 2) then
      (gR μ v0 34 0).bind fun a1 =>
      (ldI μ a1 ((61 : Int32) + v2)).bind fun x4 =>
      if x4 = (-1 : Int32) then
        (fX11_sentOnes_4 μ n) v0 (v1 ||| (0 : Int32)) (v2 + (1 : Int32))
      else
        (fX11_sentOnes_4 μ n) v0 (v1 ||| ((1 : Int32) <<< (v2 &&& 31))) (v2 + (1 : Int32))
    else
      some v1
set_option maxHeartbeats 4000000 in
theorem tX11_sentOnes_4 {ω : Wd} {l : Launch} (d : Nat) {μ : Mem} (hN : μ.1 = NN) {res : Int32} : ∀ n : Nat, ∀ (v0 : Nat) (v1 : Int32) (v2 : Int32), fX11_sentOnes_4 μ n v0 v1 v2 = some res → (kd v0).1 = 21 → J ω l mX11_sentOnes d 4 [(0, .ref v0), (1, .int v1), (2, .int v2)] [] μ 0 0 (PE (.inl (some (.int res))) μ True) := by
  intro n
  induction n with
  | zero =>
    intro v0 v1 v2 h k0
    have h9 : (none : Option (Int32)) = some res := h
    cases h9
  | succ n ih =>
    intro v0 v1 v2 h k0
    unfold fX11_sentOnes_4 at h
    refine J.iload_n (pc := 4) dX11_sentOnes_4 rfl 2 rfl ?_
    refine J.aload_n (pc := 5) dX11_sentOnes_5 rfl 0 rfl ?_
    refine J.fI (pc := 6) dX11_sentOnes_6 fl_RX11_276 k0 (okN hN k0 (by decide)) (Or.inl rfl) ?_
    rcases ifc h with ⟨hc, h⟩ | ⟨hc, h⟩
    · refine J.cge (pc := 9) (tgt := 41) dX11_sentOnes_9 (by decide) (fun _ => ?_) (fun q => absurd hc q)
      refine J.iload_n (pc := 12) dX11_sentOnes_12 rfl 1 rfl ?_
      refine J.aload_n (pc := 13) dX11_sentOnes_13 rfl 0 rfl ?_
      obtain ⟨a1, e2, h⟩ := bnd h
      have k3 : (kd a1).1 = 0 := gR_k e2
      refine J.fR (pc := 14) dX11_sentOnes_14 fl_RX11_48 k0 (okN hN k0 (by decide)) rfl e2 ?_
      refine J.bipush (pc := 17) dX11_sentOnes_17 ib_61 ?_
      refine J.iload_n (pc := 19) dX11_sentOnes_19 rfl 2 rfl ?_
      refine J.iadd (pc := 20) dX11_sentOnes_20 ?_
      obtain ⟨x4, e5, h⟩ := bnd h
      refine J.aI (pc := 21) dX11_sentOnes_21 k3 (okN hN k3 (by decide)) e5 ?_
      refine J.iconst (pc := 22) dX11_sentOnes_22 ic_m1 ?_
      rcases ifc h with ⟨hc, h⟩ | ⟨hc, h⟩
      · refine J.ceq (pc := 23) (tgt := 32) dX11_sentOnes_23 (by decide) (fun _ => ?_) (fun q => absurd hc q)
        refine J.iconst (pc := 32) dX11_sentOnes_32 ic_0 ?_
        refine J.ior (pc := 33) dX11_sentOnes_33 ?_
        refine J.istore_n (pc := 34) ([(1, .int (v1 ||| (0 : Int32))), (0, .ref v0), (2, .int v2)]) dX11_sentOnes_34 rfl (Nat.le_of_ble_eq_true rfl) rfl ?_
        refine J.iinc (pc := 35) (j := 2) ([(2, .int (v2 + (1 : Int32))), (1, .int (v1 ||| (0 : Int32))), (0, .ref v0)]) dX11_sentOnes_35 rfl (iincv ic_1) (Nat.le_of_ble_eq_true rfl) rfl ?_
        refine J.goto (pc := 38) (tgt := 4) dX11_sentOnes_38 (by decide) ?_
        refine J.pick [2, 1, 0] rfl ?_
        exact ih v0 (v1 ||| (0 : Int32)) (v2 + (1 : Int32)) h k0
      · refine J.ceq (pc := 23) (tgt := 32) dX11_sentOnes_23 (by decide) (fun q => absurd q hc) (fun _ => ?_)
        refine J.iconst (pc := 26) dX11_sentOnes_26 ic_1 ?_
        refine J.iload_n (pc := 27) dX11_sentOnes_27 rfl 2 rfl ?_
        refine J.ishl (pc := 28) dX11_sentOnes_28 ?_
        refine J.goto (pc := 29) (tgt := 33) dX11_sentOnes_29 (by decide) ?_
        refine J.ior (pc := 33) dX11_sentOnes_33 ?_
        refine J.istore_n (pc := 34) ([(1, .int (v1 ||| ((1 : Int32) <<< (v2 &&& 31)))), (0, .ref v0), (2, .int v2)]) dX11_sentOnes_34 rfl (Nat.le_of_ble_eq_true rfl) rfl ?_
        refine J.iinc (pc := 35) (j := 2) ([(2, .int (v2 + (1 : Int32))), (1, .int (v1 ||| ((1 : Int32) <<< (v2 &&& 31)))), (0, .ref v0)]) dX11_sentOnes_35 rfl (iincv ic_1) (Nat.le_of_ble_eq_true rfl) rfl ?_
        refine J.goto (pc := 38) (tgt := 4) dX11_sentOnes_38 (by decide) ?_
        refine J.pick [2, 1, 0] rfl ?_
        exact ih v0 (v1 ||| ((1 : Int32) <<< (v2 &&& 31))) (v2 + (1 : Int32)) h k0
    · refine J.cge (pc := 9) (tgt := 41) dX11_sentOnes_9 (by decide) (fun q => absurd q hc) (fun _ => ?_)
      refine J.iload_n (pc := 41) dX11_sentOnes_41 rfl 1 rfl ?_
      cases h
      exact J.iret (pc := 42) dX11_sentOnes_42 rfl ⟨rfl, rfl, hN, trivial⟩
def fX11_sentOnes (v0 : Nat) (μ : Mem) : Option (Int32) :=
  (fX11_sentOnes_4 μ fuel) v0 (0 : Int32) (0 : Int32)
set_option maxHeartbeats 4000000 in
theorem tX11_sentOnes {ω : Wd} {l : Launch} (d : Nat) {v0 : Nat} {μ : Mem} {res : Int32} (h : fX11_sentOnes v0 μ = some res) (hN : μ.1 = NN) (k0 : (kd v0).1 = 21) : Ct ω l mX11_sentOnes d [.ref v0] μ 0 0 (PE (.inl (some (.int res))) μ True) := by
  refine Ct.of pn_RX11 (Nat.le_of_ble_eq_true rfl) ?_
  show J ω l mX11_sentOnes d 0 [(0, .ref v0)] [] μ 0 0 _
  unfold fX11_sentOnes at h
  refine J.iconst (pc := 0) dX11_sentOnes_0 ic_0 ?_
  refine J.istore_n (pc := 1) ([(1, .int (0 : Int32)), (0, .ref v0)]) dX11_sentOnes_1 rfl (Nat.le_of_ble_eq_true rfl) rfl ?_
  refine J.iconst (pc := 2) dX11_sentOnes_2 ic_0 ?_
  refine J.istore_n (pc := 3) ([(2, .int (0 : Int32)), (1, .int (0 : Int32)), (0, .ref v0)]) dX11_sentOnes_3 rfl (Nat.le_of_ble_eq_true rfl) rfl ?_
  refine J.pick [2, 1, 0] rfl ?_
  exact (tX11_sentOnes_4 d hN fuel) v0 (0 : Int32) (0 : Int32) h k0
def fX11_stiles_14 (μ : Mem) (K4 : Nat → Int32 → Int32 → Option (Int32)) : Nat → Nat → Int32 → Int32 → Int32 → Option (Int32)
  | 0, _, _, _, _ => none
  | n + 1, v0, v1, v2, v3 =>
    if v3 < (8 : Int32) then
      (gR μ v0 34 0).bind fun a1 =>
      (ldI μ a1 ((49 : Int32) + v2)).bind fun x4 =>
      (fX11_stiles_14 μ K4 n) v0 (v1 + ((x4 >>> (v3 &&& 31)) &&& (1 : Int32))) v2 (v3 + (1 : Int32))
    else
      K4 v0 v1 (v2 + (1 : Int32))
set_option maxHeartbeats 4000000 in
theorem tX11_stiles_14 {ω : Wd} {l : Launch} (d : Nat) {μ : Mem} (hN : μ.1 = NN) {res : Int32} (K4 : Nat → Int32 → Int32 → Option (Int32)) (hK4 : ∀ (v0 : Nat) (v1 : Int32) (v2 : Int32), K4 v0 v1 v2 = some res → (kd v0).1 = 21 → J ω l mX11_stiles d 4 [(0, .ref v0), (1, .int v1), (2, .int v2)] [] μ 0 0 (PE (.inl (some (.int res))) μ True)) : ∀ n : Nat, ∀ (v0 : Nat) (v1 : Int32) (v2 : Int32) (v3 : Int32), fX11_stiles_14 μ K4 n v0 v1 v2 v3 = some res → (kd v0).1 = 21 → J ω l mX11_stiles d 14 [(0, .ref v0), (1, .int v1), (2, .int v2), (3, .int v3)] [] μ 0 0 (PE (.inl (some (.int res))) μ True) := by
  intro n
  induction n with
  | zero =>
    intro v0 v1 v2 v3 h k0
    have h9 : (none : Option (Int32)) = some res := h
    cases h9
  | succ n ih =>
    intro v0 v1 v2 v3 h k0
    unfold fX11_stiles_14 at h
    refine J.iload_n (pc := 14) dX11_stiles_14 rfl 3 rfl ?_
    refine J.bipush (pc := 15) dX11_stiles_15 ib_8 ?_
    rcases ifc h with ⟨hc, h⟩ | ⟨hc, h⟩
    · refine J.cge (pc := 17) (tgt := 42) dX11_stiles_17 (by decide) (fun _ => ?_) (fun q => absurd hc q)
      refine J.iload_n (pc := 20) dX11_stiles_20 rfl 1 rfl ?_
      refine J.aload_n (pc := 21) dX11_stiles_21 rfl 0 rfl ?_
      obtain ⟨a1, e2, h⟩ := bnd h
      have k3 : (kd a1).1 = 0 := gR_k e2
      refine J.fR (pc := 22) dX11_stiles_22 fl_RX11_48 k0 (okN hN k0 (by decide)) rfl e2 ?_
      refine J.bipush (pc := 25) dX11_stiles_25 ib_49 ?_
      refine J.iload_n (pc := 27) dX11_stiles_27 rfl 2 rfl ?_
      refine J.iadd (pc := 28) dX11_stiles_28 ?_
      obtain ⟨x4, e5, h⟩ := bnd h
      refine J.aI (pc := 29) dX11_stiles_29 k3 (okN hN k3 (by decide)) e5 ?_
      refine J.iload_n (pc := 30) dX11_stiles_30 rfl 3 rfl ?_
      refine J.ishr (pc := 31) dX11_stiles_31 ?_
      refine J.iconst (pc := 32) dX11_stiles_32 ic_1 ?_
      refine J.iand (pc := 33) dX11_stiles_33 ?_
      refine J.iadd (pc := 34) dX11_stiles_34 ?_
      refine J.istore_n (pc := 35) ([(1, .int (v1 + ((x4 >>> (v3 &&& 31)) &&& (1 : Int32)))), (0, .ref v0), (2, .int v2), (3, .int v3)]) dX11_stiles_35 rfl (Nat.le_of_ble_eq_true rfl) rfl ?_
      refine J.iinc (pc := 36) (j := 3) ([(3, .int (v3 + (1 : Int32))), (1, .int (v1 + ((x4 >>> (v3 &&& 31)) &&& (1 : Int32)))), (0, .ref v0), (2, .int v2)]) dX11_stiles_36 rfl (iincv ic_1) (Nat.le_of_ble_eq_true rfl) rfl ?_
      refine J.goto (pc := 39) (tgt := 14) dX11_stiles_39 (by decide) ?_
      refine J.pick [2, 1, 3, 0] rfl ?_
      exact ih v0 (v1 + ((x4 >>> (v3 &&& 31)) &&& (1 : Int32))) v2 (v3 + (1 : Int32)) h k0
    · refine J.cge (pc := 17) (tgt := 42) dX11_stiles_17 (by decide) (fun q => absurd q hc) (fun _ => ?_)
      refine J.iinc (pc := 42) (j := 2) ([(2, .int (v2 + (1 : Int32))), (0, .ref v0), (1, .int v1), (3, .int v3)]) dX11_stiles_42 rfl (iincv ic_1) (Nat.le_of_ble_eq_true rfl) rfl ?_
      refine J.goto (pc := 45) (tgt := 4) dX11_stiles_45 (by decide) ?_
      refine J.pick [1, 2, 0] rfl ?_
      exact hK4 v0 v1 (v2 + (1 : Int32)) h k0
def fX11_stiles_4 (μ : Mem) : Nat → Nat → Int32 → Int32 → Option (Int32)
  | 0, _, _, _ => none
  | n + 1, v0, v1, v2 =>
    if v2 < (μ.2.1 v0 1) then
      (fX11_stiles_14 μ (fX11_stiles_4 μ n) fuel) v0 v1 v2 (0 : Int32)
    else
      some v1
set_option maxHeartbeats 4000000 in
theorem tX11_stiles_4 {ω : Wd} {l : Launch} (d : Nat) {μ : Mem} (hN : μ.1 = NN) {res : Int32} : ∀ n : Nat, ∀ (v0 : Nat) (v1 : Int32) (v2 : Int32), fX11_stiles_4 μ n v0 v1 v2 = some res → (kd v0).1 = 21 → J ω l mX11_stiles d 4 [(0, .ref v0), (1, .int v1), (2, .int v2)] [] μ 0 0 (PE (.inl (some (.int res))) μ True) := by
  intro n
  induction n with
  | zero =>
    intro v0 v1 v2 h k0
    have h9 : (none : Option (Int32)) = some res := h
    cases h9
  | succ n ih =>
    intro v0 v1 v2 h k0
    unfold fX11_stiles_4 at h
    refine J.iload_n (pc := 4) dX11_stiles_4 rfl 2 rfl ?_
    refine J.aload_n (pc := 5) dX11_stiles_5 rfl 0 rfl ?_
    refine J.fI (pc := 6) dX11_stiles_6 fl_RX11_273 k0 (okN hN k0 (by decide)) (Or.inl rfl) ?_
    rcases ifc h with ⟨hc, h⟩ | ⟨hc, h⟩
    · refine J.cge (pc := 9) (tgt := 48) dX11_stiles_9 (by decide) (fun _ => ?_) (fun q => absurd hc q)
      refine J.iconst (pc := 12) dX11_stiles_12 ic_0 ?_
      refine J.istore_n (pc := 13) ([(3, .int (0 : Int32)), (0, .ref v0), (1, .int v1), (2, .int v2)]) dX11_stiles_13 rfl (Nat.le_of_ble_eq_true rfl) rfl ?_
      refine J.pick [1, 2, 3, 0] rfl ?_
      exact (tX11_stiles_14 d hN (fX11_stiles_4 μ n) ih fuel) v0 v1 v2 (0 : Int32) h k0
    · refine J.cge (pc := 9) (tgt := 48) dX11_stiles_9 (by decide) (fun q => absurd q hc) (fun _ => ?_)
      refine J.iload_n (pc := 48) dX11_stiles_48 rfl 1 rfl ?_
      cases h
      exact J.iret (pc := 49) dX11_stiles_49 rfl ⟨rfl, rfl, hN, trivial⟩
def fX11_stiles (v0 : Nat) (μ : Mem) : Option (Int32) :=
  (fX11_stiles_4 μ fuel) v0 (0 : Int32) (0 : Int32)
set_option maxHeartbeats 4000000 in
theorem tX11_stiles {ω : Wd} {l : Launch} (d : Nat) {v0 : Nat} {μ : Mem} {res : Int32} (h : fX11_stiles v0 μ = some res) (hN : μ.1 = NN) (k0 : (kd v0).1 = 21) : Ct ω l mX11_stiles d [.ref v0] μ 0 0 (PE (.inl (some (.int res))) μ True) := by
  refine Ct.of pn_RX11 (Nat.le_of_ble_eq_true rfl) ?_
  show J ω l mX11_stiles d 0 [(0, .ref v0)] [] μ 0 0 _
  unfold fX11_stiles at h
  refine J.iconst (pc := 0) dX11_stiles_0 ic_0 ?_
  refine J.istore_n (pc := 1) ([(1, .int (0 : Int32)), (0, .ref v0)]) dX11_stiles_1 rfl (Nat.le_of_ble_eq_true rfl) rfl ?_
  refine J.iconst (pc := 2) dX11_stiles_2 ic_0 ?_
  refine J.istore_n (pc := 3) ([(2, .int (0 : Int32)), (1, .int (0 : Int32)), (0, .ref v0)]) dX11_stiles_3 rfl (Nat.le_of_ble_eq_true rfl) rfl ?_
  refine J.pick [2, 1, 0] rfl ?_
  exact (tX11_stiles_4 d hN fuel) v0 (0 : Int32) (0 : Int32) h k0
