def fX11_goesTo (v0 : Nat) (v1 : Int32) (μ : Mem) : Option (Mem) :=
  (fX11_tries v0 μ).bind fun μ2 =>
  (fX11_daysGo v0 v1 μ2).bind fun μ6 =>
  some μ6
set_option maxHeartbeats 4000000 in
theorem tX11_goesTo {ω : Wd} {l : Launch} (d : Nat) {v0 : Nat} {v1 : Int32} {μ : Mem} {res : Mem} (h : fX11_goesTo v0 v1 μ = some res) (hN : μ.1 = NN) (k0 : (kd v0).1 = 21) : Ct ω l mX11_goesTo (d + 6) [.ref v0, .int v1] μ 0 0 (PE (.inl none) res True) := by
  refine Ct.of pn_RX11 (Nat.le_of_ble_eq_true rfl) ?_
  show J ω l mX11_goesTo (d + 6) 0 [(0, .ref v0), (1, .int v1)] [] μ 0 0 _
  unfold fX11_goesTo at h
  refine J.aload_n (pc := 0) dX11_goesTo_0 rfl 0 rfl ?_
  obtain ⟨μ2, e1, h⟩ := bnd h
  refine J.callV (Y := mX11_goesTo) (Z := mX11_tries) (pc := 1) (st := []) (k2 := 0) (n2 := 0) dX11_goesTo_1 ml_RX11_389 mo_X11_tries mv_X11_tries rfl (tX11_tries (d + 5) e1 hN k0) k0 (okN hN k0 (by decide)).1 (okN hN k0 (by decide)).2 cq_11 (by decide) rfl rfl (Nat.le_of_ble_eq_true rfl) (by decide) (by decide) (fun v ν hp => ?_) (fun i ν hp => nrm hp.1)
  obtain ⟨rfl, rfl, hN3, hb4⟩ := QEl hp
  show J _ _ _ _ 4 _ ([]) _ _ _ _
  refine J.aload_n (pc := 4) dX11_goesTo_4 rfl 0 rfl ?_
  refine J.iload_n (pc := 5) dX11_goesTo_5 rfl 1 rfl ?_
  obtain ⟨μ6, e5, h⟩ := bnd h
  refine J.callV (Y := mX11_goesTo) (Z := mX11_daysGo) (pc := 6) (st := []) (k2 := 0) (n2 := 0) dX11_goesTo_6 ml_RX11_392 mo_X11_daysGo mv_X11_daysGo rfl (tX11_daysGo d e5 hN3 k0) k0 (okN hN3 k0 (by decide)).1 (okN hN3 k0 (by decide)).2 cq_11 (by decide) rfl rfl (Nat.le_of_ble_eq_true rfl) (by decide) (by decide) (fun v ν hp => ?_) (fun i ν hp => nrm hp.1)
  obtain ⟨rfl, rfl, hN7, hb8⟩ := QEl hp
  show J _ _ _ _ 9 _ ([]) _ _ _ _
  cases h
  exact J.vret (pc := 9) dX11_goesTo_9 rfl ⟨rfl, rfl, hN7, trivial⟩
def fX11_gone_34  : Nat → Nat → Int32 → Int32 → Int32 → Int32 → Mem → Option (Int32 × Mem)
  | 0, _, _, _, _, _, _ => none
  | n + 1, v0, v1, v2, v3, v4, μ =>
    if v4 < v2 then
      (fX11_dayGoes v0 (79 : Int32) μ).bind fun μ2 =>
      (gR μ2 v0 44 0).bind fun a5 =>
      (ldI μ2 a5 v1).bind fun x8 =>
      (fX11_gone_34 n) v0 v1 v2 (v3 + x8) (v4 + (1 : Int32)) μ2
    else
      some (v3, μ)
set_option maxHeartbeats 4000000 in
theorem tX11_gone_34 {ω : Wd} {l : Launch} (d : Nat) {res : Int32 × Mem} : ∀ n : Nat, ∀ (v0 : Nat) (v1 : Int32) (v2 : Int32) (v3 : Int32) (v4 : Int32) (μ : Mem), fX11_gone_34 n v0 v1 v2 v3 v4 μ = some res → μ.1 = NN → (kd v0).1 = 21 → J ω l mX11_gone (d + 5) 34 [(0, .ref v0), (1, .int v1), (2, .int v2), (3, .int v3), (4, .int v4)] [] μ 0 0 (PE (.inl (some (.int res.1))) res.2 True) := by
  intro n
  induction n with
  | zero =>
    intro v0 v1 v2 v3 v4 μ h hN k0
    have h9 : (none : Option (Int32 × Mem)) = some res := h
    cases h9
  | succ n ih =>
    intro v0 v1 v2 v3 v4 μ h hN k0
    unfold fX11_gone_34 at h
    refine J.iload (pc := 34) dX11_gone_34 4 rfl ?_
    refine J.iload_n (pc := 36) dX11_gone_36 rfl 2 rfl ?_
    rcases ifc h with ⟨hc, h⟩ | ⟨hc, h⟩
    · refine J.cge (pc := 37) (tgt := 61) dX11_gone_37 (by decide) (fun _ => ?_) (fun q => absurd hc q)
      refine J.aload_n (pc := 40) dX11_gone_40 rfl 0 rfl ?_
      refine J.bipush (pc := 41) dX11_gone_41 ib_79 ?_
      obtain ⟨μ2, e1, h⟩ := bnd h
      refine J.callV (Y := mX11_gone) (Z := mX11_dayGoes) (pc := 43) (st := []) (k2 := 0) (n2 := 0) dX11_gone_43 ml_RX11_341 mo_X11_dayGoes mv_X11_dayGoes rfl (tX11_dayGoes d e1 hN k0) k0 (okN hN k0 (by decide)).1 (okN hN k0 (by decide)).2 cq_11 (by decide) rfl rfl (Nat.le_of_ble_eq_true rfl) (by decide) (by decide) (fun v ν hp => ?_) (fun i ν hp => nrm hp.1)
      obtain ⟨rfl, rfl, hN3, hb4⟩ := QEl hp
      show J _ _ _ _ 46 _ ([]) _ _ _ _
      refine J.iload_n (pc := 46) dX11_gone_46 rfl 3 rfl ?_
      refine J.aload_n (pc := 47) dX11_gone_47 rfl 0 rfl ?_
      obtain ⟨a5, e6, h⟩ := bnd h
      have k7 : (kd a5).1 = 0 := gR_k e6
      refine J.fR (pc := 48) dX11_gone_48 fl_RX11_69 k0 (okN hN3 k0 (by decide)) rfl e6 ?_
      refine J.iload_n (pc := 51) dX11_gone_51 rfl 1 rfl ?_
      obtain ⟨x8, e9, h⟩ := bnd h
      refine J.aI (pc := 52) dX11_gone_52 k7 (okN hN3 k7 (by decide)) e9 ?_
      refine J.iadd (pc := 53) dX11_gone_53 ?_
      refine J.istore_n (pc := 54) ([(3, .int (v3 + x8)), (0, .ref v0), (1, .int v1), (2, .int v2), (4, .int v4)]) dX11_gone_54 rfl (Nat.le_of_ble_eq_true rfl) rfl ?_
      refine J.iinc (pc := 55) (j := 4) ([(4, .int (v4 + (1 : Int32))), (3, .int (v3 + x8)), (0, .ref v0), (1, .int v1), (2, .int v2)]) dX11_gone_55 rfl (iincv ic_1) (Nat.le_of_ble_eq_true rfl) rfl ?_
      refine J.goto (pc := 58) (tgt := 34) dX11_gone_58 (by decide) ?_
      refine J.pick [2, 3, 4, 1, 0] rfl ?_
      exact ih v0 v1 v2 (v3 + x8) (v4 + (1 : Int32)) μ2 h hN3 k0
    · refine J.cge (pc := 37) (tgt := 61) dX11_gone_37 (by decide) (fun q => absurd q hc) (fun _ => ?_)
      refine J.iload_n (pc := 61) dX11_gone_61 rfl 3 rfl ?_
      cases h
      exact J.iret (pc := 62) dX11_gone_62 rfl ⟨rfl, rfl, hN, trivial⟩
def fX11_gone (v0 : Nat) (v1 : Int32) (v2 : Int32) (μ : Mem) : Option (Int32 × Mem) :=
  (some (sI μ v0 0 (0 : Int32))).bind fun μ1 =>
  (fX11_isPerson v0 v1 μ1).bind fun (r6, μ5) =>
  if r6 = 0 then
    some ((0 : Int32), μ5)
  else
    (fX11_isSoon v0 v2 (0 : Int32) (2 : Int32) μ5).bind fun (r11, μ10) =>
    if r11 = 0 then
      some ((0 : Int32), μ10)
    else
      (fX11_tries v0 μ10).bind fun μ15 =>
      (fX11_gone_34 fuel) v0 v1 v2 (0 : Int32) (0 : Int32) μ15
set_option maxHeartbeats 4000000 in
theorem tX11_gone {ω : Wd} {l : Launch} (d : Nat) {v0 : Nat} {v1 : Int32} {v2 : Int32} {μ : Mem} {res : Int32 × Mem} (h : fX11_gone v0 v1 v2 μ = some res) (hN : μ.1 = NN) (k0 : (kd v0).1 = 21) : Ct ω l mX11_gone (d + 5) [.ref v0, .int v1, .int v2] μ 0 0 (PE (.inl (some (.int res.1))) res.2 True) := by
  refine Ct.of pn_RX11 (Nat.le_of_ble_eq_true rfl) ?_
  show J ω l mX11_gone (d + 5) 0 [(0, .ref v0), (1, .int v1), (2, .int v2)] [] μ 0 0 _
  unfold fX11_gone at h
  refine J.aload_n (pc := 0) dX11_gone_0 rfl 0 rfl ?_
  refine J.iconst (pc := 1) dX11_gone_1 ic_0 ?_
  obtain ⟨μ1, e2, h⟩ := bnd h
  have hN3 : μ1.1 = NN := smN e2 hN
  refine J.qI (pc := 2) dX11_gone_2 fl_RX11_99 k0 (okN hN k0 (by decide)) rfl rfl e2 ?_
  refine J.aload_n (pc := 5) dX11_gone_5 rfl 0 rfl ?_
  refine J.iload_n (pc := 6) dX11_gone_6 rfl 1 rfl ?_
  obtain ⟨⟨r6, μ5⟩, e4, h⟩ := bnd h
  try dsimp only at h
  refine J.callV (Y := mX11_gone) (Z := mX11_isPerson) (pc := 7) (st := []) (k2 := 0) (n2 := 0) dX11_gone_7 ml_RX11_368 mo_X11_isPerson mv_X11_isPerson rfl (tX11_isPerson (d + 3) e4 hN3 k0) k0 (okN hN3 k0 (by decide)).1 (okN hN3 k0 (by decide)).2 cq_11 (by decide) rfl rfl (Nat.le_of_ble_eq_true rfl) (by decide) (by decide) (fun v ν hp => ?_) (fun i ν hp => nrm hp.1)
  obtain ⟨rfl, rfl, hN7, hb8⟩ := QEl hp
  show J _ _ _ _ 10 _ ([.int r6]) _ _ _ _
  rcases ifc h with ⟨hc, h⟩ | ⟨hc, h⟩
  · refine J.zeq (pc := 10) (tgt := 23) dX11_gone_10 (by decide) (fun _ => ?_) (fun q => absurd hc q)
    refine J.iconst (pc := 23) dX11_gone_23 ic_0 ?_
    cases h
    exact J.iret (pc := 24) dX11_gone_24 rfl ⟨rfl, rfl, hN7, trivial⟩
  · refine J.zeq (pc := 10) (tgt := 23) dX11_gone_10 (by decide) (fun q => absurd q hc) (fun _ => ?_)
    refine J.aload_n (pc := 13) dX11_gone_13 rfl 0 rfl ?_
    refine J.iload_n (pc := 14) dX11_gone_14 rfl 2 rfl ?_
    refine J.iconst (pc := 15) dX11_gone_15 ic_0 ?_
    refine J.iconst (pc := 16) dX11_gone_16 ic_2 ?_
    obtain ⟨⟨r11, μ10⟩, e9, h⟩ := bnd h
    try dsimp only at h
    refine J.callV (Y := mX11_gone) (Z := mX11_isSoon) (pc := 17) (st := []) (k2 := 0) (n2 := 0) dX11_gone_17 ml_RX11_395 mo_X11_isSoon mv_X11_isSoon rfl (tX11_isSoon (d + 3) e9 hN7 k0) k0 (okN hN7 k0 (by decide)).1 (okN hN7 k0 (by decide)).2 cq_11 (by decide) rfl rfl (Nat.le_of_ble_eq_true rfl) (by decide) (by decide) (fun v ν hp => ?_) (fun i ν hp => nrm hp.1)
    obtain ⟨rfl, rfl, hN12, hb13⟩ := QEl hp
    show J _ _ _ _ 20 _ ([.int r11]) _ _ _ _
    rcases ifc h with ⟨hc, h⟩ | ⟨hc, h⟩
    · refine J.zne (pc := 20) (tgt := 25) dX11_gone_20 (by decide) (fun _ => ?_) (fun q => absurd hc q)
      refine J.iconst (pc := 23) dX11_gone_23 ic_0 ?_
      cases h
      exact J.iret (pc := 24) dX11_gone_24 rfl ⟨rfl, rfl, hN12, trivial⟩
    · refine J.zne (pc := 20) (tgt := 25) dX11_gone_20 (by decide) (fun q => absurd q hc) (fun _ => ?_)
      refine J.iconst (pc := 25) dX11_gone_25 ic_0 ?_
      refine J.istore_n (pc := 26) ([(3, .int (0 : Int32)), (0, .ref v0), (1, .int v1), (2, .int v2)]) dX11_gone_26 rfl (Nat.le_of_ble_eq_true rfl) rfl ?_
      refine J.aload_n (pc := 27) dX11_gone_27 rfl 1 rfl ?_
      obtain ⟨μ15, e14, h⟩ := bnd h
      refine J.callV (Y := mX11_gone) (Z := mX11_tries) (pc := 28) (st := []) (k2 := 0) (n2 := 0) dX11_gone_28 ml_RX11_389 mo_X11_tries mv_X11_tries rfl (tX11_tries (d + 4) e14 hN12 k0) k0 (okN hN12 k0 (by decide)).1 (okN hN12 k0 (by decide)).2 cq_11 (by decide) rfl rfl (Nat.le_of_ble_eq_true rfl) (by decide) (by decide) (fun v ν hp => ?_) (fun i ν hp => nrm hp.1)
      obtain ⟨rfl, rfl, hN16, hb17⟩ := QEl hp
      show J _ _ _ _ 31 _ ([]) _ _ _ _
      refine J.iconst (pc := 31) dX11_gone_31 ic_0 ?_
      refine J.istore (pc := 32) ([(4, .int (0 : Int32)), (3, .int (0 : Int32)), (0, .ref v0), (1, .int v1), (2, .int v2)]) dX11_gone_32 (Nat.le_of_ble_eq_true rfl) rfl ?_
      refine J.pick [2, 3, 4, 1, 0] rfl ?_
      exact (tX11_gone_34 d fuel) v0 v1 v2 (0 : Int32) (0 : Int32) μ15 h hN16 k0
def fX11_happens (v0 : Nat) (μ : Mem) : Option (Mem) :=
  (fX11_draw v0 (5 : Int32) μ).bind fun (r3, μ2) =>
  if (1 : Int32) < r3 then
    some μ2
  else
    if (μ2.2.1 v0 1) = 0 then
      some μ2
    else
      if r3 = 0 then
        if (μ2.2.1 v0 2) = 0 then
          some μ2
        else
          if r3 = 0 then
            (fX11_draw v0 (μ2.2.1 v0 2) μ2).bind fun (r8, μ7) =>
            (gR μ7 v0 34 0).bind fun a11 =>
            (fX11_drawPlace v0 μ7).bind fun (r16, μ15) =>
            (stI μ15 a11 ((140 : Int32) + r8) r16).bind fun μ19 =>
            some μ19
          else
            (fX11_drawPlace v0 μ2).bind fun (r24, μ23) =>
            (gR μ23 v0 34 0).bind fun a27 =>
            (fX11_draw v0 (4 : Int32) μ23).bind fun (r32, μ31) =>
            (stI μ31 a27 ((80 : Int32) + r24) r32).bind fun μ35 =>
            some μ35
      else
        if r3 = 0 then
          (fX11_draw v0 (μ2.2.1 v0 2) μ2).bind fun (r40, μ39) =>
          (gR μ39 v0 34 0).bind fun a43 =>
          (fX11_drawPlace v0 μ39).bind fun (r48, μ47) =>
          (stI μ47 a43 ((140 : Int32) + r40) r48).bind fun μ51 =>
          some μ51
        else
          (fX11_drawPlace v0 μ2).bind fun (r56, μ55) =>
          (gR μ55 v0 34 0).bind fun a59 =>
          (fX11_draw v0 (4 : Int32) μ55).bind fun (r64, μ63) =>
          (stI μ63 a59 ((80 : Int32) + r56) r64).bind fun μ67 =>
          some μ67
set_option maxHeartbeats 4000000 in
theorem tX11_happens {ω : Wd} {l : Launch} (d : Nat) {v0 : Nat} {μ : Mem} {res : Mem} (h : fX11_happens v0 μ = some res) (hN : μ.1 = NN) (k0 : (kd v0).1 = 21) : Ct ω l mX11_happens (d + 2) [.ref v0] μ 0 0 (PE (.inl none) res True) := by
  refine Ct.of pn_RX11 (Nat.le_of_ble_eq_true rfl) ?_
  show J ω l mX11_happens (d + 2) 0 [(0, .ref v0)] [] μ 0 0 _
  unfold fX11_happens at h
  refine J.aload_n (pc := 0) dX11_happens_0 rfl 0 rfl ?_
  refine J.iconst (pc := 1) dX11_happens_1 ic_5 ?_
  obtain ⟨⟨r3, μ2⟩, e1, h⟩ := bnd h
  try dsimp only at h
  refine J.callV (Y := mX11_happens) (Z := mX11_draw) (pc := 2) (st := []) (k2 := 0) (n2 := 0) dX11_happens_2 ml_RX11_433 mo_X11_draw mv_X11_draw rfl (tX11_draw (d + 1) e1 hN k0) k0 (okN hN k0 (by decide)).1 (okN hN k0 (by decide)).2 cq_11 (by decide) rfl rfl (Nat.le_of_ble_eq_true rfl) (by decide) (by decide) (fun v ν hp => ?_) (fun i ν hp => nrm hp.1)
  obtain ⟨rfl, rfl, hN4, hb5⟩ := QEl hp
  show J _ _ _ _ 5 _ ([.int r3]) _ _ _ _
  refine J.istore_n (pc := 5) ([(1, .int r3), (0, .ref v0)]) dX11_happens_5 rfl (Nat.le_of_ble_eq_true rfl) rfl ?_
  refine J.iload_n (pc := 6) dX11_happens_6 rfl 0 rfl ?_
  refine J.iconst (pc := 7) dX11_happens_7 ic_1 ?_
  rcases ifc h with ⟨hc, h⟩ | ⟨hc, h⟩
  · refine J.cgt (pc := 8) (tgt := 29) dX11_happens_8 (by decide) (fun _ => ?_) (fun q => absurd hc q)
    cases h
    exact J.vret (pc := 29) dX11_happens_29 rfl ⟨rfl, rfl, hN4, trivial⟩
  · refine J.cgt (pc := 8) (tgt := 29) dX11_happens_8 (by decide) (fun q => absurd q hc) (fun _ => ?_)
    refine J.aload_n (pc := 11) dX11_happens_11 rfl 1 rfl ?_
    refine J.fI (pc := 12) dX11_happens_12 fl_RX11_273 k0 (okN hN4 k0 (by decide)) (Or.inl rfl) ?_
    rcases ifc h with ⟨hc, h⟩ | ⟨hc, h⟩
    · refine J.zeq (pc := 15) (tgt := 29) dX11_happens_15 (by decide) (fun _ => ?_) (fun q => absurd hc q)
      cases h
      exact J.vret (pc := 29) dX11_happens_29 rfl ⟨rfl, rfl, hN4, trivial⟩
    · refine J.zeq (pc := 15) (tgt := 29) dX11_happens_15 (by decide) (fun q => absurd q hc) (fun _ => ?_)
      refine J.iload_n (pc := 18) dX11_happens_18 rfl 0 rfl ?_
      rcases ifc h with ⟨hc, h⟩ | ⟨hc, h⟩
      · refine J.zne (pc := 19) (tgt := 30) dX11_happens_19 (by decide) (fun _ => ?_) (fun q => absurd hc q)
        refine J.aload_n (pc := 22) dX11_happens_22 rfl 1 rfl ?_
        refine J.fI (pc := 23) dX11_happens_23 fl_RX11_276 k0 (okN hN4 k0 (by decide)) (Or.inl rfl) ?_
        rcases ifc h with ⟨hc, h⟩ | ⟨hc, h⟩
        · refine J.zne (pc := 26) (tgt := 30) dX11_happens_26 (by decide) (fun _ => ?_) (fun q => absurd hc q)
          cases h
          exact J.vret (pc := 29) dX11_happens_29 rfl ⟨rfl, rfl, hN4, trivial⟩
        · refine J.zne (pc := 26) (tgt := 30) dX11_happens_26 (by decide) (fun q => absurd q hc) (fun _ => ?_)
          refine J.iload_n (pc := 30) dX11_happens_30 rfl 0 rfl ?_
          rcases ifc h with ⟨hc, h⟩ | ⟨hc, h⟩
          · refine J.zne (pc := 31) (tgt := 60) dX11_happens_31 (by decide) (fun _ => ?_) (fun q => absurd hc q)
            refine J.aload_n (pc := 34) dX11_happens_34 rfl 1 rfl ?_
            refine J.aload_n (pc := 35) dX11_happens_35 rfl 1 rfl ?_
            refine J.fI (pc := 36) dX11_happens_36 fl_RX11_276 k0 (okN hN4 k0 (by decide)) (Or.inl rfl) ?_
            obtain ⟨⟨r8, μ7⟩, e6, h⟩ := bnd h
            try dsimp only at h
            refine J.callV (Y := mX11_happens) (Z := mX11_draw) (pc := 39) (st := []) (k2 := 0) (n2 := 0) dX11_happens_39 ml_RX11_433 mo_X11_draw mv_X11_draw rfl (tX11_draw (d + 1) e6 hN4 k0) k0 (okN hN4 k0 (by decide)).1 (okN hN4 k0 (by decide)).2 cq_11 (by decide) rfl rfl (Nat.le_of_ble_eq_true rfl) (by decide) (by decide) (fun v ν hp => ?_) (fun i ν hp => nrm hp.1)
            obtain ⟨rfl, rfl, hN9, hb10⟩ := QEl hp
            show J _ _ _ _ 42 _ ([.int r8]) _ _ _ _
            refine J.istore_n (pc := 42) ([(2, .int r8), (1, .int r3), (0, .ref v0)]) dX11_happens_42 rfl (Nat.le_of_ble_eq_true rfl) rfl ?_
            refine J.aload_n (pc := 43) dX11_happens_43 rfl 2 rfl ?_
            obtain ⟨a11, e12, h⟩ := bnd h
            have k13 : (kd a11).1 = 0 := gR_k e12
            refine J.fR (pc := 44) dX11_happens_44 fl_RX11_48 k0 (okN hN9 k0 (by decide)) rfl e12 ?_
            refine J.sipush (pc := 47) dX11_happens_47 is_140 ?_
            refine J.iload_n (pc := 50) dX11_happens_50 rfl 0 rfl ?_
            refine J.iadd (pc := 51) dX11_happens_51 ?_
            refine J.aload_n (pc := 52) dX11_happens_52 rfl 2 rfl ?_
            obtain ⟨⟨r16, μ15⟩, e14, h⟩ := bnd h
            try dsimp only at h
            refine J.callV (Y := mX11_happens) (Z := mX11_drawPlace) (pc := 53) (st := [.int ((140 : Int32) + r8), .ref a11]) (k2 := 0) (n2 := 0) dX11_happens_53 ml_RX11_436 mo_X11_drawPlace mv_X11_drawPlace rfl (tX11_drawPlace d e14 hN9 k0) k0 (okN hN9 k0 (by decide)).1 (okN hN9 k0 (by decide)).2 cq_11 (by decide) rfl rfl (Nat.le_of_ble_eq_true rfl) (by decide) (by decide) (fun v ν hp => ?_) (fun i ν hp => nrm hp.1)
            obtain ⟨rfl, rfl, hN17, hb18⟩ := QEl hp
            show J _ _ _ _ 56 _ ([.int r16, .int ((140 : Int32) + r8), .ref a11]) _ _ _ _
            obtain ⟨μ19, e20, h⟩ := bnd h
            have hN21 : μ19.1 = NN := stI_N e20 hN17
            refine J.wI (pc := 56) dX11_happens_56 k13 (okN hN17 k13 (by decide)) e20 ?_
            refine J.goto (pc := 57) (tgt := 79) dX11_happens_57 (by decide) ?_
            cases h
            exact J.vret (pc := 79) dX11_happens_79 rfl ⟨rfl, rfl, hN21, trivial⟩
          · refine J.zne (pc := 31) (tgt := 60) dX11_happens_31 (by decide) (fun q => absurd q hc) (fun _ => ?_)
            refine J.aload_n (pc := 60) dX11_happens_60 rfl 1 rfl ?_
            obtain ⟨⟨r24, μ23⟩, e22, h⟩ := bnd h
            try dsimp only at h
            refine J.callV (Y := mX11_happens) (Z := mX11_drawPlace) (pc := 61) (st := []) (k2 := 0) (n2 := 0) dX11_happens_61 ml_RX11_436 mo_X11_drawPlace mv_X11_drawPlace rfl (tX11_drawPlace d e22 hN4 k0) k0 (okN hN4 k0 (by decide)).1 (okN hN4 k0 (by decide)).2 cq_11 (by decide) rfl rfl (Nat.le_of_ble_eq_true rfl) (by decide) (by decide) (fun v ν hp => ?_) (fun i ν hp => nrm hp.1)
            obtain ⟨rfl, rfl, hN25, hb26⟩ := QEl hp
            show J _ _ _ _ 64 _ ([.int r24]) _ _ _ _
            refine J.istore_n (pc := 64) ([(2, .int r24), (1, .int r3), (0, .ref v0)]) dX11_happens_64 rfl (Nat.le_of_ble_eq_true rfl) rfl ?_
            refine J.aload_n (pc := 65) dX11_happens_65 rfl 2 rfl ?_
            obtain ⟨a27, e28, h⟩ := bnd h
            have k29 : (kd a27).1 = 0 := gR_k e28
            refine J.fR (pc := 66) dX11_happens_66 fl_RX11_48 k0 (okN hN25 k0 (by decide)) rfl e28 ?_
            refine J.bipush (pc := 69) dX11_happens_69 ib_80 ?_
            refine J.iload_n (pc := 71) dX11_happens_71 rfl 0 rfl ?_
            refine J.iadd (pc := 72) dX11_happens_72 ?_
            refine J.aload_n (pc := 73) dX11_happens_73 rfl 2 rfl ?_
            refine J.iconst (pc := 74) dX11_happens_74 ic_4 ?_
            obtain ⟨⟨r32, μ31⟩, e30, h⟩ := bnd h
            try dsimp only at h
            refine J.callV (Y := mX11_happens) (Z := mX11_draw) (pc := 75) (st := [.int ((80 : Int32) + r24), .ref a27]) (k2 := 0) (n2 := 0) dX11_happens_75 ml_RX11_433 mo_X11_draw mv_X11_draw rfl (tX11_draw (d + 1) e30 hN25 k0) k0 (okN hN25 k0 (by decide)).1 (okN hN25 k0 (by decide)).2 cq_11 (by decide) rfl rfl (Nat.le_of_ble_eq_true rfl) (by decide) (by decide) (fun v ν hp => ?_) (fun i ν hp => nrm hp.1)
            obtain ⟨rfl, rfl, hN33, hb34⟩ := QEl hp
            show J _ _ _ _ 78 _ ([.int r32, .int ((80 : Int32) + r24), .ref a27]) _ _ _ _
            obtain ⟨μ35, e36, h⟩ := bnd h
            have hN37 : μ35.1 = NN := stI_N e36 hN33
            refine J.wI (pc := 78) dX11_happens_78 k29 (okN hN33 k29 (by decide)) e36 ?_
            cases h
            exact J.vret (pc := 79) dX11_happens_79 rfl ⟨rfl, rfl, hN37, trivial⟩
      · refine J.zne (pc := 19) (tgt := 30) dX11_happens_19 (by decide) (fun q => absurd q hc) (fun _ => ?_)
        refine J.iload_n (pc := 30) dX11_happens_30 rfl 0 rfl ?_
        rcases ifc h with ⟨hc, h⟩ | ⟨hc, h⟩
        · refine J.zne (pc := 31) (tgt := 60) dX11_happens_31 (by decide) (fun _ => ?_) (fun q => absurd hc q)
          refine J.aload_n (pc := 34) dX11_happens_34 rfl 1 rfl ?_
          refine J.aload_n (pc := 35) dX11_happens_35 rfl 1 rfl ?_
          refine J.fI (pc := 36) dX11_happens_36 fl_RX11_276 k0 (okN hN4 k0 (by decide)) (Or.inl rfl) ?_
          obtain ⟨⟨r40, μ39⟩, e38, h⟩ := bnd h
          try dsimp only at h
          refine J.callV (Y := mX11_happens) (Z := mX11_draw) (pc := 39) (st := []) (k2 := 0) (n2 := 0) dX11_happens_39 ml_RX11_433 mo_X11_draw mv_X11_draw rfl (tX11_draw (d + 1) e38 hN4 k0) k0 (okN hN4 k0 (by decide)).1 (okN hN4 k0 (by decide)).2 cq_11 (by decide) rfl rfl (Nat.le_of_ble_eq_true rfl) (by decide) (by decide) (fun v ν hp => ?_) (fun i ν hp => nrm hp.1)
          obtain ⟨rfl, rfl, hN41, hb42⟩ := QEl hp
          show J _ _ _ _ 42 _ ([.int r40]) _ _ _ _
          refine J.istore_n (pc := 42) ([(2, .int r40), (1, .int r3), (0, .ref v0)]) dX11_happens_42 rfl (Nat.le_of_ble_eq_true rfl) rfl ?_
          refine J.aload_n (pc := 43) dX11_happens_43 rfl 2 rfl ?_
          obtain ⟨a43, e44, h⟩ := bnd h
          have k45 : (kd a43).1 = 0 := gR_k e44
          refine J.fR (pc := 44) dX11_happens_44 fl_RX11_48 k0 (okN hN41 k0 (by decide)) rfl e44 ?_
          refine J.sipush (pc := 47) dX11_happens_47 is_140 ?_
          refine J.iload_n (pc := 50) dX11_happens_50 rfl 0 rfl ?_
          refine J.iadd (pc := 51) dX11_happens_51 ?_
          refine J.aload_n (pc := 52) dX11_happens_52 rfl 2 rfl ?_
          obtain ⟨⟨r48, μ47⟩, e46, h⟩ := bnd h
          try dsimp only at h
          refine J.callV (Y := mX11_happens) (Z := mX11_drawPlace) (pc := 53) (st := [.int ((140 : Int32) + r40), .ref a43]) (k2 := 0) (n2 := 0) dX11_happens_53 ml_RX11_436 mo_X11_drawPlace mv_X11_drawPlace rfl (tX11_drawPlace d e46 hN41 k0) k0 (okN hN41 k0 (by decide)).1 (okN hN41 k0 (by decide)).2 cq_11 (by decide) rfl rfl (Nat.le_of_ble_eq_true rfl) (by decide) (by decide) (fun v ν hp => ?_) (fun i ν hp => nrm hp.1)
          obtain ⟨rfl, rfl, hN49, hb50⟩ := QEl hp
          show J _ _ _ _ 56 _ ([.int r48, .int ((140 : Int32) + r40), .ref a43]) _ _ _ _
          obtain ⟨μ51, e52, h⟩ := bnd h
          have hN53 : μ51.1 = NN := stI_N e52 hN49
          refine J.wI (pc := 56) dX11_happens_56 k45 (okN hN49 k45 (by decide)) e52 ?_
          refine J.goto (pc := 57) (tgt := 79) dX11_happens_57 (by decide) ?_
          cases h
          exact J.vret (pc := 79) dX11_happens_79 rfl ⟨rfl, rfl, hN53, trivial⟩
        · refine J.zne (pc := 31) (tgt := 60) dX11_happens_31 (by decide) (fun q => absurd q hc) (fun _ => ?_)
          refine J.aload_n (pc := 60) dX11_happens_60 rfl 1 rfl ?_
          obtain ⟨⟨r56, μ55⟩, e54, h⟩ := bnd h
          try dsimp only at h
          refine J.callV (Y := mX11_happens) (Z := mX11_drawPlace) (pc := 61) (st := []) (k2 := 0) (n2 := 0) dX11_happens_61 ml_RX11_436 mo_X11_drawPlace mv_X11_drawPlace rfl (tX11_drawPlace d e54 hN4 k0) k0 (okN hN4 k0 (by decide)).1 (okN hN4 k0 (by decide)).2 cq_11 (by decide) rfl rfl (Nat.le_of_ble_eq_true rfl) (by decide) (by decide) (fun v ν hp => ?_) (fun i ν hp => nrm hp.1)
          obtain ⟨rfl, rfl, hN57, hb58⟩ := QEl hp
          show J _ _ _ _ 64 _ ([.int r56]) _ _ _ _
          refine J.istore_n (pc := 64) ([(2, .int r56), (1, .int r3), (0, .ref v0)]) dX11_happens_64 rfl (Nat.le_of_ble_eq_true rfl) rfl ?_
          refine J.aload_n (pc := 65) dX11_happens_65 rfl 2 rfl ?_
          obtain ⟨a59, e60, h⟩ := bnd h
          have k61 : (kd a59).1 = 0 := gR_k e60
          refine J.fR (pc := 66) dX11_happens_66 fl_RX11_48 k0 (okN hN57 k0 (by decide)) rfl e60 ?_
          refine J.bipush (pc := 69) dX11_happens_69 ib_80 ?_
          refine J.iload_n (pc := 71) dX11_happens_71 rfl 0 rfl ?_
          refine J.iadd (pc := 72) dX11_happens_72 ?_
          refine J.aload_n (pc := 73) dX11_happens_73 rfl 2 rfl ?_
          refine J.iconst (pc := 74) dX11_happens_74 ic_4 ?_
          obtain ⟨⟨r64, μ63⟩, e62, h⟩ := bnd h
          try dsimp only at h
          refine J.callV (Y := mX11_happens) (Z := mX11_draw) (pc := 75) (st := [.int ((80 : Int32) + r56), .ref a59]) (k2 := 0) (n2 := 0) dX11_happens_75 ml_RX11_433 mo_X11_draw mv_X11_draw rfl (tX11_draw (d + 1) e62 hN57 k0) k0 (okN hN57 k0 (by decide)).1 (okN hN57 k0 (by decide)).2 cq_11 (by decide) rfl rfl (Nat.le_of_ble_eq_true rfl) (by decide) (by decide) (fun v ν hp => ?_) (fun i ν hp => nrm hp.1)
          obtain ⟨rfl, rfl, hN65, hb66⟩ := QEl hp
          show J _ _ _ _ 78 _ ([.int r64, .int ((80 : Int32) + r56), .ref a59]) _ _ _ _
          obtain ⟨μ67, e68, h⟩ := bnd h
          have hN69 : μ67.1 = NN := stI_N e68 hN65
          refine J.wI (pc := 78) dX11_happens_78 k61 (okN hN65 k61 (by decide)) e68 ?_
          cases h
          exact J.vret (pc := 79) dX11_happens_79 rfl ⟨rfl, rfl, hN69, trivial⟩
def fX11_image_28  : Nat → Nat → Int32 → Mem → Option (Mem)
  | 0, _, _, _ => none
  | n + 1, v0, v1, μ =>
    if v1 < (79 : Int32) then
      (gR μ v0 57 0).bind fun a1 =>
      (gR μ v0 34 0).bind fun a4 =>
      (ldI μ a4 v1).bind fun x7 =>
      (stI μ a1 v1 x7).bind fun μ9 =>
      (fX11_image_28 n) v0 (v1 + (1 : Int32)) μ9
    else
      (gR μ v0 35 0).bind fun a12 =>
      (gR μ v0 58 0).bind fun a15 =>
      (fX11_copies v0 a12 a15 μ).bind fun μ19 =>
      (gR μ19 v0 50 0).bind fun a22 =>
      (gR μ19 v0 59 0).bind fun a25 =>
      (fX11_copies v0 a22 a25 μ19).bind fun μ29 =>
      some μ29
set_option maxHeartbeats 4000000 in
theorem tX11_image_28 {ω : Wd} {l : Launch} (d : Nat) {res : Mem} : ∀ n : Nat, ∀ (v0 : Nat) (v1 : Int32) (μ : Mem), fX11_image_28 n v0 v1 μ = some res → μ.1 = NN → (kd v0).1 = 21 → J ω l mX11_image (d + 1) 28 [(0, .ref v0), (1, .int v1)] [] μ 0 0 (PE (.inl none) res True) := by
  intro n
  induction n with
  | zero =>
    intro v0 v1 μ h hN k0
    have h9 : (none : Option (Mem)) = some res := h
    cases h9
  | succ n ih =>
    intro v0 v1 μ h hN k0
    unfold fX11_image_28 at h
    refine J.iload_n (pc := 28) dX11_image_28 rfl 1 rfl ?_
    refine J.bipush (pc := 29) dX11_image_29 ib_79 ?_
    rcases ifc h with ⟨hc, h⟩ | ⟨hc, h⟩
    · refine J.cge (pc := 31) (tgt := 52) dX11_image_31 (by decide) (fun _ => ?_) (fun q => absurd hc q)
      refine J.aload_n (pc := 34) dX11_image_34 rfl 0 rfl ?_
      obtain ⟨a1, e2, h⟩ := bnd h
      have k3 : (kd a1).1 = 0 := gR_k e2
      refine J.fR (pc := 35) dX11_image_35 fl_RX11_90 k0 (okN hN k0 (by decide)) rfl e2 ?_
      refine J.iload_n (pc := 38) dX11_image_38 rfl 1 rfl ?_
      refine J.aload_n (pc := 39) dX11_image_39 rfl 0 rfl ?_
      obtain ⟨a4, e5, h⟩ := bnd h
      have k6 : (kd a4).1 = 0 := gR_k e5
      refine J.fR (pc := 40) dX11_image_40 fl_RX11_48 k0 (okN hN k0 (by decide)) rfl e5 ?_
      refine J.iload_n (pc := 43) dX11_image_43 rfl 1 rfl ?_
      obtain ⟨x7, e8, h⟩ := bnd h
      refine J.aI (pc := 44) dX11_image_44 k6 (okN hN k6 (by decide)) e8 ?_
      obtain ⟨μ9, e10, h⟩ := bnd h
      have hN11 : μ9.1 = NN := stI_N e10 hN
      refine J.wI (pc := 45) dX11_image_45 k3 (okN hN k3 (by decide)) e10 ?_
      refine J.iinc (pc := 46) (j := 1) ([(1, .int (v1 + (1 : Int32))), (0, .ref v0)]) dX11_image_46 rfl (iincv ic_1) (Nat.le_of_ble_eq_true rfl) rfl ?_
      refine J.goto (pc := 49) (tgt := 28) dX11_image_49 (by decide) ?_
      refine J.pick [1, 0] rfl ?_
      exact ih v0 (v1 + (1 : Int32)) μ9 h hN11 k0
    · refine J.cge (pc := 31) (tgt := 52) dX11_image_31 (by decide) (fun q => absurd q hc) (fun _ => ?_)
      refine J.aload_n (pc := 52) dX11_image_52 rfl 0 rfl ?_
      refine J.aload_n (pc := 53) dX11_image_53 rfl 0 rfl ?_
      obtain ⟨a12, e13, h⟩ := bnd h
      have k14 : (kd a12).1 = 0 := gR_k e13
      refine J.fR (pc := 54) dX11_image_54 fl_RX11_51 k0 (okN hN k0 (by decide)) rfl e13 ?_
      refine J.aload_n (pc := 57) dX11_image_57 rfl 0 rfl ?_
      obtain ⟨a15, e16, h⟩ := bnd h
      have k17 : (kd a15).1 = 0 := gR_k e16
      refine J.fR (pc := 58) dX11_image_58 fl_RX11_93 k0 (okN hN k0 (by decide)) rfl e16 ?_
      obtain ⟨μ19, e18, h⟩ := bnd h
      refine J.callV (Y := mX11_image) (Z := mX11_copies) (pc := 61) (st := []) (k2 := 0) (n2 := 0) dX11_image_61 ml_RX11_279 mo_X11_copies mv_X11_copies rfl (tX11_copies d e18 hN k0 k14 k17) k0 (okN hN k0 (by decide)).1 (okN hN k0 (by decide)).2 cq_11 (by decide) rfl rfl (Nat.le_of_ble_eq_true rfl) (by decide) (by decide) (fun v ν hp => ?_) (fun i ν hp => nrm hp.1)
      obtain ⟨rfl, rfl, hN20, hb21⟩ := QEl hp
      show J _ _ _ _ 64 _ ([]) _ _ _ _
      refine J.aload_n (pc := 64) dX11_image_64 rfl 0 rfl ?_
      refine J.aload_n (pc := 65) dX11_image_65 rfl 0 rfl ?_
      obtain ⟨a22, e23, h⟩ := bnd h
      have k24 : (kd a22).1 = 0 := gR_k e23
      refine J.fR (pc := 66) dX11_image_66 fl_RX11_81 k0 (okN hN20 k0 (by decide)) rfl e23 ?_
      refine J.aload_n (pc := 69) dX11_image_69 rfl 0 rfl ?_
      obtain ⟨a25, e26, h⟩ := bnd h
      have k27 : (kd a25).1 = 0 := gR_k e26
      refine J.fR (pc := 70) dX11_image_70 fl_RX11_96 k0 (okN hN20 k0 (by decide)) rfl e26 ?_
      obtain ⟨μ29, e28, h⟩ := bnd h
      refine J.callV (Y := mX11_image) (Z := mX11_copies) (pc := 73) (st := []) (k2 := 0) (n2 := 0) dX11_image_73 ml_RX11_279 mo_X11_copies mv_X11_copies rfl (tX11_copies d e28 hN20 k0 k24 k27) k0 (okN hN20 k0 (by decide)).1 (okN hN20 k0 (by decide)).2 cq_11 (by decide) rfl rfl (Nat.le_of_ble_eq_true rfl) (by decide) (by decide) (fun v ν hp => ?_) (fun i ν hp => nrm hp.1)
      obtain ⟨rfl, rfl, hN30, hb31⟩ := QEl hp
      show J _ _ _ _ 76 _ ([]) _ _ _ _
      cases h
      exact J.vret (pc := 76) dX11_image_76 rfl ⟨rfl, rfl, hN30, trivial⟩
def fX11_image (v0 : Nat) (μ : Mem) : Option (Mem) :=
  (some (sI μ v0 0 (0 : Int32))).bind fun μ1 =>
  (some (sI μ1 v0 54 (1 : Int32))).bind fun μ4 =>
  (some (sI μ4 v0 55 (μ4.2.1 v0 36))).bind fun μ7 =>
  (some (sI μ7 v0 56 (μ7.2.1 v0 49))).bind fun μ10 =>
  (fX11_image_28 fuel) v0 (0 : Int32) μ10
set_option maxHeartbeats 4000000 in
theorem tX11_image {ω : Wd} {l : Launch} (d : Nat) {v0 : Nat} {μ : Mem} {res : Mem} (h : fX11_image v0 μ = some res) (hN : μ.1 = NN) (k0 : (kd v0).1 = 21) : Ct ω l mX11_image (d + 1) [.ref v0] μ 0 0 (PE (.inl none) res True) := by
  refine Ct.of pn_RX11 (Nat.le_of_ble_eq_true rfl) ?_
  show J ω l mX11_image (d + 1) 0 [(0, .ref v0)] [] μ 0 0 _
  unfold fX11_image at h
  refine J.aload_n (pc := 0) dX11_image_0 rfl 0 rfl ?_
  refine J.iconst (pc := 1) dX11_image_1 ic_0 ?_
  obtain ⟨μ1, e2, h⟩ := bnd h
  have hN3 : μ1.1 = NN := smN e2 hN
  refine J.qI (pc := 2) dX11_image_2 fl_RX11_99 k0 (okN hN k0 (by decide)) rfl rfl e2 ?_
  refine J.aload_n (pc := 5) dX11_image_5 rfl 0 rfl ?_
  refine J.iconst (pc := 6) dX11_image_6 ic_1 ?_
  obtain ⟨μ4, e5, h⟩ := bnd h
  have hN6 : μ4.1 = NN := smN e5 hN3
  refine J.qZ (pc := 7) dX11_image_7 fl_RX11_289 k0 (okN hN3 k0 (by decide)) rfl rfl (Or.inr rfl) e5 ?_
  refine J.aload_n (pc := 10) dX11_image_10 rfl 0 rfl ?_
  refine J.aload_n (pc := 11) dX11_image_11 rfl 0 rfl ?_
  refine J.fI (pc := 12) dX11_image_12 fl_RX11_283 k0 (okN hN6 k0 (by decide)) (Or.inl rfl) ?_
  obtain ⟨μ7, e8, h⟩ := bnd h
  have hN9 : μ7.1 = NN := smN e8 hN6
  refine J.qI (pc := 15) dX11_image_15 fl_RX11_445 k0 (okN hN6 k0 (by decide)) rfl rfl e8 ?_
  refine J.aload_n (pc := 18) dX11_image_18 rfl 0 rfl ?_
  refine J.aload_n (pc := 19) dX11_image_19 rfl 0 rfl ?_
  refine J.fI (pc := 20) dX11_image_20 fl_RX11_286 k0 (okN hN9 k0 (by decide)) (Or.inl rfl) ?_
  obtain ⟨μ10, e11, h⟩ := bnd h
  have hN12 : μ10.1 = NN := smN e11 hN9
  refine J.qI (pc := 23) dX11_image_23 fl_RX11_448 k0 (okN hN9 k0 (by decide)) rfl rfl e11 ?_
  refine J.iconst (pc := 26) dX11_image_26 ic_0 ?_
  refine J.istore_n (pc := 27) ([(1, .int (0 : Int32)), (0, .ref v0)]) dX11_image_27 rfl (Nat.le_of_ble_eq_true rfl) rfl ?_
  refine J.pick [1, 0] rfl ?_
  exact (tX11_image_28 d fuel) v0 (0 : Int32) μ10 h hN12 k0
def fX11_init (v0 : Nat) (μ : Mem) : Option (Mem) :=
  (ptI μ v0 3 (-1 : Int32)).bind fun μ1 =>
  (ptI μ1 v0 4 (-1 : Int32)).bind fun μ3 =>
  (mkN μ3 (0, 6)).bind fun (a7, μ8) =>
  (ptR μ8 v0 5 a7).bind fun μ9 =>
  (mkN μ9 (0, 1400)).bind fun (a13, μ14) =>
  (ptR μ14 v0 6 a13).bind fun μ15 =>
  (mkN μ15 (0, 700)).bind fun (a19, μ20) =>
  (ptR μ20 v0 7 a19).bind fun μ21 =>
  (ptI μ21 v0 10 (-1 : Int32)).bind fun μ23 =>
  (mkN μ23 (0, 3)).bind fun (a27, μ28) =>
  (ptR μ28 v0 11 a27).bind fun μ29 =>
  (mkN μ29 (0, 6)).bind fun (a33, μ34) =>
  (ptR μ34 v0 29 a33).bind fun μ35 =>
  (mkN μ35 (0, 79)).bind fun (a39, μ40) =>
  (ptR μ40 v0 30 a39).bind fun μ41 =>
  (mkN μ41 (0, 1400)).bind fun (a45, μ46) =>
  (ptR μ46 v0 31 a45).bind fun μ47 =>
  (mkN μ47 (0, 950)).bind fun (a51, μ52) =>
  (ptR μ52 v0 32 a51).bind fun μ53 =>
  (mkN μ53 (2, 9)).bind fun (a57, μ58) =>
  (ptR μ58 v0 33 a57).bind fun μ59 =>
  (mkN μ59 (0, 158)).bind fun (a63, μ64) =>
  (ptR μ64 v0 34 a63).bind fun μ65 =>
  (mkN μ65 (0, 3160)).bind fun (a69, μ70) =>
  (ptR μ70 v0 35 a69).bind fun μ71 =>
  (mkN μ71 (0, 9)).bind fun (a75, μ76) =>
  (ptR μ76 v0 37 a75).bind fun μ77 =>
  (mkN μ77 (0, 950)).bind fun (a81, μ82) =>
  (ptR μ82 v0 38 a81).bind fun μ83 =>
  (mkN μ83 (0, 48)).bind fun (a87, μ88) =>
  (ptR μ88 v0 39 a87).bind fun μ89 =>
  (mkN μ89 (0, 48)).bind fun (a93, μ94) =>
  (ptR μ94 v0 40 a93).bind fun μ95 =>
  (ptI μ95 v0 41 (-1 : Int32)).bind fun μ97 =>
  (mkN μ97 (0, 6)).bind fun (a101, μ102) =>
  (ptR μ102 v0 44 a101).bind fun μ103 =>
  (mkN μ103 (0, 48)).bind fun (a107, μ108) =>
  (ptR μ108 v0 46 a107).bind fun μ109 =>
  (mkN μ109 (0, 36)).bind fun (a113, μ114) =>
  (ptR μ114 v0 47 a113).bind fun μ115 =>
  (mkN μ115 (0, 448)).bind fun (a119, μ120) =>
  (ptR μ120 v0 48 a119).bind fun μ121 =>
  (mkN μ121 (0, 24)).bind fun (a125, μ126) =>
  (ptR μ126 v0 50 a125).bind fun μ127 =>
  (mkN μ127 (0, 6)).bind fun (a131, μ132) =>
  (ptR μ132 v0 51 a131).bind fun μ133 =>
  (mkN μ133 (0, 360)).bind fun (a137, μ138) =>
  (ptR μ138 v0 52 a137).bind fun μ139 =>
  (mkN μ139 (0, 79)).bind fun (a143, μ144) =>
  (ptR μ144 v0 57 a143).bind fun μ145 =>
  (mkN μ145 (0, 3160)).bind fun (a149, μ150) =>
  (ptR μ150 v0 58 a149).bind fun μ151 =>
  (mkN μ151 (0, 24)).bind fun (a155, μ156) =>
  (ptR μ156 v0 59 a155).bind fun μ157 =>
  some μ157
set_option maxHeartbeats 4000000 in
theorem tX11_init {ω : Wd} {l : Launch} (d : Nat) {v0 : Nat} {μ : Mem} {res : Mem} (h : fX11_init v0 μ = some res) (k0 : (kd v0).1 = 21) : Ct ω l mX11_init (d + 1) [.ref v0] μ 25 13117 (PA (.inl none) res) := by
  refine Ct.of pn_RX11 (Nat.le_of_ble_eq_true rfl) ?_
  show J ω l mX11_init (d + 1) 0 [(0, .ref v0)] [] μ 25 13117 _
  unfold fX11_init at h
  refine J.aload_n (pc := 0) dX11_init_0 rfl 0 rfl ?_
  refine J.objInit (pc := 1) dX11_init_1 ml_RX11_1 oi_1 oi_2 (Nat.le_of_ble_eq_true rfl) ?_
  refine J.aload_n (pc := 4) dX11_init_4 rfl 0 rfl ?_
  refine J.iconst (pc := 5) dX11_init_5 ic_m1 ?_
  obtain ⟨μ1, e2, h⟩ := bnd h
  refine J.qI (pc := 6) dX11_init_6 fl_RX11_9 k0 (ptI_ok e2).1 rfl rfl (ptI_ok e2).2 ?_
  refine J.aload_n (pc := 9) dX11_init_9 rfl 0 rfl ?_
  refine J.iconst (pc := 10) dX11_init_10 ic_m1 ?_
  obtain ⟨μ3, e4, h⟩ := bnd h
  refine J.qI (pc := 11) dX11_init_11 fl_RX11_13 k0 (ptI_ok e4).1 rfl rfl (ptI_ok e4).2 ?_
  refine J.aload_n (pc := 14) dX11_init_14 rfl 0 rfl ?_
  refine J.bipush (pc := 15) dX11_init_15 ib_6 ?_
  obtain ⟨⟨a7, μ8⟩, e5, h⟩ := bnd h
  try dsimp only at h
  have k6 : (kd a7).1 = 0 := mkN_k e5
  refine J.mArr (pc := 17) (t := 0) (N := 6) dX11_init_17 rfl (Or.inl ⟨rfl, rfl⟩) e5 aw_int (by decide) (by decide) (by decide) (by omega) (by omega) ?_
  obtain ⟨μ9, e10, h⟩ := bnd h
  refine J.qR (pc := 19) dX11_init_19 fl_RX11_16 k0 (ptR_ok e10).1 rfl rfl (ptR_ok e10).2 ?_
  refine J.aload_n (pc := 22) dX11_init_22 rfl 0 rfl ?_
  refine J.sipush (pc := 23) dX11_init_23 is_1400 ?_
  obtain ⟨⟨a13, μ14⟩, e11, h⟩ := bnd h
  try dsimp only at h
  have k12 : (kd a13).1 = 0 := mkN_k e11
  refine J.mArr (pc := 26) (t := 0) (N := 1400) dX11_init_26 rfl (Or.inl ⟨rfl, rfl⟩) e11 aw_int (by decide) (by decide) (by decide) (by omega) (by omega) ?_
  obtain ⟨μ15, e16, h⟩ := bnd h
  refine J.qR (pc := 28) dX11_init_28 fl_RX11_20 k0 (ptR_ok e16).1 rfl rfl (ptR_ok e16).2 ?_
  refine J.aload_n (pc := 31) dX11_init_31 rfl 0 rfl ?_
  refine J.sipush (pc := 32) dX11_init_32 is_700 ?_
  obtain ⟨⟨a19, μ20⟩, e17, h⟩ := bnd h
  try dsimp only at h
  have k18 : (kd a19).1 = 0 := mkN_k e17
  refine J.mArr (pc := 35) (t := 0) (N := 700) dX11_init_35 rfl (Or.inl ⟨rfl, rfl⟩) e17 aw_int (by decide) (by decide) (by decide) (by omega) (by omega) ?_
  obtain ⟨μ21, e22, h⟩ := bnd h
  refine J.qR (pc := 37) dX11_init_37 fl_RX11_23 k0 (ptR_ok e22).1 rfl rfl (ptR_ok e22).2 ?_
  refine J.aload_n (pc := 40) dX11_init_40 rfl 0 rfl ?_
  refine J.iconst (pc := 41) dX11_init_41 ic_m1 ?_
  obtain ⟨μ23, e24, h⟩ := bnd h
  refine J.qI (pc := 42) dX11_init_42 fl_RX11_26 k0 (ptI_ok e24).1 rfl rfl (ptI_ok e24).2 ?_
  refine J.aload_n (pc := 45) dX11_init_45 rfl 0 rfl ?_
  refine J.iconst (pc := 46) dX11_init_46 ic_3 ?_
  obtain ⟨⟨a27, μ28⟩, e25, h⟩ := bnd h
  try dsimp only at h
  have k26 : (kd a27).1 = 0 := mkN_k e25
  refine J.mArr (pc := 47) (t := 0) (N := 3) dX11_init_47 rfl (Or.inl ⟨rfl, rfl⟩) e25 aw_int (by decide) (by decide) (by decide) (by omega) (by omega) ?_
  obtain ⟨μ29, e30, h⟩ := bnd h
  refine J.qR (pc := 49) dX11_init_49 fl_RX11_29 k0 (ptR_ok e30).1 rfl rfl (ptR_ok e30).2 ?_
  refine J.aload_n (pc := 52) dX11_init_52 rfl 0 rfl ?_
  refine J.bipush (pc := 53) dX11_init_53 ib_6 ?_
  obtain ⟨⟨a33, μ34⟩, e31, h⟩ := bnd h
  try dsimp only at h
  have k32 : (kd a33).1 = 0 := mkN_k e31
  refine J.mArr (pc := 55) (t := 0) (N := 6) dX11_init_55 rfl (Or.inl ⟨rfl, rfl⟩) e31 aw_int (by decide) (by decide) (by decide) (by omega) (by omega) ?_
  obtain ⟨μ35, e36, h⟩ := bnd h
  refine J.qR (pc := 57) dX11_init_57 fl_RX11_32 k0 (ptR_ok e36).1 rfl rfl (ptR_ok e36).2 ?_
  refine J.aload_n (pc := 60) dX11_init_60 rfl 0 rfl ?_
  refine J.bipush (pc := 61) dX11_init_61 ib_79 ?_
  obtain ⟨⟨a39, μ40⟩, e37, h⟩ := bnd h
  try dsimp only at h
  have k38 : (kd a39).1 = 0 := mkN_k e37
  refine J.mArr (pc := 63) (t := 0) (N := 79) dX11_init_63 rfl (Or.inl ⟨rfl, rfl⟩) e37 aw_int (by decide) (by decide) (by decide) (by omega) (by omega) ?_
  obtain ⟨μ41, e42, h⟩ := bnd h
  refine J.qR (pc := 65) dX11_init_65 fl_RX11_35 k0 (ptR_ok e42).1 rfl rfl (ptR_ok e42).2 ?_
  refine J.aload_n (pc := 68) dX11_init_68 rfl 0 rfl ?_
  refine J.sipush (pc := 69) dX11_init_69 is_1400 ?_
  obtain ⟨⟨a45, μ46⟩, e43, h⟩ := bnd h
  try dsimp only at h
  have k44 : (kd a45).1 = 0 := mkN_k e43
  refine J.mArr (pc := 72) (t := 0) (N := 1400) dX11_init_72 rfl (Or.inl ⟨rfl, rfl⟩) e43 aw_int (by decide) (by decide) (by decide) (by omega) (by omega) ?_
  obtain ⟨μ47, e48, h⟩ := bnd h
  refine J.qR (pc := 74) dX11_init_74 fl_RX11_38 k0 (ptR_ok e48).1 rfl rfl (ptR_ok e48).2 ?_
  refine J.aload_n (pc := 77) dX11_init_77 rfl 0 rfl ?_
  refine J.sipush (pc := 78) dX11_init_78 is_950 ?_
  obtain ⟨⟨a51, μ52⟩, e49, h⟩ := bnd h
  try dsimp only at h
  have k50 : (kd a51).1 = 0 := mkN_k e49
  refine J.mArr (pc := 81) (t := 0) (N := 950) dX11_init_81 rfl (Or.inl ⟨rfl, rfl⟩) e49 aw_int (by decide) (by decide) (by decide) (by omega) (by omega) ?_
  obtain ⟨μ53, e54, h⟩ := bnd h
  refine J.qR (pc := 83) dX11_init_83 fl_RX11_41 k0 (ptR_ok e54).1 rfl rfl (ptR_ok e54).2 ?_
  refine J.aload_n (pc := 86) dX11_init_86 rfl 0 rfl ?_
  refine J.bipush (pc := 87) dX11_init_87 ib_9 ?_
  obtain ⟨⟨a57, μ58⟩, e55, h⟩ := bnd h
  try dsimp only at h
  have k56 : (kd a57).1 = 2 := mkN_k e55
  refine J.mArr (pc := 89) (t := 2) (N := 9) dX11_init_89 rfl (Or.inr (Or.inr ⟨rfl, rfl⟩)) e55 aw_boolean (by decide) (by decide) (by decide) (by omega) (by omega) ?_
  obtain ⟨μ59, e60, h⟩ := bnd h
  refine J.qR (pc := 91) dX11_init_91 fl_RX11_44 k0 (ptR_ok e60).1 rfl rfl (ptR_ok e60).2 ?_
  refine J.aload_n (pc := 94) dX11_init_94 rfl 0 rfl ?_
  refine J.sipush (pc := 95) dX11_init_95 is_158 ?_
  obtain ⟨⟨a63, μ64⟩, e61, h⟩ := bnd h
  try dsimp only at h
  have k62 : (kd a63).1 = 0 := mkN_k e61
  refine J.mArr (pc := 98) (t := 0) (N := 158) dX11_init_98 rfl (Or.inl ⟨rfl, rfl⟩) e61 aw_int (by decide) (by decide) (by decide) (by omega) (by omega) ?_
  obtain ⟨μ65, e66, h⟩ := bnd h
  refine J.qR (pc := 100) dX11_init_100 fl_RX11_48 k0 (ptR_ok e66).1 rfl rfl (ptR_ok e66).2 ?_
  refine J.aload_n (pc := 103) dX11_init_103 rfl 0 rfl ?_
  refine J.sipush (pc := 104) dX11_init_104 is_3160 ?_
  obtain ⟨⟨a69, μ70⟩, e67, h⟩ := bnd h
  try dsimp only at h
  have k68 : (kd a69).1 = 0 := mkN_k e67
  refine J.mArr (pc := 107) (t := 0) (N := 3160) dX11_init_107 rfl (Or.inl ⟨rfl, rfl⟩) e67 aw_int (by decide) (by decide) (by decide) (by omega) (by omega) ?_
  obtain ⟨μ71, e72, h⟩ := bnd h
  refine J.qR (pc := 109) dX11_init_109 fl_RX11_51 k0 (ptR_ok e72).1 rfl rfl (ptR_ok e72).2 ?_
  refine J.aload_n (pc := 112) dX11_init_112 rfl 0 rfl ?_
  refine J.bipush (pc := 113) dX11_init_113 ib_9 ?_
  obtain ⟨⟨a75, μ76⟩, e73, h⟩ := bnd h
  try dsimp only at h
  have k74 : (kd a75).1 = 0 := mkN_k e73
  refine J.mArr (pc := 115) (t := 0) (N := 9) dX11_init_115 rfl (Or.inl ⟨rfl, rfl⟩) e73 aw_int (by decide) (by decide) (by decide) (by omega) (by omega) ?_
  obtain ⟨μ77, e78, h⟩ := bnd h
  refine J.qR (pc := 117) dX11_init_117 fl_RX11_54 k0 (ptR_ok e78).1 rfl rfl (ptR_ok e78).2 ?_
  refine J.aload_n (pc := 120) dX11_init_120 rfl 0 rfl ?_
  refine J.sipush (pc := 121) dX11_init_121 is_950 ?_
  obtain ⟨⟨a81, μ82⟩, e79, h⟩ := bnd h
  try dsimp only at h
  have k80 : (kd a81).1 = 0 := mkN_k e79
  refine J.mArr (pc := 124) (t := 0) (N := 950) dX11_init_124 rfl (Or.inl ⟨rfl, rfl⟩) e79 aw_int (by decide) (by decide) (by decide) (by omega) (by omega) ?_
  obtain ⟨μ83, e84, h⟩ := bnd h
  refine J.qR (pc := 126) dX11_init_126 fl_RX11_57 k0 (ptR_ok e84).1 rfl rfl (ptR_ok e84).2 ?_
  refine J.aload_n (pc := 129) dX11_init_129 rfl 0 rfl ?_
  refine J.bipush (pc := 130) dX11_init_130 ib_48 ?_
  obtain ⟨⟨a87, μ88⟩, e85, h⟩ := bnd h
  try dsimp only at h
  have k86 : (kd a87).1 = 0 := mkN_k e85
  refine J.mArr (pc := 132) (t := 0) (N := 48) dX11_init_132 rfl (Or.inl ⟨rfl, rfl⟩) e85 aw_int (by decide) (by decide) (by decide) (by omega) (by omega) ?_
  obtain ⟨μ89, e90, h⟩ := bnd h
  refine J.qR (pc := 134) dX11_init_134 fl_RX11_60 k0 (ptR_ok e90).1 rfl rfl (ptR_ok e90).2 ?_
  refine J.aload_n (pc := 137) dX11_init_137 rfl 0 rfl ?_
  refine J.bipush (pc := 138) dX11_init_138 ib_48 ?_
  obtain ⟨⟨a93, μ94⟩, e91, h⟩ := bnd h
  try dsimp only at h
  have k92 : (kd a93).1 = 0 := mkN_k e91
  refine J.mArr (pc := 140) (t := 0) (N := 48) dX11_init_140 rfl (Or.inl ⟨rfl, rfl⟩) e91 aw_int (by decide) (by decide) (by decide) (by omega) (by omega) ?_
  obtain ⟨μ95, e96, h⟩ := bnd h
  refine J.qR (pc := 142) dX11_init_142 fl_RX11_63 k0 (ptR_ok e96).1 rfl rfl (ptR_ok e96).2 ?_
  refine J.aload_n (pc := 145) dX11_init_145 rfl 0 rfl ?_
  refine J.iconst (pc := 146) dX11_init_146 ic_m1 ?_
  obtain ⟨μ97, e98, h⟩ := bnd h
  refine J.qI (pc := 147) dX11_init_147 fl_RX11_66 k0 (ptI_ok e98).1 rfl rfl (ptI_ok e98).2 ?_
  refine J.aload_n (pc := 150) dX11_init_150 rfl 0 rfl ?_
  refine J.bipush (pc := 151) dX11_init_151 ib_6 ?_
  obtain ⟨⟨a101, μ102⟩, e99, h⟩ := bnd h
  try dsimp only at h
  have k100 : (kd a101).1 = 0 := mkN_k e99
  refine J.mArr (pc := 153) (t := 0) (N := 6) dX11_init_153 rfl (Or.inl ⟨rfl, rfl⟩) e99 aw_int (by decide) (by decide) (by decide) (by omega) (by omega) ?_
  obtain ⟨μ103, e104, h⟩ := bnd h
  refine J.qR (pc := 155) dX11_init_155 fl_RX11_69 k0 (ptR_ok e104).1 rfl rfl (ptR_ok e104).2 ?_
  refine J.aload_n (pc := 158) dX11_init_158 rfl 0 rfl ?_
  refine J.bipush (pc := 159) dX11_init_159 ib_48 ?_
  obtain ⟨⟨a107, μ108⟩, e105, h⟩ := bnd h
  try dsimp only at h
  have k106 : (kd a107).1 = 0 := mkN_k e105
  refine J.mArr (pc := 161) (t := 0) (N := 48) dX11_init_161 rfl (Or.inl ⟨rfl, rfl⟩) e105 aw_int (by decide) (by decide) (by decide) (by omega) (by omega) ?_
  obtain ⟨μ109, e110, h⟩ := bnd h
  refine J.qR (pc := 163) dX11_init_163 fl_RX11_72 k0 (ptR_ok e110).1 rfl rfl (ptR_ok e110).2 ?_
  refine J.aload_n (pc := 166) dX11_init_166 rfl 0 rfl ?_
  refine J.bipush (pc := 167) dX11_init_167 ib_36 ?_
  obtain ⟨⟨a113, μ114⟩, e111, h⟩ := bnd h
  try dsimp only at h
  have k112 : (kd a113).1 = 0 := mkN_k e111
  refine J.mArr (pc := 169) (t := 0) (N := 36) dX11_init_169 rfl (Or.inl ⟨rfl, rfl⟩) e111 aw_int (by decide) (by decide) (by decide) (by omega) (by omega) ?_
  obtain ⟨μ115, e116, h⟩ := bnd h
  refine J.qR (pc := 171) dX11_init_171 fl_RX11_75 k0 (ptR_ok e116).1 rfl rfl (ptR_ok e116).2 ?_
  refine J.aload_n (pc := 174) dX11_init_174 rfl 0 rfl ?_
  refine J.sipush (pc := 175) dX11_init_175 is_448 ?_
  obtain ⟨⟨a119, μ120⟩, e117, h⟩ := bnd h
  try dsimp only at h
  have k118 : (kd a119).1 = 0 := mkN_k e117
  refine J.mArr (pc := 178) (t := 0) (N := 448) dX11_init_178 rfl (Or.inl ⟨rfl, rfl⟩) e117 aw_int (by decide) (by decide) (by decide) (by omega) (by omega) ?_
  obtain ⟨μ121, e122, h⟩ := bnd h
  refine J.qR (pc := 180) dX11_init_180 fl_RX11_78 k0 (ptR_ok e122).1 rfl rfl (ptR_ok e122).2 ?_
  refine J.aload_n (pc := 183) dX11_init_183 rfl 0 rfl ?_
  refine J.bipush (pc := 184) dX11_init_184 ib_24 ?_
  obtain ⟨⟨a125, μ126⟩, e123, h⟩ := bnd h
  try dsimp only at h
  have k124 : (kd a125).1 = 0 := mkN_k e123
  refine J.mArr (pc := 186) (t := 0) (N := 24) dX11_init_186 rfl (Or.inl ⟨rfl, rfl⟩) e123 aw_int (by decide) (by decide) (by decide) (by omega) (by omega) ?_
  obtain ⟨μ127, e128, h⟩ := bnd h
  refine J.qR (pc := 188) dX11_init_188 fl_RX11_81 k0 (ptR_ok e128).1 rfl rfl (ptR_ok e128).2 ?_
  refine J.aload_n (pc := 191) dX11_init_191 rfl 0 rfl ?_
  refine J.bipush (pc := 192) dX11_init_192 ib_6 ?_
  obtain ⟨⟨a131, μ132⟩, e129, h⟩ := bnd h
  try dsimp only at h
  have k130 : (kd a131).1 = 0 := mkN_k e129
  refine J.mArr (pc := 194) (t := 0) (N := 6) dX11_init_194 rfl (Or.inl ⟨rfl, rfl⟩) e129 aw_int (by decide) (by decide) (by decide) (by omega) (by omega) ?_
  obtain ⟨μ133, e134, h⟩ := bnd h
  refine J.qR (pc := 196) dX11_init_196 fl_RX11_84 k0 (ptR_ok e134).1 rfl rfl (ptR_ok e134).2 ?_
  refine J.aload_n (pc := 199) dX11_init_199 rfl 0 rfl ?_
  refine J.sipush (pc := 200) dX11_init_200 is_360 ?_
  obtain ⟨⟨a137, μ138⟩, e135, h⟩ := bnd h
  try dsimp only at h
  have k136 : (kd a137).1 = 0 := mkN_k e135
  refine J.mArr (pc := 203) (t := 0) (N := 360) dX11_init_203 rfl (Or.inl ⟨rfl, rfl⟩) e135 aw_int (by decide) (by decide) (by decide) (by omega) (by omega) ?_
  obtain ⟨μ139, e140, h⟩ := bnd h
  refine J.qR (pc := 205) dX11_init_205 fl_RX11_87 k0 (ptR_ok e140).1 rfl rfl (ptR_ok e140).2 ?_
  refine J.aload_n (pc := 208) dX11_init_208 rfl 0 rfl ?_
  refine J.bipush (pc := 209) dX11_init_209 ib_79 ?_
  obtain ⟨⟨a143, μ144⟩, e141, h⟩ := bnd h
  try dsimp only at h
  have k142 : (kd a143).1 = 0 := mkN_k e141
  refine J.mArr (pc := 211) (t := 0) (N := 79) dX11_init_211 rfl (Or.inl ⟨rfl, rfl⟩) e141 aw_int (by decide) (by decide) (by decide) (by omega) (by omega) ?_
  obtain ⟨μ145, e146, h⟩ := bnd h
  refine J.qR (pc := 213) dX11_init_213 fl_RX11_90 k0 (ptR_ok e146).1 rfl rfl (ptR_ok e146).2 ?_
  refine J.aload_n (pc := 216) dX11_init_216 rfl 0 rfl ?_
  refine J.sipush (pc := 217) dX11_init_217 is_3160 ?_
  obtain ⟨⟨a149, μ150⟩, e147, h⟩ := bnd h
  try dsimp only at h
  have k148 : (kd a149).1 = 0 := mkN_k e147
  refine J.mArr (pc := 220) (t := 0) (N := 3160) dX11_init_220 rfl (Or.inl ⟨rfl, rfl⟩) e147 aw_int (by decide) (by decide) (by decide) (by omega) (by omega) ?_
  obtain ⟨μ151, e152, h⟩ := bnd h
  refine J.qR (pc := 222) dX11_init_222 fl_RX11_93 k0 (ptR_ok e152).1 rfl rfl (ptR_ok e152).2 ?_
  refine J.aload_n (pc := 225) dX11_init_225 rfl 0 rfl ?_
  refine J.bipush (pc := 226) dX11_init_226 ib_24 ?_
  obtain ⟨⟨a155, μ156⟩, e153, h⟩ := bnd h
  try dsimp only at h
  have k154 : (kd a155).1 = 0 := mkN_k e153
  refine J.mArr (pc := 228) (t := 0) (N := 24) dX11_init_228 rfl (Or.inl ⟨rfl, rfl⟩) e153 aw_int (by decide) (by decide) (by decide) (by omega) (by omega) ?_
  obtain ⟨μ157, e158, h⟩ := bnd h
  refine J.qR (pc := 230) dX11_init_230 fl_RX11_96 k0 (ptR_ok e158).1 rfl rfl (ptR_ok e158).2 ?_
  cases h
  exact J.vret (pc := 233) dX11_init_233 rfl ⟨rfl, rfl⟩
def fX11_ink (v0 : Nat) (v1 : Int32) (μ : Mem) : Option (Int32 × Mem) :=
  (some (sI μ v0 0 (0 : Int32))).bind fun μ1 =>
  (fX11_placeOf v0 v1 μ1).bind fun (r6, μ5) =>
  if r6 = (-1 : Int32) then
    some ((0 : Int32), μ5)
  else
    (gR μ5 v0 34 0).bind fun a9 =>
    (ldI μ5 a9 ((1 : Int32) + r6)).bind fun x12 =>
    some (x12, μ5)
set_option maxHeartbeats 4000000 in
theorem tX11_ink {ω : Wd} {l : Launch} (d : Nat) {v0 : Nat} {v1 : Int32} {μ : Mem} {res : Int32 × Mem} (h : fX11_ink v0 v1 μ = some res) (hN : μ.1 = NN) (k0 : (kd v0).1 = 21) : Ct ω l mX11_ink (d + 2) [.ref v0, .int v1] μ 0 0 (PE (.inl (some (.int res.1))) res.2 True) := by
  refine Ct.of pn_RX11 (Nat.le_of_ble_eq_true rfl) ?_
  show J ω l mX11_ink (d + 2) 0 [(0, .ref v0), (1, .int v1)] [] μ 0 0 _
  unfold fX11_ink at h
  refine J.aload_n (pc := 0) dX11_ink_0 rfl 0 rfl ?_
  refine J.iconst (pc := 1) dX11_ink_1 ic_0 ?_
  obtain ⟨μ1, e2, h⟩ := bnd h
  have hN3 : μ1.1 = NN := smN e2 hN
  refine J.qI (pc := 2) dX11_ink_2 fl_RX11_99 k0 (okN hN k0 (by decide)) rfl rfl e2 ?_
  refine J.aload_n (pc := 5) dX11_ink_5 rfl 0 rfl ?_
  refine J.iload_n (pc := 6) dX11_ink_6 rfl 1 rfl ?_
  obtain ⟨⟨r6, μ5⟩, e4, h⟩ := bnd h
  try dsimp only at h
  refine J.callV (Y := mX11_ink) (Z := mX11_placeOf) (pc := 7) (st := []) (k2 := 0) (n2 := 0) dX11_ink_7 ml_RX11_380 mo_X11_placeOf mv_X11_placeOf rfl (tX11_placeOf d e4 hN3 k0) k0 (okN hN3 k0 (by decide)).1 (okN hN3 k0 (by decide)).2 cq_11 (by decide) rfl rfl (Nat.le_of_ble_eq_true rfl) (by decide) (by decide) (fun v ν hp => ?_) (fun i ν hp => nrm hp.1)
  obtain ⟨rfl, rfl, hN7, hb8⟩ := QEl hp
  show J _ _ _ _ 10 _ ([.int r6]) _ _ _ _
  refine J.istore_n (pc := 10) ([(2, .int r6), (0, .ref v0), (1, .int v1)]) dX11_ink_10 rfl (Nat.le_of_ble_eq_true rfl) rfl ?_
  refine J.iload_n (pc := 11) dX11_ink_11 rfl 0 rfl ?_
  refine J.iconst (pc := 12) dX11_ink_12 ic_m1 ?_
  rcases ifc h with ⟨hc, h⟩ | ⟨hc, h⟩
  · refine J.cne (pc := 13) (tgt := 20) dX11_ink_13 (by decide) (fun _ => ?_) (fun q => absurd hc q)
    refine J.iconst (pc := 16) dX11_ink_16 ic_0 ?_
    refine J.goto (pc := 17) (tgt := 28) dX11_ink_17 (by decide) ?_
    cases h
    exact J.iret (pc := 28) dX11_ink_28 rfl ⟨rfl, rfl, hN7, trivial⟩
  · refine J.cne (pc := 13) (tgt := 20) dX11_ink_13 (by decide) (fun q => absurd q hc) (fun _ => ?_)
    refine J.aload_n (pc := 20) dX11_ink_20 rfl 1 rfl ?_
    obtain ⟨a9, e10, h⟩ := bnd h
    have k11 : (kd a9).1 = 0 := gR_k e10
    refine J.fR (pc := 21) dX11_ink_21 fl_RX11_48 k0 (okN hN7 k0 (by decide)) rfl e10 ?_
    refine J.iconst (pc := 24) dX11_ink_24 ic_1 ?_
    refine J.iload_n (pc := 25) dX11_ink_25 rfl 0 rfl ?_
    refine J.iadd (pc := 26) dX11_ink_26 ?_
    obtain ⟨x12, e13, h⟩ := bnd h
    refine J.aI (pc := 27) dX11_ink_27 k11 (okN hN7 k11 (by decide)) e13 ?_
    cases h
    exact J.iret (pc := 28) dX11_ink_28 rfl ⟨rfl, rfl, hN7, trivial⟩
def fX11_isSeen_80  (K2 : Nat → Int32 → Mem → Option (Int32 × Mem)) : Nat → Nat → Int32 → Int32 → Mem → Option (Int32 × Mem)
  | 0, _, _, _, _ => none
  | n + 1, v0, v1, v2, μ =>
    if v2 < (μ.2.1 v0 2) then
      (gR μ v0 51 0).bind fun a1 =>
      (gR μ v0 34 0).bind fun a4 =>
      (ldI μ a4 ((134 : Int32) + v2)).bind fun x7 =>
      (stI μ a1 v2 x7).bind fun μ9 =>
      (fX11_isSeen_80 K2 n) v0 v1 (v2 + (1 : Int32)) μ9
    else
      (fX11_dayGoes v0 (79 : Int32) μ).bind fun μ13 =>
      K2 v0 (v1 + (1 : Int32)) μ13
set_option maxHeartbeats 4000000 in
theorem tX11_isSeen_80 {ω : Wd} {l : Launch} (d : Nat) {res : Int32 × Mem} (K2 : Nat → Int32 → Mem → Option (Int32 × Mem)) (hK2 : ∀ (v0 : Nat) (v1 : Int32) (μ : Mem), K2 v0 v1 μ = some res → μ.1 = NN → (kd v0).1 = 21 → J ω l mX11_isSeen (d + 5) 2 [(0, .ref v0), (1, .int v1)] [] μ 0 0 (PE (.inl (some (.int res.1))) res.2 (isB res.1))) : ∀ n : Nat, ∀ (v0 : Nat) (v1 : Int32) (v2 : Int32) (μ : Mem), fX11_isSeen_80 K2 n v0 v1 v2 μ = some res → μ.1 = NN → (kd v0).1 = 21 → J ω l mX11_isSeen (d + 5) 80 [(0, .ref v0), (1, .int v1), (2, .int v2)] [] μ 0 0 (PE (.inl (some (.int res.1))) res.2 (isB res.1)) := by
  intro n
  induction n with
  | zero =>
    intro v0 v1 v2 μ h hN k0
    have h9 : (none : Option (Int32 × Mem)) = some res := h
    cases h9
  | succ n ih =>
    intro v0 v1 v2 μ h hN k0
    unfold fX11_isSeen_80 at h
    refine J.iload_n (pc := 80) dX11_isSeen_80 rfl 2 rfl ?_
    refine J.aload_n (pc := 81) dX11_isSeen_81 rfl 0 rfl ?_
    refine J.fI (pc := 82) dX11_isSeen_82 fl_RX11_276 k0 (okN hN k0 (by decide)) (Or.inl rfl) ?_
    rcases ifc h with ⟨hc, h⟩ | ⟨hc, h⟩
    · refine J.cge (pc := 85) (tgt := 110) dX11_isSeen_85 (by decide) (fun _ => ?_) (fun q => absurd hc q)
      refine J.aload_n (pc := 88) dX11_isSeen_88 rfl 0 rfl ?_
      obtain ⟨a1, e2, h⟩ := bnd h
      have k3 : (kd a1).1 = 0 := gR_k e2
      refine J.fR (pc := 89) dX11_isSeen_89 fl_RX11_84 k0 (okN hN k0 (by decide)) rfl e2 ?_
      refine J.iload_n (pc := 92) dX11_isSeen_92 rfl 2 rfl ?_
      refine J.aload_n (pc := 93) dX11_isSeen_93 rfl 0 rfl ?_
      obtain ⟨a4, e5, h⟩ := bnd h
      have k6 : (kd a4).1 = 0 := gR_k e5
      refine J.fR (pc := 94) dX11_isSeen_94 fl_RX11_48 k0 (okN hN k0 (by decide)) rfl e5 ?_
      refine J.sipush (pc := 97) dX11_isSeen_97 is_134 ?_
      refine J.iload_n (pc := 100) dX11_isSeen_100 rfl 2 rfl ?_
      refine J.iadd (pc := 101) dX11_isSeen_101 ?_
      obtain ⟨x7, e8, h⟩ := bnd h
      refine J.aI (pc := 102) dX11_isSeen_102 k6 (okN hN k6 (by decide)) e8 ?_
      obtain ⟨μ9, e10, h⟩ := bnd h
      have hN11 : μ9.1 = NN := stI_N e10 hN
      refine J.wI (pc := 103) dX11_isSeen_103 k3 (okN hN k3 (by decide)) e10 ?_
      refine J.iinc (pc := 104) (j := 2) ([(2, .int (v2 + (1 : Int32))), (0, .ref v0), (1, .int v1)]) dX11_isSeen_104 rfl (iincv ic_1) (Nat.le_of_ble_eq_true rfl) rfl ?_
      refine J.goto (pc := 107) (tgt := 80) dX11_isSeen_107 (by decide) ?_
      refine J.pick [1, 2, 0] rfl ?_
      exact ih v0 v1 (v2 + (1 : Int32)) μ9 h hN11 k0
    · refine J.cge (pc := 85) (tgt := 110) dX11_isSeen_85 (by decide) (fun q => absurd q hc) (fun _ => ?_)
      refine J.aload_n (pc := 110) dX11_isSeen_110 rfl 0 rfl ?_
      refine J.bipush (pc := 111) dX11_isSeen_111 ib_79 ?_
      obtain ⟨μ13, e12, h⟩ := bnd h
      refine J.callV (Y := mX11_isSeen) (Z := mX11_dayGoes) (pc := 113) (st := []) (k2 := 0) (n2 := 0) dX11_isSeen_113 ml_RX11_341 mo_X11_dayGoes mv_X11_dayGoes rfl (tX11_dayGoes d e12 hN k0) k0 (okN hN k0 (by decide)).1 (okN hN k0 (by decide)).2 cq_11 (by decide) rfl rfl (Nat.le_of_ble_eq_true rfl) (by decide) (by decide) (fun v ν hp => ?_) (fun i ν hp => nrm hp.1)
      obtain ⟨rfl, rfl, hN14, hb15⟩ := QEl hp
      show J _ _ _ _ 116 _ ([]) _ _ _ _
      refine J.iinc (pc := 116) (j := 1) ([(1, .int (v1 + (1 : Int32))), (0, .ref v0), (2, .int v2)]) dX11_isSeen_116 rfl (iincv ic_1) (Nat.le_of_ble_eq_true rfl) rfl ?_
      refine J.goto (pc := 119) (tgt := 2) dX11_isSeen_119 (by decide) ?_
      refine J.pick [1, 0] rfl ?_
      exact hK2 v0 (v1 + (1 : Int32)) μ13 h hN14 k0
def fX11_isSeen_10  (K2 : Nat → Int32 → Mem → Option (Int32 × Mem)) : Nat → Nat → Int32 → Int32 → Mem → Option (Int32 × Mem)
  | 0, _, _, _, _ => none
  | n + 1, v0, v1, v2, μ =>
    if v2 < (μ.2.1 v0 49) then
      (gR μ v0 50 0).bind fun a1 =>
      (ldI μ a1 (((3 : Int32) * v2) + (2 : Int32))).bind fun x4 =>
      if x4 = v1 then
        (gR μ v0 34 0).bind fun a6 =>
        (gR μ v0 50 0).bind fun a9 =>
        (ldI μ a9 ((3 : Int32) * v2)).bind fun x12 =>
        (ldI μ a6 ((134 : Int32) + x12)).bind fun x14 =>
        (gR μ v0 50 0).bind fun a16 =>
        (ldI μ a16 (((3 : Int32) * v2) + (1 : Int32))).bind fun x19 =>
        if (x14 / (8 : Int32)) = x19 then
          (fX11_isSeen_10 K2 n) v0 v1 (v2 + (1 : Int32)) μ
        else
          some ((0 : Int32), μ)
      else
        (fX11_isSeen_10 K2 n) v0 v1 (v2 + (1 : Int32)) μ
    else
      if v1 = (4 : Int32) then
        (fX11_isSeen_80 K2 fuel) v0 v1 (0 : Int32) μ
      else
        (fX11_dayGoes v0 (79 : Int32) μ).bind fun μ22 =>
        K2 v0 (v1 + (1 : Int32)) μ22
set_option maxHeartbeats 4000000 in
theorem tX11_isSeen_10 {ω : Wd} {l : Launch} (d : Nat) {res : Int32 × Mem} (K2 : Nat → Int32 → Mem → Option (Int32 × Mem)) (hK2 : ∀ (v0 : Nat) (v1 : Int32) (μ : Mem), K2 v0 v1 μ = some res → μ.1 = NN → (kd v0).1 = 21 → J ω l mX11_isSeen (d + 5) 2 [(0, .ref v0), (1, .int v1)] [] μ 0 0 (PE (.inl (some (.int res.1))) res.2 (isB res.1))) : ∀ n : Nat, ∀ (v0 : Nat) (v1 : Int32) (v2 : Int32) (μ : Mem), fX11_isSeen_10 K2 n v0 v1 v2 μ = some res → μ.1 = NN → (kd v0).1 = 21 → J ω l mX11_isSeen (d + 5) 10 [(0, .ref v0), (1, .int v1), (2, .int v2)] [] μ 0 0 (PE (.inl (some (.int res.1))) res.2 (isB res.1)) := by
  intro n
  induction n with
  | zero =>
    intro v0 v1 v2 μ h hN k0
    have h9 : (none : Option (Int32 × Mem)) = some res := h
    cases h9
  | succ n ih =>
    intro v0 v1 v2 μ h hN k0
    unfold fX11_isSeen_10 at h
    refine J.iload_n (pc := 10) dX11_isSeen_10 rfl 2 rfl ?_
    refine J.aload_n (pc := 11) dX11_isSeen_11 rfl 0 rfl ?_
    refine J.fI (pc := 12) dX11_isSeen_12 fl_RX11_286 k0 (okN hN k0 (by decide)) (Or.inl rfl) ?_
    rcases ifc h with ⟨hc, h⟩ | ⟨hc, h⟩
    · refine J.cge (pc := 15) (tgt := 73) dX11_isSeen_15 (by decide) (fun _ => ?_) (fun q => absurd hc q)
      refine J.aload_n (pc := 18) dX11_isSeen_18 rfl 0 rfl ?_
      obtain ⟨a1, e2, h⟩ := bnd h
      have k3 : (kd a1).1 = 0 := gR_k e2
      refine J.fR (pc := 19) dX11_isSeen_19 fl_RX11_81 k0 (okN hN k0 (by decide)) rfl e2 ?_
      refine J.iconst (pc := 22) dX11_isSeen_22 ic_3 ?_
      refine J.iload_n (pc := 23) dX11_isSeen_23 rfl 2 rfl ?_
      refine J.imul (pc := 24) dX11_isSeen_24 ?_
      refine J.iconst (pc := 25) dX11_isSeen_25 ic_2 ?_
      refine J.iadd (pc := 26) dX11_isSeen_26 ?_
      obtain ⟨x4, e5, h⟩ := bnd h
      refine J.aI (pc := 27) dX11_isSeen_27 k3 (okN hN k3 (by decide)) e5 ?_
      refine J.iload_n (pc := 28) dX11_isSeen_28 rfl 1 rfl ?_
      rcases ifc h with ⟨hc, h⟩ | ⟨hc, h⟩
      · refine J.cne (pc := 29) (tgt := 67) dX11_isSeen_29 (by decide) (fun _ => ?_) (fun q => absurd hc q)
        refine J.aload_n (pc := 32) dX11_isSeen_32 rfl 0 rfl ?_
        obtain ⟨a6, e7, h⟩ := bnd h
        have k8 : (kd a6).1 = 0 := gR_k e7
        refine J.fR (pc := 33) dX11_isSeen_33 fl_RX11_48 k0 (okN hN k0 (by decide)) rfl e7 ?_
        refine J.sipush (pc := 36) dX11_isSeen_36 is_134 ?_
        refine J.aload_n (pc := 39) dX11_isSeen_39 rfl 0 rfl ?_
        obtain ⟨a9, e10, h⟩ := bnd h
        have k11 : (kd a9).1 = 0 := gR_k e10
        refine J.fR (pc := 40) dX11_isSeen_40 fl_RX11_81 k0 (okN hN k0 (by decide)) rfl e10 ?_
        refine J.iconst (pc := 43) dX11_isSeen_43 ic_3 ?_
        refine J.iload_n (pc := 44) dX11_isSeen_44 rfl 2 rfl ?_
        refine J.imul (pc := 45) dX11_isSeen_45 ?_
        obtain ⟨x12, e13, h⟩ := bnd h
        refine J.aI (pc := 46) dX11_isSeen_46 k11 (okN hN k11 (by decide)) e13 ?_
        refine J.iadd (pc := 47) dX11_isSeen_47 ?_
        obtain ⟨x14, e15, h⟩ := bnd h
        refine J.aI (pc := 48) dX11_isSeen_48 k8 (okN hN k8 (by decide)) e15 ?_
        refine J.bipush (pc := 49) dX11_isSeen_49 ib_8 ?_
        refine J.idiv (pc := 51) dX11_isSeen_51 (by decide) ?_
        refine J.aload_n (pc := 52) dX11_isSeen_52 rfl 0 rfl ?_
        obtain ⟨a16, e17, h⟩ := bnd h
        have k18 : (kd a16).1 = 0 := gR_k e17
        refine J.fR (pc := 53) dX11_isSeen_53 fl_RX11_81 k0 (okN hN k0 (by decide)) rfl e17 ?_
        refine J.iconst (pc := 56) dX11_isSeen_56 ic_3 ?_
        refine J.iload_n (pc := 57) dX11_isSeen_57 rfl 2 rfl ?_
        refine J.imul (pc := 58) dX11_isSeen_58 ?_
        refine J.iconst (pc := 59) dX11_isSeen_59 ic_1 ?_
        refine J.iadd (pc := 60) dX11_isSeen_60 ?_
        obtain ⟨x19, e20, h⟩ := bnd h
        refine J.aI (pc := 61) dX11_isSeen_61 k18 (okN hN k18 (by decide)) e20 ?_
        rcases ifc h with ⟨hc, h⟩ | ⟨hc, h⟩
        · refine J.ceq (pc := 62) (tgt := 67) dX11_isSeen_62 (by decide) (fun _ => ?_) (fun q => absurd hc q)
          refine J.iinc (pc := 67) (j := 2) ([(2, .int (v2 + (1 : Int32))), (0, .ref v0), (1, .int v1)]) dX11_isSeen_67 rfl (iincv ic_1) (Nat.le_of_ble_eq_true rfl) rfl ?_
          refine J.goto (pc := 70) (tgt := 10) dX11_isSeen_70 (by decide) ?_
          refine J.pick [1, 2, 0] rfl ?_
          exact ih v0 v1 (v2 + (1 : Int32)) μ h hN k0
        · refine J.ceq (pc := 62) (tgt := 67) dX11_isSeen_62 (by decide) (fun q => absurd q hc) (fun _ => ?_)
          refine J.iconst (pc := 65) dX11_isSeen_65 ic_0 ?_
          cases h
          exact J.zret (pc := 66) dX11_isSeen_66 rfl (narB (Or.inl rfl)) ⟨rfl, rfl, hN, (Or.inl rfl)⟩
      · refine J.cne (pc := 29) (tgt := 67) dX11_isSeen_29 (by decide) (fun q => absurd q hc) (fun _ => ?_)
        refine J.iinc (pc := 67) (j := 2) ([(2, .int (v2 + (1 : Int32))), (0, .ref v0), (1, .int v1)]) dX11_isSeen_67 rfl (iincv ic_1) (Nat.le_of_ble_eq_true rfl) rfl ?_
        refine J.goto (pc := 70) (tgt := 10) dX11_isSeen_70 (by decide) ?_
        refine J.pick [1, 2, 0] rfl ?_
        exact ih v0 v1 (v2 + (1 : Int32)) μ h hN k0
    · refine J.cge (pc := 15) (tgt := 73) dX11_isSeen_15 (by decide) (fun q => absurd q hc) (fun _ => ?_)
      refine J.iload_n (pc := 73) dX11_isSeen_73 rfl 1 rfl ?_
      refine J.iconst (pc := 74) dX11_isSeen_74 ic_4 ?_
      rcases ifc h with ⟨hc, h⟩ | ⟨hc, h⟩
      · refine J.cne (pc := 75) (tgt := 110) dX11_isSeen_75 (by decide) (fun _ => ?_) (fun q => absurd hc q)
        refine J.iconst (pc := 78) dX11_isSeen_78 ic_0 ?_
        refine J.istore_n (pc := 79) ([(2, .int (0 : Int32)), (0, .ref v0), (1, .int v1)]) dX11_isSeen_79 rfl (Nat.le_of_ble_eq_true rfl) rfl ?_
        refine J.pick [1, 2, 0] rfl ?_
        exact (tX11_isSeen_80 d K2 hK2 fuel) v0 v1 (0 : Int32) μ h hN k0
      · refine J.cne (pc := 75) (tgt := 110) dX11_isSeen_75 (by decide) (fun q => absurd q hc) (fun _ => ?_)
        refine J.aload_n (pc := 110) dX11_isSeen_110 rfl 0 rfl ?_
        refine J.bipush (pc := 111) dX11_isSeen_111 ib_79 ?_
        obtain ⟨μ22, e21, h⟩ := bnd h
        refine J.callV (Y := mX11_isSeen) (Z := mX11_dayGoes) (pc := 113) (st := []) (k2 := 0) (n2 := 0) dX11_isSeen_113 ml_RX11_341 mo_X11_dayGoes mv_X11_dayGoes rfl (tX11_dayGoes d e21 hN k0) k0 (okN hN k0 (by decide)).1 (okN hN k0 (by decide)).2 cq_11 (by decide) rfl rfl (Nat.le_of_ble_eq_true rfl) (by decide) (by decide) (fun v ν hp => ?_) (fun i ν hp => nrm hp.1)
        obtain ⟨rfl, rfl, hN23, hb24⟩ := QEl hp
        show J _ _ _ _ 116 _ ([]) _ _ _ _
        refine J.iinc (pc := 116) (j := 1) ([(1, .int (v1 + (1 : Int32))), (0, .ref v0), (2, .int v2)]) dX11_isSeen_116 rfl (iincv ic_1) (Nat.le_of_ble_eq_true rfl) rfl ?_
        refine J.goto (pc := 119) (tgt := 2) dX11_isSeen_119 (by decide) ?_
        refine J.pick [1, 0] rfl ?_
        exact hK2 v0 (v1 + (1 : Int32)) μ22 h hN23 k0
def fX11_isSeen_2  : Nat → Nat → Int32 → Mem → Option (Int32 × Mem)
  | 0, _, _, _ => none
  | n + 1, v0, v1, μ =>
    if (20 : Int32) < v1 then
      some ((1 : Int32), μ)
    else
      (fX11_isSeen_10 (fX11_isSeen_2 n) fuel) v0 v1 (0 : Int32) μ
set_option maxHeartbeats 4000000 in
theorem tX11_isSeen_2 {ω : Wd} {l : Launch} (d : Nat) {res : Int32 × Mem} : ∀ n : Nat, ∀ (v0 : Nat) (v1 : Int32) (μ : Mem), fX11_isSeen_2 n v0 v1 μ = some res → μ.1 = NN → (kd v0).1 = 21 → J ω l mX11_isSeen (d + 5) 2 [(0, .ref v0), (1, .int v1)] [] μ 0 0 (PE (.inl (some (.int res.1))) res.2 (isB res.1)) := by
  intro n
  induction n with
  | zero =>
    intro v0 v1 μ h hN k0
    have h9 : (none : Option (Int32 × Mem)) = some res := h
    cases h9
  | succ n ih =>
    intro v0 v1 μ h hN k0
    unfold fX11_isSeen_2 at h
    refine J.iload_n (pc := 2) dX11_isSeen_2 rfl 1 rfl ?_
    refine J.bipush (pc := 3) dX11_isSeen_3 ib_20 ?_
    rcases ifc h with ⟨hc, h⟩ | ⟨hc, h⟩
    · refine J.cgt (pc := 5) (tgt := 122) dX11_isSeen_5 (by decide) (fun _ => ?_) (fun q => absurd hc q)
      refine J.iconst (pc := 122) dX11_isSeen_122 ic_1 ?_
      cases h
      exact J.zret (pc := 123) dX11_isSeen_123 rfl (narB (Or.inr rfl)) ⟨rfl, rfl, hN, (Or.inr rfl)⟩
    · refine J.cgt (pc := 5) (tgt := 122) dX11_isSeen_5 (by decide) (fun q => absurd q hc) (fun _ => ?_)
      refine J.iconst (pc := 8) dX11_isSeen_8 ic_0 ?_
      refine J.istore_n (pc := 9) ([(2, .int (0 : Int32)), (0, .ref v0), (1, .int v1)]) dX11_isSeen_9 rfl (Nat.le_of_ble_eq_true rfl) rfl ?_
      refine J.pick [1, 2, 0] rfl ?_
      exact (tX11_isSeen_10 d (fX11_isSeen_2 n) ih fuel) v0 v1 (0 : Int32) μ h hN k0
def fX11_isSeen (v0 : Nat) (μ : Mem) : Option (Int32 × Mem) :=
  (fX11_isSeen_2 fuel) v0 (0 : Int32) μ
set_option maxHeartbeats 4000000 in
theorem tX11_isSeen {ω : Wd} {l : Launch} (d : Nat) {v0 : Nat} {μ : Mem} {res : Int32 × Mem} (h : fX11_isSeen v0 μ = some res) (hN : μ.1 = NN) (k0 : (kd v0).1 = 21) : Ct ω l mX11_isSeen (d + 5) [.ref v0] μ 0 0 (PE (.inl (some (.int res.1))) res.2 (isB res.1)) := by
  refine Ct.of pn_RX11 (Nat.le_of_ble_eq_true rfl) ?_
  show J ω l mX11_isSeen (d + 5) 0 [(0, .ref v0)] [] μ 0 0 _
  unfold fX11_isSeen at h
  refine J.iconst (pc := 0) dX11_isSeen_0 ic_0 ?_
  refine J.istore_n (pc := 1) ([(1, .int (0 : Int32)), (0, .ref v0)]) dX11_isSeen_1 rfl (Nat.le_of_ble_eq_true rfl) rfl ?_
  refine J.pick [1, 0] rfl ?_
  exact (tX11_isSeen_2 d fuel) v0 (0 : Int32) μ h hN k0
