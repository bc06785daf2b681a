def fX6_refuse (v0 : Nat) (v1 : Int32) (μ : Mem) : Option (Mem) :=
  if (μ.2.1 v0 0) = 0 then
    (some (sI μ v0 0 v1)).bind fun μ1 =>
    (some (sI μ1 v0 1 (μ1.2.1 v0 4))).bind fun μ4 =>
    some μ4
  else
    some μ
set_option maxHeartbeats 4000000 in
theorem tX6_refuse {ω : Wd} {l : Launch} (d : Nat) {v0 : Nat} {v1 : Int32} {μ : Mem} {res : Mem} (h : fX6_refuse v0 v1 μ = some res) (hN : μ.1 = NN) (k0 : (kd v0).1 = 16) : Ct ω l mX6_refuse d [.ref v0, .int v1] μ 0 0 (PE (.inl none) res True) := by
  refine Ct.of pn_RX6 (Nat.le_of_ble_eq_true rfl) ?_
  show J ω l mX6_refuse d 0 [(0, .ref v0), (1, .int v1)] [] μ 0 0 _
  unfold fX6_refuse at h
  refine J.aload_n (pc := 0) dX6_refuse_0 rfl 0 rfl ?_
  refine J.fI (pc := 1) dX6_refuse_1 fl_RX6_9 k0 (okN hN k0 (by decide)) (Or.inl rfl) ?_
  rcases ifc h with ⟨hc, h⟩ | ⟨hc, h⟩
  · refine J.zne (pc := 4) (tgt := 20) dX6_refuse_4 (by decide) (fun _ => ?_) (fun q => absurd hc q)
    refine J.aload_n (pc := 7) dX6_refuse_7 rfl 0 rfl ?_
    refine J.iload_n (pc := 8) dX6_refuse_8 rfl 1 rfl ?_
    obtain ⟨μ1, e2, h⟩ := bnd h
    have hN3 : μ1.1 = NN := smN e2 hN
    refine J.qI (pc := 9) dX6_refuse_9 fl_RX6_9 k0 (okN hN k0 (by decide)) rfl rfl e2 ?_
    refine J.aload_n (pc := 12) dX6_refuse_12 rfl 0 rfl ?_
    refine J.aload_n (pc := 13) dX6_refuse_13 rfl 0 rfl ?_
    refine J.fI (pc := 14) dX6_refuse_14 fl_RX6_25 k0 (okN hN3 k0 (by decide)) (Or.inl rfl) ?_
    obtain ⟨μ4, e5, h⟩ := bnd h
    have hN6 : μ4.1 = NN := smN e5 hN3
    refine J.qI (pc := 17) dX6_refuse_17 fl_RX6_15 k0 (okN hN3 k0 (by decide)) rfl rfl e5 ?_
    cases h
    exact J.vret (pc := 20) dX6_refuse_20 rfl ⟨rfl, rfl, hN6, trivial⟩
  · refine J.zne (pc := 4) (tgt := 20) dX6_refuse_4 (by decide) (fun q => absurd q hc) (fun _ => ?_)
    cases h
    exact J.vret (pc := 20) dX6_refuse_20 rfl ⟨rfl, rfl, hN, trivial⟩
def fX6_pass (v0 : Nat) (v1 : Int32) (μ : Mem) : Option (Mem) :=
  if (μ.2.1 v0 0) = 0 then
    if (μ.2.1 v0 6) = v1 then
      (fX6_advance v0 μ).bind fun μ2 =>
      some μ2
    else
      (fX6_refuse v0 (1 : Int32) μ).bind fun μ6 =>
      some μ6
  else
    some μ
set_option maxHeartbeats 4000000 in
theorem tX6_pass {ω : Wd} {l : Launch} (d : Nat) {v0 : Nat} {v1 : Int32} {μ : Mem} {res : Mem} (h : fX6_pass v0 v1 μ = some res) (hN : μ.1 = NN) (k0 : (kd v0).1 = 16) : Ct ω l mX6_pass (d + 6) [.ref v0, .int v1] μ 0 0 (PE (.inl none) res True) := by
  refine Ct.of pn_RX6 (Nat.le_of_ble_eq_true rfl) ?_
  show J ω l mX6_pass (d + 6) 0 [(0, .ref v0), (1, .int v1)] [] μ 0 0 _
  unfold fX6_pass at h
  refine J.aload_n (pc := 0) dX6_pass_0 rfl 0 rfl ?_
  refine J.fI (pc := 1) dX6_pass_1 fl_RX6_9 k0 (okN hN k0 (by decide)) (Or.inl rfl) ?_
  rcases ifc h with ⟨hc, h⟩ | ⟨hc, h⟩
  · refine J.zeq (pc := 4) (tgt := 8) dX6_pass_4 (by decide) (fun _ => ?_) (fun q => absurd hc q)
    refine J.aload_n (pc := 8) dX6_pass_8 rfl 0 rfl ?_
    refine J.fI (pc := 9) dX6_pass_9 fl_RX6_31 k0 (okN hN k0 (by decide)) (Or.inl rfl) ?_
    refine J.iload_n (pc := 12) dX6_pass_12 rfl 1 rfl ?_
    rcases ifc h with ⟨hc, h⟩ | ⟨hc, h⟩
    · refine J.ceq (pc := 13) (tgt := 24) dX6_pass_13 (by decide) (fun _ => ?_) (fun q => absurd hc q)
      refine J.aload_n (pc := 24) dX6_pass_24 rfl 0 rfl ?_
      obtain ⟨μ2, e1, h⟩ := bnd h
      refine J.callV (pc := 25) (k2 := 0) (n2 := 0) dX6_pass_25 ml_RX6_65 mo_X6_advance mv_X6_advance rfl (tX6_advance d e1 hN k0) k0 (okN hN k0 (by decide)).1 (okN hN k0 (by decide)).2 cq_6 (by decide) rfl rfl (Nat.le_of_ble_eq_true rfl) (by decide) (by decide) (fun v ν hp => ?_) (fun i ν hp => nrm hp.1)
      obtain ⟨rfl, rfl, hN3, hb4⟩ := PEl hp
      show J _ _ _ _ 28 _ ([]) _ _ _ _
      cases h
      exact J.vret (pc := 28) dX6_pass_28 rfl ⟨rfl, rfl, hN3, trivial⟩
    · refine J.ceq (pc := 13) (tgt := 24) dX6_pass_13 (by decide) (fun q => absurd q hc) (fun _ => ?_)
      refine J.aload_n (pc := 16) dX6_pass_16 rfl 0 rfl ?_
      refine J.iconst (pc := 17) dX6_pass_17 ic_1 ?_
      obtain ⟨μ6, e5, h⟩ := bnd h
      refine J.callV (pc := 18) (k2 := 0) (n2 := 0) dX6_pass_18 ml_RX6_109 mo_X6_refuse mv_X6_refuse rfl (tX6_refuse (d + 5) e5 hN k0) k0 (okN hN k0 (by decide)).1 (okN hN k0 (by decide)).2 cq_6 (by decide) rfl rfl (Nat.le_of_ble_eq_true rfl) (by decide) (by decide) (fun v ν hp => ?_) (fun i ν hp => nrm hp.1)
      obtain ⟨rfl, rfl, hN7, hb8⟩ := PEl hp
      show J _ _ _ _ 21 _ ([]) _ _ _ _
      refine J.goto (pc := 21) (tgt := 28) dX6_pass_21 (by decide) ?_
      cases h
      exact J.vret (pc := 28) dX6_pass_28 rfl ⟨rfl, rfl, hN7, trivial⟩
  · refine J.zeq (pc := 4) (tgt := 8) dX6_pass_4 (by decide) (fun q => absurd q hc) (fun _ => ?_)
    cases h
    exact J.vret (pc := 7) dX6_pass_7 rfl ⟨rfl, rfl, hN, trivial⟩
def fX1_addPlace (v0 : Nat) (v1 : Int32) (v2 : Int32) (μ : Mem) : Option (Mem) :=
  (gR μ v0 3 0).bind fun a1 =>
  (ldI μ a1 v1).bind fun x4 =>
  (gR μ v0 3 0).bind fun a6 =>
  (ldI μ a6 v1).bind fun x9 =>
  (stI μ a6 v1 (x9 + (1 : Int32))).bind fun μ11 =>
  (some (sL μ11 v0 2 ((μ11.2.2.1 v0 2) ||| (fX10_bit (((8 : Int32) * v1) + x4))))).bind fun μ17 =>
  (gR μ17 v0 7 19).bind fun a20 =>
  (fX9_setInk a20 (((8 : Int32) * v1) + x4) v2 μ17).bind fun μ24 =>
  some μ24
set_option maxHeartbeats 4000000 in
theorem tX1_addPlace {ω : Wd} {l : Launch} (d : Nat) {v0 : Nat} {v1 : Int32} {v2 : Int32} {μ : Mem} {res : Mem} (h : fX1_addPlace v0 v1 v2 μ = some res) (hN : μ.1 = NN) (k0 : (kd v0).1 = 11) : Ct ω l mX1_addPlace (d + 2) [.ref v0, .int v1, .int v2] μ 0 0 (PE (.inl none) res True) := by
  refine Ct.of pn_RX1 (Nat.le_of_ble_eq_true rfl) ?_
  show J ω l mX1_addPlace (d + 2) 0 [(0, .ref v0), (1, .int v1), (2, .int v2)] [] μ 0 0 _
  unfold fX1_addPlace at h
  refine J.bipush (pc := 0) dX1_addPlace_0 ib_8 ?_
  refine J.iload_n (pc := 2) dX1_addPlace_2 rfl 1 rfl ?_
  refine J.imul (pc := 3) dX1_addPlace_3 ?_
  refine J.aload_n (pc := 4) dX1_addPlace_4 rfl 0 rfl ?_
  obtain ⟨a1, e2, h⟩ := bnd h
  have k3 : (kd a1).1 = 0 := gR_k e2
  refine J.fR (pc := 5) dX1_addPlace_5 fl_RX1_22 k0 (okN hN k0 (by decide)) rfl e2 ?_
  refine J.iload_n (pc := 8) dX1_addPlace_8 rfl 1 rfl ?_
  obtain ⟨x4, e5, h⟩ := bnd h
  refine J.aI (pc := 9) dX1_addPlace_9 k3 (okN hN k3 (by decide)) e5 ?_
  refine J.iadd (pc := 10) dX1_addPlace_10 ?_
  refine J.istore_n (pc := 11) ([(3, .int (((8 : Int32) * v1) + x4)), (0, .ref v0), (1, .int v1), (2, .int v2)]) dX1_addPlace_11 rfl (Nat.le_of_ble_eq_true rfl) rfl ?_
  refine J.aload_n (pc := 12) dX1_addPlace_12 rfl 1 rfl ?_
  obtain ⟨a6, e7, h⟩ := bnd h
  have k8 : (kd a6).1 = 0 := gR_k e7
  refine J.fR (pc := 13) dX1_addPlace_13 fl_RX1_22 k0 (okN hN k0 (by decide)) rfl e7 ?_
  refine J.iload_n (pc := 16) dX1_addPlace_16 rfl 2 rfl ?_
  refine J.dup2 (pc := 17) dX1_addPlace_17 rfl rfl ?_
  obtain ⟨x9, e10, h⟩ := bnd h
  refine J.aI (pc := 18) dX1_addPlace_18 k8 (okN hN k8 (by decide)) e10 ?_
  refine J.iconst (pc := 19) dX1_addPlace_19 ic_1 ?_
  refine J.iadd (pc := 20) dX1_addPlace_20 ?_
  obtain ⟨μ11, e12, h⟩ := bnd h
  have hN13 : μ11.1 = NN := stI_N e12 hN
  refine J.wI (pc := 21) dX1_addPlace_21 k8 (okN hN k8 (by decide)) e12 ?_
  refine J.aload_n (pc := 22) dX1_addPlace_22 rfl 1 rfl ?_
  refine J.dup (pc := 23) dX1_addPlace_23 rfl ?_
  refine J.fL (pc := 24) dX1_addPlace_24 fl_RX1_18 k0 (okN hN13 k0 (by decide)) rfl ?_
  refine J.iload_n (pc := 27) dX1_addPlace_27 rfl 0 rfl ?_
  refine J.callSN (pc := 28) (k2 := 0) (n2 := 0) dX1_addPlace_28 ml_RX1_52 mo_X10_bit ms_X10_bit rfl (tX10_bit (d + 1) (((8 : Int32) * v1) + x4) μ11 hN13 ) (fun i ν hp => nrm hp.1) rfl rfl (Nat.le_of_ble_eq_true rfl) (by decide) (by decide) (fun v ν hp => ?_)
  obtain ⟨rfl, rfl, hN15, hb16⟩ := PEl hp
  show J _ _ _ _ 31 _ ([.long (fX10_bit (((8 : Int32) * v1) + x4)), .long (μ11.2.2.1 v0 2), .ref v0]) _ _ _ _
  refine J.lor (pc := 31) dX1_addPlace_31 ?_
  obtain ⟨μ17, e18, h⟩ := bnd h
  have hN19 : μ17.1 = NN := smN e18 hN15
  refine J.qL (pc := 32) dX1_addPlace_32 fl_RX1_18 k0 (okN hN15 k0 (by decide)) rfl rfl e18 ?_
  refine J.aload_n (pc := 35) dX1_addPlace_35 rfl 1 rfl ?_
  obtain ⟨a20, e21, h⟩ := bnd h
  have k22 : (kd a20).1 = 19 := gR_k e21
  refine J.fR (pc := 36) dX1_addPlace_36 fl_RX1_42 k0 (okN hN19 k0 (by decide)) rfl e21 ?_
  refine J.iload_n (pc := 39) dX1_addPlace_39 rfl 0 rfl ?_
  refine J.iload_n (pc := 40) dX1_addPlace_40 rfl 3 rfl ?_
  obtain ⟨μ24, e23, h⟩ := bnd h
  refine J.callV (pc := 41) (k2 := 0) (n2 := 0) dX1_addPlace_41 ml_RX1_56 mo_X9_setInk mv_X9_setInk rfl (tX9_setInk d e23 hN19 k22) k22 (okN hN19 k22 (by decide)).1 (okN hN19 k22 (by decide)).2 cq_9 (by decide) rfl rfl (Nat.le_of_ble_eq_true rfl) (by decide) (by decide) (fun v ν hp => ?_) (fun i ν hp => nrm hp.1)
  obtain ⟨rfl, rfl, hN25, hb26⟩ := PEl hp
  show J _ _ _ _ 44 _ ([]) _ _ _ _
  cases h
  exact J.vret (pc := 44) dX1_addPlace_44 rfl ⟨rfl, rfl, hN25, trivial⟩
def fX6_numberBelow (v0 : Nat) (v1 : Int32) (v2 : Int32) (μ : Mem) : Option (Int32 × Mem) :=
  if (μ.2.1 v0 0) = 0 then
    if (μ.2.1 v0 6) = (257 : Int32) then
      if (4 : Int32) < ((μ.2.1 v0 5) - (μ.2.1 v0 4)) then
        (fX6_refuse v0 (2 : Int32) μ).bind fun μ2 =>
        if (μ2.2.1 v0 0) = 0 then
          some ((μ2.2.1 v0 7), μ2)
        else
          some ((0 : Int32), μ2)
      else
        if (μ.2.1 v0 7) < v1 then
          if (μ.2.1 v0 0) = 0 then
            some ((μ.2.1 v0 7), μ)
          else
            some ((0 : Int32), μ)
        else
          (fX6_refuse v0 v2 μ).bind fun μ6 =>
          if (μ6.2.1 v0 0) = 0 then
            some ((μ6.2.1 v0 7), μ6)
          else
            some ((0 : Int32), μ6)
    else
      (fX6_refuse v0 (1 : Int32) μ).bind fun μ10 =>
      if (μ10.2.1 v0 0) = 0 then
        some ((μ10.2.1 v0 7), μ10)
      else
        some ((0 : Int32), μ10)
  else
    some ((0 : Int32), μ)
set_option maxHeartbeats 4000000 in
theorem tX6_numberBelow {ω : Wd} {l : Launch} (d : Nat) {v0 : Nat} {v1 : Int32} {v2 : Int32} {μ : Mem} {res : Int32 × Mem} (h : fX6_numberBelow v0 v1 v2 μ = some res) (hN : μ.1 = NN) (k0 : (kd v0).1 = 16) : Ct ω l mX6_numberBelow (d + 1) [.ref v0, .int v1, .int v2] μ 0 0 (PE (.inl (some (.int res.1))) res.2 True) := by
  refine Ct.of pn_RX6 (Nat.le_of_ble_eq_true rfl) ?_
  show J ω l mX6_numberBelow (d + 1) 0 [(0, .ref v0), (1, .int v1), (2, .int v2)] [] μ 0 0 _
  unfold fX6_numberBelow at h
  refine J.aload_n (pc := 0) dX6_numberBelow_0 rfl 0 rfl ?_
  refine J.fI (pc := 1) dX6_numberBelow_1 fl_RX6_9 k0 (okN hN k0 (by decide)) (Or.inl rfl) ?_
  rcases ifc h with ⟨hc, h⟩ | ⟨hc, h⟩
  · refine J.zeq (pc := 4) (tgt := 9) dX6_numberBelow_4 (by decide) (fun _ => ?_) (fun q => absurd hc q)
    refine J.aload_n (pc := 9) dX6_numberBelow_9 rfl 0 rfl ?_
    refine J.fI (pc := 10) dX6_numberBelow_10 fl_RX6_31 k0 (okN hN k0 (by decide)) (Or.inl rfl) ?_
    refine J.sipush (pc := 13) dX6_numberBelow_13 is_257 ?_
    rcases ifc h with ⟨hc, h⟩ | ⟨hc, h⟩
    · refine J.ceq (pc := 16) (tgt := 27) dX6_numberBelow_16 (by decide) (fun _ => ?_) (fun q => absurd hc q)
      refine J.aload_n (pc := 27) dX6_numberBelow_27 rfl 0 rfl ?_
      refine J.fI (pc := 28) dX6_numberBelow_28 fl_RX6_28 k0 (okN hN k0 (by decide)) (Or.inl rfl) ?_
      refine J.aload_n (pc := 31) dX6_numberBelow_31 rfl 0 rfl ?_
      refine J.fI (pc := 32) dX6_numberBelow_32 fl_RX6_25 k0 (okN hN k0 (by decide)) (Or.inl rfl) ?_
      refine J.isub (pc := 35) dX6_numberBelow_35 ?_
      refine J.iconst (pc := 36) dX6_numberBelow_36 ic_4 ?_
      rcases ifc h with ⟨hc, h⟩ | ⟨hc, h⟩
      · refine J.cle (pc := 37) (tgt := 48) dX6_numberBelow_37 (by decide) (fun _ => ?_) (fun q => absurd hc q)
        refine J.aload_n (pc := 40) dX6_numberBelow_40 rfl 0 rfl ?_
        refine J.iconst (pc := 41) dX6_numberBelow_41 ic_2 ?_
        obtain ⟨μ2, e1, h⟩ := bnd h
        refine J.callV (pc := 42) (k2 := 0) (n2 := 0) dX6_numberBelow_42 ml_RX6_109 mo_X6_refuse mv_X6_refuse rfl (tX6_refuse d e1 hN k0) k0 (okN hN k0 (by decide)).1 (okN hN k0 (by decide)).2 cq_6 (by decide) rfl rfl (Nat.le_of_ble_eq_true rfl) (by decide) (by decide) (fun v ν hp => ?_) (fun i ν hp => nrm hp.1)
        obtain ⟨rfl, rfl, hN3, hb4⟩ := PEl hp
        show J _ _ _ _ 45 _ ([]) _ _ _ _
        refine J.goto (pc := 45) (tgt := 61) dX6_numberBelow_45 (by decide) ?_
        refine J.aload_n (pc := 61) dX6_numberBelow_61 rfl 0 rfl ?_
        refine J.fI (pc := 62) dX6_numberBelow_62 fl_RX6_9 k0 (okN hN3 k0 (by decide)) (Or.inl rfl) ?_
        rcases ifc h with ⟨hc, h⟩ | ⟨hc, h⟩
        · refine J.zne (pc := 65) (tgt := 75) dX6_numberBelow_65 (by decide) (fun _ => ?_) (fun q => absurd hc q)
          refine J.aload_n (pc := 68) dX6_numberBelow_68 rfl 0 rfl ?_
          refine J.fI (pc := 69) dX6_numberBelow_69 fl_RX6_34 k0 (okN hN3 k0 (by decide)) (Or.inl rfl) ?_
          refine J.goto (pc := 72) (tgt := 76) dX6_numberBelow_72 (by decide) ?_
          cases h
          exact J.iret (pc := 76) dX6_numberBelow_76 rfl ⟨rfl, rfl, hN3, trivial⟩
        · refine J.zne (pc := 65) (tgt := 75) dX6_numberBelow_65 (by decide) (fun q => absurd q hc) (fun _ => ?_)
          refine J.iconst (pc := 75) dX6_numberBelow_75 ic_0 ?_
          cases h
          exact J.iret (pc := 76) dX6_numberBelow_76 rfl ⟨rfl, rfl, hN3, trivial⟩
      · refine J.cle (pc := 37) (tgt := 48) dX6_numberBelow_37 (by decide) (fun q => absurd q hc) (fun _ => ?_)
        refine J.aload_n (pc := 48) dX6_numberBelow_48 rfl 0 rfl ?_
        refine J.fI (pc := 49) dX6_numberBelow_49 fl_RX6_34 k0 (okN hN k0 (by decide)) (Or.inl rfl) ?_
        refine J.iload_n (pc := 52) dX6_numberBelow_52 rfl 1 rfl ?_
        rcases ifc h with ⟨hc, h⟩ | ⟨hc, h⟩
        · refine J.clt (pc := 53) (tgt := 61) dX6_numberBelow_53 (by decide) (fun _ => ?_) (fun q => absurd hc q)
          refine J.aload_n (pc := 61) dX6_numberBelow_61 rfl 0 rfl ?_
          refine J.fI (pc := 62) dX6_numberBelow_62 fl_RX6_9 k0 (okN hN k0 (by decide)) (Or.inl rfl) ?_
          rcases ifc h with ⟨hc, h⟩ | ⟨hc, h⟩
          · refine J.zne (pc := 65) (tgt := 75) dX6_numberBelow_65 (by decide) (fun _ => ?_) (fun q => absurd hc q)
            refine J.aload_n (pc := 68) dX6_numberBelow_68 rfl 0 rfl ?_
            refine J.fI (pc := 69) dX6_numberBelow_69 fl_RX6_34 k0 (okN hN k0 (by decide)) (Or.inl rfl) ?_
            refine J.goto (pc := 72) (tgt := 76) dX6_numberBelow_72 (by decide) ?_
            cases h
            exact J.iret (pc := 76) dX6_numberBelow_76 rfl ⟨rfl, rfl, hN, trivial⟩
          · refine J.zne (pc := 65) (tgt := 75) dX6_numberBelow_65 (by decide) (fun q => absurd q hc) (fun _ => ?_)
            refine J.iconst (pc := 75) dX6_numberBelow_75 ic_0 ?_
            cases h
            exact J.iret (pc := 76) dX6_numberBelow_76 rfl ⟨rfl, rfl, hN, trivial⟩
        · refine J.clt (pc := 53) (tgt := 61) dX6_numberBelow_53 (by decide) (fun q => absurd q hc) (fun _ => ?_)
          refine J.aload_n (pc := 56) dX6_numberBelow_56 rfl 0 rfl ?_
          refine J.iload_n (pc := 57) dX6_numberBelow_57 rfl 2 rfl ?_
          obtain ⟨μ6, e5, h⟩ := bnd h
          refine J.callV (pc := 58) (k2 := 0) (n2 := 0) dX6_numberBelow_58 ml_RX6_109 mo_X6_refuse mv_X6_refuse rfl (tX6_refuse d e5 hN k0) k0 (okN hN k0 (by decide)).1 (okN hN k0 (by decide)).2 cq_6 (by decide) rfl rfl (Nat.le_of_ble_eq_true rfl) (by decide) (by decide) (fun v ν hp => ?_) (fun i ν hp => nrm hp.1)
          obtain ⟨rfl, rfl, hN7, hb8⟩ := PEl hp
          show J _ _ _ _ 61 _ ([]) _ _ _ _
          refine J.aload_n (pc := 61) dX6_numberBelow_61 rfl 0 rfl ?_
          refine J.fI (pc := 62) dX6_numberBelow_62 fl_RX6_9 k0 (okN hN7 k0 (by decide)) (Or.inl rfl) ?_
          rcases ifc h with ⟨hc, h⟩ | ⟨hc, h⟩
          · refine J.zne (pc := 65) (tgt := 75) dX6_numberBelow_65 (by decide) (fun _ => ?_) (fun q => absurd hc q)
            refine J.aload_n (pc := 68) dX6_numberBelow_68 rfl 0 rfl ?_
            refine J.fI (pc := 69) dX6_numberBelow_69 fl_RX6_34 k0 (okN hN7 k0 (by decide)) (Or.inl rfl) ?_
            refine J.goto (pc := 72) (tgt := 76) dX6_numberBelow_72 (by decide) ?_
            cases h
            exact J.iret (pc := 76) dX6_numberBelow_76 rfl ⟨rfl, rfl, hN7, trivial⟩
          · refine J.zne (pc := 65) (tgt := 75) dX6_numberBelow_65 (by decide) (fun q => absurd q hc) (fun _ => ?_)
            refine J.iconst (pc := 75) dX6_numberBelow_75 ic_0 ?_
            cases h
            exact J.iret (pc := 76) dX6_numberBelow_76 rfl ⟨rfl, rfl, hN7, trivial⟩
    · refine J.ceq (pc := 16) (tgt := 27) dX6_numberBelow_16 (by decide) (fun q => absurd q hc) (fun _ => ?_)
      refine J.aload_n (pc := 19) dX6_numberBelow_19 rfl 0 rfl ?_
      refine J.iconst (pc := 20) dX6_numberBelow_20 ic_1 ?_
      obtain ⟨μ10, e9, h⟩ := bnd h
      refine J.callV (pc := 21) (k2 := 0) (n2 := 0) dX6_numberBelow_21 ml_RX6_109 mo_X6_refuse mv_X6_refuse rfl (tX6_refuse d e9 hN k0) k0 (okN hN k0 (by decide)).1 (okN hN k0 (by decide)).2 cq_6 (by decide) rfl rfl (Nat.le_of_ble_eq_true rfl) (by decide) (by decide) (fun v ν hp => ?_) (fun i ν hp => nrm hp.1)
      obtain ⟨rfl, rfl, hN11, hb12⟩ := PEl hp
      show J _ _ _ _ 24 _ ([]) _ _ _ _
      refine J.goto (pc := 24) (tgt := 61) dX6_numberBelow_24 (by decide) ?_
      refine J.aload_n (pc := 61) dX6_numberBelow_61 rfl 0 rfl ?_
      refine J.fI (pc := 62) dX6_numberBelow_62 fl_RX6_9 k0 (okN hN11 k0 (by decide)) (Or.inl rfl) ?_
      rcases ifc h with ⟨hc, h⟩ | ⟨hc, h⟩
      · refine J.zne (pc := 65) (tgt := 75) dX6_numberBelow_65 (by decide) (fun _ => ?_) (fun q => absurd hc q)
        refine J.aload_n (pc := 68) dX6_numberBelow_68 rfl 0 rfl ?_
        refine J.fI (pc := 69) dX6_numberBelow_69 fl_RX6_34 k0 (okN hN11 k0 (by decide)) (Or.inl rfl) ?_
        refine J.goto (pc := 72) (tgt := 76) dX6_numberBelow_72 (by decide) ?_
        cases h
        exact J.iret (pc := 76) dX6_numberBelow_76 rfl ⟨rfl, rfl, hN11, trivial⟩
      · refine J.zne (pc := 65) (tgt := 75) dX6_numberBelow_65 (by decide) (fun q => absurd q hc) (fun _ => ?_)
        refine J.iconst (pc := 75) dX6_numberBelow_75 ic_0 ?_
        cases h
        exact J.iret (pc := 76) dX6_numberBelow_76 rfl ⟨rfl, rfl, hN11, trivial⟩
  · refine J.zeq (pc := 4) (tgt := 9) dX6_numberBelow_4 (by decide) (fun q => absurd q hc) (fun _ => ?_)
    refine J.iconst (pc := 7) dX6_numberBelow_7 ic_0 ?_
    cases h
    exact J.iret (pc := 8) dX6_numberBelow_8 rfl ⟨rfl, rfl, hN, trivial⟩
def fX6_readDeed_39  : Nat → Nat → Int32 → Int32 → Mem → Option (Mem)
  | 0, _, _, _, _ => none
  | n + 1, v0, v1, v2, μ =>
    if (8 : Int32) < v2 then
      some μ
    else
      if (μ.2.1 v0 0) = 0 then
        if v2 = 0 then
          if v2 < (8 : Int32) then
            (fX6_numberBelow v0 (10 : Int32) (2 : Int32) μ).bind fun (r3, μ2) =>
            if (μ2.2.1 v0 0) = 0 then
              (gR μ2 v0 8 11).bind fun a6 =>
              (fX1_addPlace a6 v1 r3 μ2).bind fun μ10 =>
              (fX6_advance v0 μ10).bind fun μ14 =>
              (fX6_readDeed_39 n) v0 v1 (v2 + (1 : Int32)) μ14
            else
              (fX6_readDeed_39 n) v0 v1 (v2 + (1 : Int32)) μ2
          else
            (fX6_numberBelow v0 (0 : Int32) (2 : Int32) μ).bind fun (r19, μ18) =>
            if (μ18.2.1 v0 0) = 0 then
              (gR μ18 v0 8 11).bind fun a22 =>
              (fX1_addPlace a22 v1 r19 μ18).bind fun μ26 =>
              (fX6_advance v0 μ26).bind fun μ30 =>
              (fX6_readDeed_39 n) v0 v1 (v2 + (1 : Int32)) μ30
            else
              (fX6_readDeed_39 n) v0 v1 (v2 + (1 : Int32)) μ18
        else
          if (μ.2.1 v0 6) = (257 : Int32) then
            if v2 < (8 : Int32) then
              (fX6_numberBelow v0 (10 : Int32) (2 : Int32) μ).bind fun (r35, μ34) =>
              if (μ34.2.1 v0 0) = 0 then
                (gR μ34 v0 8 11).bind fun a38 =>
                (fX1_addPlace a38 v1 r35 μ34).bind fun μ42 =>
                (fX6_advance v0 μ42).bind fun μ46 =>
                (fX6_readDeed_39 n) v0 v1 (v2 + (1 : Int32)) μ46
              else
                (fX6_readDeed_39 n) v0 v1 (v2 + (1 : Int32)) μ34
            else
              (fX6_numberBelow v0 (0 : Int32) (2 : Int32) μ).bind fun (r51, μ50) =>
              if (μ50.2.1 v0 0) = 0 then
                (gR μ50 v0 8 11).bind fun a54 =>
                (fX1_addPlace a54 v1 r51 μ50).bind fun μ58 =>
                (fX6_advance v0 μ58).bind fun μ62 =>
                (fX6_readDeed_39 n) v0 v1 (v2 + (1 : Int32)) μ62
              else
                (fX6_readDeed_39 n) v0 v1 (v2 + (1 : Int32)) μ50
          else
            some μ
      else
        some μ
set_option maxHeartbeats 4000000 in
theorem tX6_readDeed_39 {ω : Wd} {l : Launch} (d : Nat) {res : Mem} : ∀ n : Nat, ∀ (v0 : Nat) (v1 : Int32) (v2 : Int32) (μ : Mem), fX6_readDeed_39 n v0 v1 v2 μ = some res → μ.1 = NN → (kd v0).1 = 16 → J ω l mX6_readDeed (d + 6) 39 [(0, .ref v0), (1, .int v1), (2, .int v2)] [] μ 0 0 (PE (.inl none) res True) := by
  intro n
  induction n with
  | zero =>
    intro v0 v1 v2 μ h hN k0
    have h9 : (none : Option (Mem)) = some res := h
    cases h9
  | succ n ih =>
    intro v0 v1 v2 μ h hN k0
    unfold fX6_readDeed_39 at h
    refine J.iload_n (pc := 39) dX6_readDeed_39 rfl 2 rfl ?_
    refine J.bipush (pc := 40) dX6_readDeed_40 ib_8 ?_
    rcases ifc h with ⟨hc, h⟩ | ⟨hc, h⟩
    · refine J.cgt (pc := 42) (tgt := 110) dX6_readDeed_42 (by decide) (fun _ => ?_) (fun q => absurd hc q)
      cases h
      exact J.vret (pc := 110) dX6_readDeed_110 rfl ⟨rfl, rfl, hN, trivial⟩
    · refine J.cgt (pc := 42) (tgt := 110) dX6_readDeed_42 (by decide) (fun q => absurd q hc) (fun _ => ?_)
      refine J.aload_n (pc := 45) dX6_readDeed_45 rfl 0 rfl ?_
      refine J.fI (pc := 46) dX6_readDeed_46 fl_RX6_9 k0 (okN hN k0 (by decide)) (Or.inl rfl) ?_
      rcases ifc h with ⟨hc, h⟩ | ⟨hc, h⟩
      · refine J.zne (pc := 49) (tgt := 110) dX6_readDeed_49 (by decide) (fun _ => ?_) (fun q => absurd hc q)
        refine J.iload_n (pc := 52) dX6_readDeed_52 rfl 2 rfl ?_
        rcases ifc h with ⟨hc, h⟩ | ⟨hc, h⟩
        · refine J.zeq (pc := 53) (tgt := 66) dX6_readDeed_53 (by decide) (fun _ => ?_) (fun q => absurd hc q)
          refine J.aload_n (pc := 66) dX6_readDeed_66 rfl 0 rfl ?_
          refine J.iload_n (pc := 67) dX6_readDeed_67 rfl 2 rfl ?_
          refine J.bipush (pc := 68) dX6_readDeed_68 ib_8 ?_
          rcases ifc h with ⟨hc, h⟩ | ⟨hc, h⟩
          · refine J.cge (pc := 70) (tgt := 78) dX6_readDeed_70 (by decide) (fun _ => ?_) (fun q => absurd hc q)
            refine J.bipush (pc := 73) dX6_readDeed_73 ib_10 ?_
            refine J.goto (pc := 75) (tgt := 79) dX6_readDeed_75 (by decide) ?_
            refine J.iconst (pc := 79) dX6_readDeed_79 ic_2 ?_
            obtain ⟨⟨r3, μ2⟩, e1, h⟩ := bnd h
            try dsimp only at h
            refine J.callV (pc := 80) (k2 := 0) (n2 := 0) dX6_readDeed_80 ml_RX6_143 mo_X6_numberBelow mv_X6_numberBelow rfl (tX6_numberBelow (d + 4) e1 hN k0) k0 (okN hN k0 (by decide)).1 (okN hN k0 (by decide)).2 cq_6 (by decide) rfl rfl (Nat.le_of_ble_eq_true rfl) (by decide) (by decide) (fun v ν hp => ?_) (fun i ν hp => nrm hp.1)
            obtain ⟨rfl, rfl, hN4, hb5⟩ := PEl hp
            show J _ _ _ _ 83 _ ([.int r3]) _ _ _ _
            refine J.istore_n (pc := 83) ([(3, .int r3), (0, .ref v0), (1, .int v1), (2, .int v2)]) dX6_readDeed_83 rfl (Nat.le_of_ble_eq_true rfl) rfl ?_
            refine J.aload_n (pc := 84) dX6_readDeed_84 rfl 1 rfl ?_
            refine J.fI (pc := 85) dX6_readDeed_85 fl_RX6_9 k0 (okN hN4 k0 (by decide)) (Or.inl rfl) ?_
            rcases ifc h with ⟨hc, h⟩ | ⟨hc, h⟩
            · refine J.zne (pc := 88) (tgt := 104) dX6_readDeed_88 (by decide) (fun _ => ?_) (fun q => absurd hc q)
              refine J.aload_n (pc := 91) dX6_readDeed_91 rfl 1 rfl ?_
              obtain ⟨a6, e7, h⟩ := bnd h
              have k8 : (kd a6).1 = 11 := gR_k e7
              refine J.fR (pc := 92) dX6_readDeed_92 fl_RX6_43 k0 (okN hN4 k0 (by decide)) rfl e7 ?_
              refine J.iload_n (pc := 95) dX6_readDeed_95 rfl 2 rfl ?_
              refine J.iload_n (pc := 96) dX6_readDeed_96 rfl 0 rfl ?_
              obtain ⟨μ10, e9, h⟩ := bnd h
              refine J.callV (pc := 97) (k2 := 0) (n2 := 0) dX6_readDeed_97 ml_RX6_146 mo_X1_addPlace mv_X1_addPlace rfl (tX1_addPlace (d + 3) e9 hN4 k8) k8 (okN hN4 k8 (by decide)).1 (okN hN4 k8 (by decide)).2 cq_1 (by decide) rfl rfl (Nat.le_of_ble_eq_true rfl) (by decide) (by decide) (fun v ν hp => ?_) (fun i ν hp => nrm hp.1)
              obtain ⟨rfl, rfl, hN11, hb12⟩ := PEl hp
              show J _ _ _ _ 100 _ ([]) _ _ _ _
              refine J.aload_n (pc := 100) dX6_readDeed_100 rfl 1 rfl ?_
              obtain ⟨μ14, e13, h⟩ := bnd h
              refine J.callV (pc := 101) (k2 := 0) (n2 := 0) dX6_readDeed_101 ml_RX6_65 mo_X6_advance mv_X6_advance rfl (tX6_advance d e13 hN11 k0) k0 (okN hN11 k0 (by decide)).1 (okN hN11 k0 (by decide)).2 cq_6 (by decide) rfl rfl (Nat.le_of_ble_eq_true rfl) (by decide) (by decide) (fun v ν hp => ?_) (fun i ν hp => nrm hp.1)
              obtain ⟨rfl, rfl, hN15, hb16⟩ := PEl hp
              show J _ _ _ _ 104 _ ([]) _ _ _ _
              refine J.iinc (pc := 104) (j := 3) ([(2, .int (v2 + (1 : Int32))), (3, .int r3), (0, .ref v0), (1, .int v1)]) dX6_readDeed_104 rfl (iincv ic_1) (Nat.le_of_ble_eq_true rfl) rfl ?_
              refine J.goto (pc := 107) (tgt := 39) dX6_readDeed_107 (by decide) ?_
              refine J.pick [2, 3, 0] rfl ?_
              exact ih v0 v1 (v2 + (1 : Int32)) μ14 h hN15 k0
            · refine J.zne (pc := 88) (tgt := 104) dX6_readDeed_88 (by decide) (fun q => absurd q hc) (fun _ => ?_)
              refine J.iinc (pc := 104) (j := 3) ([(2, .int (v2 + (1 : Int32))), (3, .int r3), (0, .ref v0), (1, .int v1)]) dX6_readDeed_104 rfl (iincv ic_1) (Nat.le_of_ble_eq_true rfl) rfl ?_
              refine J.goto (pc := 107) (tgt := 39) dX6_readDeed_107 (by decide) ?_
              refine J.pick [2, 3, 0] rfl ?_
              exact ih v0 v1 (v2 + (1 : Int32)) μ2 h hN4 k0
          · refine J.cge (pc := 70) (tgt := 78) dX6_readDeed_70 (by decide) (fun q => absurd q hc) (fun _ => ?_)
            refine J.iconst (pc := 78) dX6_readDeed_78 ic_0 ?_
            refine J.iconst (pc := 79) dX6_readDeed_79 ic_2 ?_
            obtain ⟨⟨r19, μ18⟩, e17, h⟩ := bnd h
            try dsimp only at h
            refine J.callV (pc := 80) (k2 := 0) (n2 := 0) dX6_readDeed_80 ml_RX6_143 mo_X6_numberBelow mv_X6_numberBelow rfl (tX6_numberBelow (d + 4) e17 hN k0) k0 (okN hN k0 (by decide)).1 (okN hN k0 (by decide)).2 cq_6 (by decide) rfl rfl (Nat.le_of_ble_eq_true rfl) (by decide) (by decide) (fun v ν hp => ?_) (fun i ν hp => nrm hp.1)
            obtain ⟨rfl, rfl, hN20, hb21⟩ := PEl hp
            show J _ _ _ _ 83 _ ([.int r19]) _ _ _ _
            refine J.istore_n (pc := 83) ([(3, .int r19), (0, .ref v0), (1, .int v1), (2, .int v2)]) dX6_readDeed_83 rfl (Nat.le_of_ble_eq_true rfl) rfl ?_
            refine J.aload_n (pc := 84) dX6_readDeed_84 rfl 1 rfl ?_
            refine J.fI (pc := 85) dX6_readDeed_85 fl_RX6_9 k0 (okN hN20 k0 (by decide)) (Or.inl rfl) ?_
            rcases ifc h with ⟨hc, h⟩ | ⟨hc, h⟩
            · refine J.zne (pc := 88) (tgt := 104) dX6_readDeed_88 (by decide) (fun _ => ?_) (fun q => absurd hc q)
              refine J.aload_n (pc := 91) dX6_readDeed_91 rfl 1 rfl ?_
              obtain ⟨a22, e23, h⟩ := bnd h
              have k24 : (kd a22).1 = 11 := gR_k e23
              refine J.fR (pc := 92) dX6_readDeed_92 fl_RX6_43 k0 (okN hN20 k0 (by decide)) rfl e23 ?_
              refine J.iload_n (pc := 95) dX6_readDeed_95 rfl 2 rfl ?_
              refine J.iload_n (pc := 96) dX6_readDeed_96 rfl 0 rfl ?_
              obtain ⟨μ26, e25, h⟩ := bnd h
              refine J.callV (pc := 97) (k2 := 0) (n2 := 0) dX6_readDeed_97 ml_RX6_146 mo_X1_addPlace mv_X1_addPlace rfl (tX1_addPlace (d + 3) e25 hN20 k24) k24 (okN hN20 k24 (by decide)).1 (okN hN20 k24 (by decide)).2 cq_1 (by decide) rfl rfl (Nat.le_of_ble_eq_true rfl) (by decide) (by decide) (fun v ν hp => ?_) (fun i ν hp => nrm hp.1)
              obtain ⟨rfl, rfl, hN27, hb28⟩ := PEl hp
              show J _ _ _ _ 100 _ ([]) _ _ _ _
              refine J.aload_n (pc := 100) dX6_readDeed_100 rfl 1 rfl ?_
              obtain ⟨μ30, e29, h⟩ := bnd h
              refine J.callV (pc := 101) (k2 := 0) (n2 := 0) dX6_readDeed_101 ml_RX6_65 mo_X6_advance mv_X6_advance rfl (tX6_advance d e29 hN27 k0) k0 (okN hN27 k0 (by decide)).1 (okN hN27 k0 (by decide)).2 cq_6 (by decide) rfl rfl (Nat.le_of_ble_eq_true rfl) (by decide) (by decide) (fun v ν hp => ?_) (fun i ν hp => nrm hp.1)
              obtain ⟨rfl, rfl, hN31, hb32⟩ := PEl hp
              show J _ _ _ _ 104 _ ([]) _ _ _ _
              refine J.iinc (pc := 104) (j := 3) ([(2, .int (v2 + (1 : Int32))), (3, .int r19), (0, .ref v0), (1, .int v1)]) dX6_readDeed_104 rfl (iincv ic_1) (Nat.le_of_ble_eq_true rfl) rfl ?_
              refine J.goto (pc := 107) (tgt := 39) dX6_readDeed_107 (by decide) ?_
              refine J.pick [2, 3, 0] rfl ?_
              exact ih v0 v1 (v2 + (1 : Int32)) μ30 h hN31 k0
            · refine J.zne (pc := 88) (tgt := 104) dX6_readDeed_88 (by decide) (fun q => absurd q hc) (fun _ => ?_)
              refine J.iinc (pc := 104) (j := 3) ([(2, .int (v2 + (1 : Int32))), (3, .int r19), (0, .ref v0), (1, .int v1)]) dX6_readDeed_104 rfl (iincv ic_1) (Nat.le_of_ble_eq_true rfl) rfl ?_
              refine J.goto (pc := 107) (tgt := 39) dX6_readDeed_107 (by decide) ?_
              refine J.pick [2, 3, 0] rfl ?_
              exact ih v0 v1 (v2 + (1 : Int32)) μ18 h hN20 k0
        · refine J.zeq (pc := 53) (tgt := 66) dX6_readDeed_53 (by decide) (fun q => absurd q hc) (fun _ => ?_)
          refine J.aload_n (pc := 56) dX6_readDeed_56 rfl 0 rfl ?_
          refine J.fI (pc := 57) dX6_readDeed_57 fl_RX6_31 k0 (okN hN k0 (by decide)) (Or.inl rfl) ?_
          refine J.sipush (pc := 60) dX6_readDeed_60 is_257 ?_
          rcases ifc h with ⟨hc, h⟩ | ⟨hc, h⟩
          · refine J.cne (pc := 63) (tgt := 110) dX6_readDeed_63 (by decide) (fun _ => ?_) (fun q => absurd hc q)
            refine J.aload_n (pc := 66) dX6_readDeed_66 rfl 0 rfl ?_
            refine J.iload_n (pc := 67) dX6_readDeed_67 rfl 2 rfl ?_
            refine J.bipush (pc := 68) dX6_readDeed_68 ib_8 ?_
            rcases ifc h with ⟨hc, h⟩ | ⟨hc, h⟩
            · refine J.cge (pc := 70) (tgt := 78) dX6_readDeed_70 (by decide) (fun _ => ?_) (fun q => absurd hc q)
              refine J.bipush (pc := 73) dX6_readDeed_73 ib_10 ?_
              refine J.goto (pc := 75) (tgt := 79) dX6_readDeed_75 (by decide) ?_
              refine J.iconst (pc := 79) dX6_readDeed_79 ic_2 ?_
              obtain ⟨⟨r35, μ34⟩, e33, h⟩ := bnd h
              try dsimp only at h
              refine J.callV (pc := 80) (k2 := 0) (n2 := 0) dX6_readDeed_80 ml_RX6_143 mo_X6_numberBelow mv_X6_numberBelow rfl (tX6_numberBelow (d + 4) e33 hN k0) k0 (okN hN k0 (by decide)).1 (okN hN k0 (by decide)).2 cq_6 (by decide) rfl rfl (Nat.le_of_ble_eq_true rfl) (by decide) (by decide) (fun v ν hp => ?_) (fun i ν hp => nrm hp.1)
              obtain ⟨rfl, rfl, hN36, hb37⟩ := PEl hp
              show J _ _ _ _ 83 _ ([.int r35]) _ _ _ _
              refine J.istore_n (pc := 83) ([(3, .int r35), (0, .ref v0), (1, .int v1), (2, .int v2)]) dX6_readDeed_83 rfl (Nat.le_of_ble_eq_true rfl) rfl ?_
              refine J.aload_n (pc := 84) dX6_readDeed_84 rfl 1 rfl ?_
              refine J.fI (pc := 85) dX6_readDeed_85 fl_RX6_9 k0 (okN hN36 k0 (by decide)) (Or.inl rfl) ?_
              rcases ifc h with ⟨hc, h⟩ | ⟨hc, h⟩
              · refine J.zne (pc := 88) (tgt := 104) dX6_readDeed_88 (by decide) (fun _ => ?_) (fun q => absurd hc q)
                refine J.aload_n (pc := 91) dX6_readDeed_91 rfl 1 rfl ?_
                obtain ⟨a38, e39, h⟩ := bnd h
                have k40 : (kd a38).1 = 11 := gR_k e39
                refine J.fR (pc := 92) dX6_readDeed_92 fl_RX6_43 k0 (okN hN36 k0 (by decide)) rfl e39 ?_
                refine J.iload_n (pc := 95) dX6_readDeed_95 rfl 2 rfl ?_
                refine J.iload_n (pc := 96) dX6_readDeed_96 rfl 0 rfl ?_
                obtain ⟨μ42, e41, h⟩ := bnd h
                refine J.callV (pc := 97) (k2 := 0) (n2 := 0) dX6_readDeed_97 ml_RX6_146 mo_X1_addPlace mv_X1_addPlace rfl (tX1_addPlace (d + 3) e41 hN36 k40) k40 (okN hN36 k40 (by decide)).1 (okN hN36 k40 (by decide)).2 cq_1 (by decide) rfl rfl (Nat.le_of_ble_eq_true rfl) (by decide) (by decide) (fun v ν hp => ?_) (fun i ν hp => nrm hp.1)
                obtain ⟨rfl, rfl, hN43, hb44⟩ := PEl hp
                show J _ _ _ _ 100 _ ([]) _ _ _ _
                refine J.aload_n (pc := 100) dX6_readDeed_100 rfl 1 rfl ?_
                obtain ⟨μ46, e45, h⟩ := bnd h
                refine J.callV (pc := 101) (k2 := 0) (n2 := 0) dX6_readDeed_101 ml_RX6_65 mo_X6_advance mv_X6_advance rfl (tX6_advance d e45 hN43 k0) k0 (okN hN43 k0 (by decide)).1 (okN hN43 k0 (by decide)).2 cq_6 (by decide) rfl rfl (Nat.le_of_ble_eq_true rfl) (by decide) (by decide) (fun v ν hp => ?_) (fun i ν hp => nrm hp.1)
                obtain ⟨rfl, rfl, hN47, hb48⟩ := PEl hp
                show J _ _ _ _ 104 _ ([]) _ _ _ _
                refine J.iinc (pc := 104) (j := 3) ([(2, .int (v2 + (1 : Int32))), (3, .int r35), (0, .ref v0), (1, .int v1)]) dX6_readDeed_104 rfl (iincv ic_1) (Nat.le_of_ble_eq_true rfl) rfl ?_
                refine J.goto (pc := 107) (tgt := 39) dX6_readDeed_107 (by decide) ?_
                refine J.pick [2, 3, 0] rfl ?_
                exact ih v0 v1 (v2 + (1 : Int32)) μ46 h hN47 k0
              · refine J.zne (pc := 88) (tgt := 104) dX6_readDeed_88 (by decide) (fun q => absurd q hc) (fun _ => ?_)
                refine J.iinc (pc := 104) (j := 3) ([(2, .int (v2 + (1 : Int32))), (3, .int r35), (0, .ref v0), (1, .int v1)]) dX6_readDeed_104 rfl (iincv ic_1) (Nat.le_of_ble_eq_true rfl) rfl ?_
                refine J.goto (pc := 107) (tgt := 39) dX6_readDeed_107 (by decide) ?_
                refine J.pick [2, 3, 0] rfl ?_
                exact ih v0 v1 (v2 + (1 : Int32)) μ34 h hN36 k0
            · refine J.cge (pc := 70) (tgt := 78) dX6_readDeed_70 (by decide) (fun q => absurd q hc) (fun _ => ?_)
              refine J.iconst (pc := 78) dX6_readDeed_78 ic_0 ?_
              refine J.iconst (pc := 79) dX6_readDeed_79 ic_2 ?_
              obtain ⟨⟨r51, μ50⟩, e49, h⟩ := bnd h
              try dsimp only at h
              refine J.callV (pc := 80) (k2 := 0) (n2 := 0) dX6_readDeed_80 ml_RX6_143 mo_X6_numberBelow mv_X6_numberBelow rfl (tX6_numberBelow (d + 4) e49 hN k0) k0 (okN hN k0 (by decide)).1 (okN hN k0 (by decide)).2 cq_6 (by decide) rfl rfl (Nat.le_of_ble_eq_true rfl) (by decide) (by decide) (fun v ν hp => ?_) (fun i ν hp => nrm hp.1)
              obtain ⟨rfl, rfl, hN52, hb53⟩ := PEl hp
              show J _ _ _ _ 83 _ ([.int r51]) _ _ _ _
              refine J.istore_n (pc := 83) ([(3, .int r51), (0, .ref v0), (1, .int v1), (2, .int v2)]) dX6_readDeed_83 rfl (Nat.le_of_ble_eq_true rfl) rfl ?_
              refine J.aload_n (pc := 84) dX6_readDeed_84 rfl 1 rfl ?_
              refine J.fI (pc := 85) dX6_readDeed_85 fl_RX6_9 k0 (okN hN52 k0 (by decide)) (Or.inl rfl) ?_
              rcases ifc h with ⟨hc, h⟩ | ⟨hc, h⟩
              · refine J.zne (pc := 88) (tgt := 104) dX6_readDeed_88 (by decide) (fun _ => ?_) (fun q => absurd hc q)
                refine J.aload_n (pc := 91) dX6_readDeed_91 rfl 1 rfl ?_
                obtain ⟨a54, e55, h⟩ := bnd h
                have k56 : (kd a54).1 = 11 := gR_k e55
                refine J.fR (pc := 92) dX6_readDeed_92 fl_RX6_43 k0 (okN hN52 k0 (by decide)) rfl e55 ?_
                refine J.iload_n (pc := 95) dX6_readDeed_95 rfl 2 rfl ?_
                refine J.iload_n (pc := 96) dX6_readDeed_96 rfl 0 rfl ?_
                obtain ⟨μ58, e57, h⟩ := bnd h
                refine J.callV (pc := 97) (k2 := 0) (n2 := 0) dX6_readDeed_97 ml_RX6_146 mo_X1_addPlace mv_X1_addPlace rfl (tX1_addPlace (d + 3) e57 hN52 k56) k56 (okN hN52 k56 (by decide)).1 (okN hN52 k56 (by decide)).2 cq_1 (by decide) rfl rfl (Nat.le_of_ble_eq_true rfl) (by decide) (by decide) (fun v ν hp => ?_) (fun i ν hp => nrm hp.1)
                obtain ⟨rfl, rfl, hN59, hb60⟩ := PEl hp
                show J _ _ _ _ 100 _ ([]) _ _ _ _
                refine J.aload_n (pc := 100) dX6_readDeed_100 rfl 1 rfl ?_
                obtain ⟨μ62, e61, h⟩ := bnd h
                refine J.callV (pc := 101) (k2 := 0) (n2 := 0) dX6_readDeed_101 ml_RX6_65 mo_X6_advance mv_X6_advance rfl (tX6_advance d e61 hN59 k0) k0 (okN hN59 k0 (by decide)).1 (okN hN59 k0 (by decide)).2 cq_6 (by decide) rfl rfl (Nat.le_of_ble_eq_true rfl) (by decide) (by decide) (fun v ν hp => ?_) (fun i ν hp => nrm hp.1)
                obtain ⟨rfl, rfl, hN63, hb64⟩ := PEl hp
                show J _ _ _ _ 104 _ ([]) _ _ _ _
                refine J.iinc (pc := 104) (j := 3) ([(2, .int (v2 + (1 : Int32))), (3, .int r51), (0, .ref v0), (1, .int v1)]) dX6_readDeed_104 rfl (iincv ic_1) (Nat.le_of_ble_eq_true rfl) rfl ?_
                refine J.goto (pc := 107) (tgt := 39) dX6_readDeed_107 (by decide) ?_
                refine J.pick [2, 3, 0] rfl ?_
                exact ih v0 v1 (v2 + (1 : Int32)) μ62 h hN63 k0
              · refine J.zne (pc := 88) (tgt := 104) dX6_readDeed_88 (by decide) (fun q => absurd q hc) (fun _ => ?_)
                refine J.iinc (pc := 104) (j := 3) ([(2, .int (v2 + (1 : Int32))), (3, .int r51), (0, .ref v0), (1, .int v1)]) dX6_readDeed_104 rfl (iincv ic_1) (Nat.le_of_ble_eq_true rfl) rfl ?_
                refine J.goto (pc := 107) (tgt := 39) dX6_readDeed_107 (by decide) ?_
                refine J.pick [2, 3, 0] rfl ?_
                exact ih v0 v1 (v2 + (1 : Int32)) μ50 h hN52 k0
          · refine J.cne (pc := 63) (tgt := 110) dX6_readDeed_63 (by decide) (fun q => absurd q hc) (fun _ => ?_)
            cases h
            exact J.vret (pc := 110) dX6_readDeed_110 rfl ⟨rfl, rfl, hN, trivial⟩
      · refine J.zne (pc := 49) (tgt := 110) dX6_readDeed_49 (by decide) (fun q => absurd q hc) (fun _ => ?_)
        cases h
        exact J.vret (pc := 110) dX6_readDeed_110 rfl ⟨rfl, rfl, hN, trivial⟩
def fX6_readDeed (v0 : Nat) (μ : Mem) : Option (Mem) :=
  (gR μ v0 8 11).bind fun a1 =>
  if (μ.2.1 a1 0) < (6 : Int32) then
    (fX6_advance v0 μ).bind fun μ5 =>
    (gR μ5 v0 8 11).bind fun a8 =>
    (some (sI μ5 a8 0 ((μ5.2.1 a8 0) + (1 : Int32)))).bind fun μ11 =>
    (fX6_readDeed_39 fuel) v0 (μ.2.1 a1 0) (0 : Int32) μ11
  else
    (fX6_refuse v0 (2 : Int32) μ).bind fun μ15 =>
    some μ15
set_option maxHeartbeats 4000000 in
theorem tX6_readDeed {ω : Wd} {l : Launch} (d : Nat) {v0 : Nat} {μ : Mem} {res : Mem} (h : fX6_readDeed v0 μ = some res) (hN : μ.1 = NN) (k0 : (kd v0).1 = 16) : Ct ω l mX6_readDeed (d + 6) [.ref v0] μ 0 0 (PE (.inl none) res True) := by
  refine Ct.of pn_RX6 (Nat.le_of_ble_eq_true rfl) ?_
  show J ω l mX6_readDeed (d + 6) 0 [(0, .ref v0)] [] μ 0 0 _
  unfold fX6_readDeed at h
  refine J.aload_n (pc := 0) dX6_readDeed_0 rfl 0 rfl ?_
  obtain ⟨a1, e2, h⟩ := bnd h
  have k3 : (kd a1).1 = 11 := gR_k e2
  refine J.fR (pc := 1) dX6_readDeed_1 fl_RX6_43 k0 (okN hN k0 (by decide)) rfl e2 ?_
  refine J.fI (pc := 4) dX6_readDeed_4 fl_RX6_140 k3 (okN hN k3 (by decide)) (Or.inl rfl) ?_
  refine J.istore_n (pc := 7) ([(1, .int (μ.2.1 a1 0)), (0, .ref v0)]) dX6_readDeed_7 rfl (Nat.le_of_ble_eq_true rfl) rfl ?_
  refine J.iload_n (pc := 8) dX6_readDeed_8 rfl 0 rfl ?_
  refine J.bipush (pc := 9) dX6_readDeed_9 ib_6 ?_
  rcases ifc h with ⟨hc, h⟩ | ⟨hc, h⟩
  · refine J.clt (pc := 11) (tgt := 20) dX6_readDeed_11 (by decide) (fun _ => ?_) (fun q => absurd hc q)
    refine J.aload_n (pc := 20) dX6_readDeed_20 rfl 1 rfl ?_
    obtain ⟨μ5, e4, h⟩ := bnd h
    refine J.callV (pc := 21) (k2 := 0) (n2 := 0) dX6_readDeed_21 ml_RX6_65 mo_X6_advance mv_X6_advance rfl (tX6_advance d e4 hN k0) k0 (okN hN k0 (by decide)).1 (okN hN k0 (by decide)).2 cq_6 (by decide) rfl rfl (Nat.le_of_ble_eq_true rfl) (by decide) (by decide) (fun v ν hp => ?_) (fun i ν hp => nrm hp.1)
    obtain ⟨rfl, rfl, hN6, hb7⟩ := PEl hp
    show J _ _ _ _ 24 _ ([]) _ _ _ _
    refine J.aload_n (pc := 24) dX6_readDeed_24 rfl 1 rfl ?_
    obtain ⟨a8, e9, h⟩ := bnd h
    have k10 : (kd a8).1 = 11 := gR_k e9
    refine J.fR (pc := 25) dX6_readDeed_25 fl_RX6_43 k0 (okN hN6 k0 (by decide)) rfl e9 ?_
    refine J.dup (pc := 28) dX6_readDeed_28 rfl ?_
    refine J.fI (pc := 29) dX6_readDeed_29 fl_RX6_140 k10 (okN hN6 k10 (by decide)) (Or.inl rfl) ?_
    refine J.iconst (pc := 32) dX6_readDeed_32 ic_1 ?_
    refine J.iadd (pc := 33) dX6_readDeed_33 ?_
    obtain ⟨μ11, e12, h⟩ := bnd h
    have hN13 : μ11.1 = NN := smN e12 hN6
    refine J.qI (pc := 34) dX6_readDeed_34 fl_RX6_140 k10 (okN hN6 k10 (by decide)) rfl rfl e12 ?_
    refine J.iconst (pc := 37) dX6_readDeed_37 ic_0 ?_
    refine J.istore_n (pc := 38) ([(2, .int (0 : Int32)), (1, .int (μ.2.1 a1 0)), (0, .ref v0)]) dX6_readDeed_38 rfl (Nat.le_of_ble_eq_true rfl) rfl ?_
    refine J.pick [2, 1, 0] rfl ?_
    exact (tX6_readDeed_39 d fuel) v0 (μ.2.1 a1 0) (0 : Int32) μ11 h hN13 k0
  · refine J.clt (pc := 11) (tgt := 20) dX6_readDeed_11 (by decide) (fun q => absurd q hc) (fun _ => ?_)
    refine J.aload_n (pc := 14) dX6_readDeed_14 rfl 1 rfl ?_
    refine J.iconst (pc := 15) dX6_readDeed_15 ic_2 ?_
    obtain ⟨μ15, e14, h⟩ := bnd h
    refine J.callV (pc := 16) (k2 := 0) (n2 := 0) dX6_readDeed_16 ml_RX6_109 mo_X6_refuse mv_X6_refuse rfl (tX6_refuse (d + 5) e14 hN k0) k0 (okN hN k0 (by decide)).1 (okN hN k0 (by decide)).2 cq_6 (by decide) rfl rfl (Nat.le_of_ble_eq_true rfl) (by decide) (by decide) (fun v ν hp => ?_) (fun i ν hp => nrm hp.1)
    obtain ⟨rfl, rfl, hN16, hb17⟩ := PEl hp
    show J _ _ _ _ 19 _ ([]) _ _ _ _
    cases h
    exact J.vret (pc := 19) dX6_readDeed_19 rfl ⟨rfl, rfl, hN16, trivial⟩
def fX6_isAt_20 (μ : Mem) : Nat → Nat → Nat → Int32 → Int32 → Int32 → Option (Int32)
  | 0, _, _, _, _, _ => none
  | n + 1, v0, v1, v2, v3, v4 =>
    if v4 < v3 then
      (fJ0_charAt_5068e v1 v4 μ).bind fun r2 =>
      (gR μ v0 2 0).bind fun a5 =>
      (ldI μ a5 (((μ.2.1 v0 4) + v4) - v2)).bind fun x8 =>
      if r2 = x8 then
        (fX6_isAt_20 μ n) v0 v1 v2 v3 (v4 + (1 : Int32))
      else
        some (0 : Int32)
    else
      some (1 : Int32)
set_option maxHeartbeats 4000000 in
theorem tX6_isAt_20 {ω : Wd} {l : Launch} (d : Nat) {μ : Mem} (hN : μ.1 = NN) {res : Int32} : ∀ n : Nat, ∀ (v0 : Nat) (v1 : Nat) (v2 : Int32) (v3 : Int32) (v4 : Int32), fX6_isAt_20 μ n v0 v1 v2 v3 v4 = some res → (kd v0).1 = 16 → v1 < 15 → J ω l mX6_isAt (d + 4) 20 [(0, .ref v0), (1, .ref (10000 + v1)), (2, .int v2), (3, .int v3), (4, .int v4)] [] μ 0 0 (PE (.inl (some (.int res))) μ (isB res)) := by
  intro n
  induction n with
  | zero =>
    intro v0 v1 v2 v3 v4 h k0 k1
    have h9 : (none : Option (Int32)) = some res := h
    cases h9
  | succ n ih =>
    intro v0 v1 v2 v3 v4 h k0 k1
    unfold fX6_isAt_20 at h
    refine J.iload (pc := 20) dX6_isAt_20 4 rfl ?_
    refine J.iload_n (pc := 22) dX6_isAt_22 rfl 3 rfl ?_
    rcases ifc h with ⟨hc, h⟩ | ⟨hc, h⟩
    · refine J.cge (pc := 23) (tgt := 57) dX6_isAt_23 (by decide) (fun _ => ?_) (fun q => absurd hc q)
      refine J.aload_n (pc := 26) dX6_isAt_26 rfl 1 rfl ?_
      refine J.iload (pc := 27) dX6_isAt_27 4 rfl ?_
      obtain ⟨r2, e1, h⟩ := bnd h
      refine J.callT (pc := 29) (k2 := 0) (n2 := 0) dX6_isAt_29 ml_RX6_105 mo_J0_charAt_5068e mv_J0_charAt_5068e rfl rfl k1 (tJ0_charAt_5068e d e1 hN k1) rfl rfl (Nat.le_of_ble_eq_true rfl) (by decide) (by decide) (fun v ν hp => ?_) (fun i ν hp => nrm hp.1)
      obtain ⟨rfl, rfl, hN3, hb4⟩ := PEl hp
      show J _ _ _ _ 32 _ ([.int r2]) _ _ _ _
      refine J.aload_n (pc := 32) dX6_isAt_32 rfl 0 rfl ?_
      obtain ⟨a5, e6, h⟩ := bnd h
      have k7 : (kd a5).1 = 0 := gR_k e6
      refine J.fR (pc := 33) dX6_isAt_33 fl_RX6_18 k0 (okN hN3 k0 (by decide)) rfl e6 ?_
      refine J.aload_n (pc := 36) dX6_isAt_36 rfl 0 rfl ?_
      refine J.fI (pc := 37) dX6_isAt_37 fl_RX6_25 k0 (okN hN3 k0 (by decide)) (Or.inl rfl) ?_
      refine J.iload (pc := 40) dX6_isAt_40 4 rfl ?_
      refine J.iadd (pc := 42) dX6_isAt_42 ?_
      refine J.iload_n (pc := 43) dX6_isAt_43 rfl 2 rfl ?_
      refine J.isub (pc := 44) dX6_isAt_44 ?_
      obtain ⟨x8, e9, h⟩ := bnd h
      refine J.aI (pc := 45) dX6_isAt_45 k7 (okN hN3 k7 (by decide)) e9 ?_
      rcases ifc h with ⟨hc, h⟩ | ⟨hc, h⟩
      · refine J.ceq (pc := 46) (tgt := 51) dX6_isAt_46 (by decide) (fun _ => ?_) (fun q => absurd hc q)
        refine J.iinc (pc := 51) (j := 4) ([(4, .int (v4 + (1 : Int32))), (0, .ref v0), (1, .ref (10000 + v1)), (2, .int v2), (3, .int v3)]) dX6_isAt_51 rfl (iincv ic_1) (Nat.le_of_ble_eq_true rfl) rfl ?_
        refine J.goto (pc := 54) (tgt := 20) dX6_isAt_54 (by decide) ?_
        refine J.pick [1, 2, 3, 4, 0] rfl ?_
        exact ih v0 v1 v2 v3 (v4 + (1 : Int32)) h k0 k1
      · refine J.ceq (pc := 46) (tgt := 51) dX6_isAt_46 (by decide) (fun q => absurd q hc) (fun _ => ?_)
        refine J.iconst (pc := 49) dX6_isAt_49 ic_0 ?_
        cases h
        exact J.zret (pc := 50) dX6_isAt_50 rfl (narB (Or.inl rfl)) ⟨rfl, rfl, hN3, (Or.inl rfl)⟩
    · refine J.cge (pc := 23) (tgt := 57) dX6_isAt_23 (by decide) (fun q => absurd q hc) (fun _ => ?_)
      refine J.iconst (pc := 57) dX6_isAt_57 ic_1 ?_
      cases h
      exact J.zret (pc := 58) dX6_isAt_58 rfl (narB (Or.inr rfl)) ⟨rfl, rfl, hN, (Or.inr rfl)⟩
def fX6_isAt (v0 : Nat) (v1 : Nat) (v2 : Int32) (v3 : Int32) (μ : Mem) : Option (Int32) :=
  if (v3 - v2) = ((μ.2.1 v0 5) - (μ.2.1 v0 4)) then
    (fX6_isAt_20 μ fuel) v0 v1 v2 v3 v2
  else
    some (0 : Int32)
set_option maxHeartbeats 4000000 in
theorem tX6_isAt {ω : Wd} {l : Launch} (d : Nat) {v0 : Nat} {v1 : Nat} {v2 : Int32} {v3 : Int32} {μ : Mem} {res : Int32} (h : fX6_isAt v0 v1 v2 v3 μ = some res) (hN : μ.1 = NN) (k0 : (kd v0).1 = 16) (k1 : v1 < 15) : Ct ω l mX6_isAt (d + 4) [.ref v0, .ref (10000 + v1), .int v2, .int v3] μ 0 0 (PE (.inl (some (.int res))) μ (isB res)) := by
  refine Ct.of pn_RX6 (Nat.le_of_ble_eq_true rfl) ?_
  show J ω l mX6_isAt (d + 4) 0 [(0, .ref v0), (1, .ref (10000 + v1)), (2, .int v2), (3, .int v3)] [] μ 0 0 _
  unfold fX6_isAt at h
  refine J.iload_n (pc := 0) dX6_isAt_0 rfl 3 rfl ?_
  refine J.iload_n (pc := 1) dX6_isAt_1 rfl 2 rfl ?_
  refine J.isub (pc := 2) dX6_isAt_2 ?_
  refine J.aload_n (pc := 3) dX6_isAt_3 rfl 0 rfl ?_
  refine J.fI (pc := 4) dX6_isAt_4 fl_RX6_28 k0 (okN hN k0 (by decide)) (Or.inl rfl) ?_
  refine J.aload_n (pc := 7) dX6_isAt_7 rfl 0 rfl ?_
  refine J.fI (pc := 8) dX6_isAt_8 fl_RX6_25 k0 (okN hN k0 (by decide)) (Or.inl rfl) ?_
  refine J.isub (pc := 11) dX6_isAt_11 ?_
  rcases ifc h with ⟨hc, h⟩ | ⟨hc, h⟩
  · refine J.ceq (pc := 12) (tgt := 17) dX6_isAt_12 (by decide) (fun _ => ?_) (fun q => absurd hc q)
    refine J.iload_n (pc := 17) dX6_isAt_17 rfl 2 rfl ?_
    refine J.istore (pc := 18) ([(4, .int v2), (0, .ref v0), (1, .ref (10000 + v1)), (2, .int v2), (3, .int v3)]) dX6_isAt_18 (Nat.le_of_ble_eq_true rfl) rfl ?_
    refine J.pick [1, 2, 3, 4, 0] rfl ?_
    exact (tX6_isAt_20 d hN fuel) v0 v1 v2 v3 v2 h k0 k1
  · refine J.ceq (pc := 12) (tgt := 17) dX6_isAt_12 (by decide) (fun q => absurd q hc) (fun _ => ?_)
    refine J.iconst (pc := 15) dX6_isAt_15 ic_0 ?_
    cases h
    exact J.zret (pc := 16) dX6_isAt_16 rfl (narB (Or.inl rfl)) ⟨rfl, rfl, hN, (Or.inl rfl)⟩
def fX6_isWord (v0 : Nat) (v1 : Nat) (μ : Mem) : Option (Int32) :=
  if (μ.2.1 v0 6) = (256 : Int32) then
    (fX6_isAt v0 v1 (0 : Int32) (fJ0_length_8abf5 v1) μ).bind fun r5 =>
    if r5 = 0 then
      some (0 : Int32)
    else
      some (1 : Int32)
  else
    some (0 : Int32)
set_option maxHeartbeats 4000000 in
theorem tX6_isWord {ω : Wd} {l : Launch} (d : Nat) {v0 : Nat} {v1 : Nat} {μ : Mem} {res : Int32} (h : fX6_isWord v0 v1 μ = some res) (hN : μ.1 = NN) (k0 : (kd v0).1 = 16) (k1 : v1 < 15) : Ct ω l mX6_isWord (d + 5) [.ref v0, .ref (10000 + v1)] μ 0 0 (PE (.inl (some (.int res))) μ (isB res)) := by
  refine Ct.of pn_RX6 (Nat.le_of_ble_eq_true rfl) ?_
  show J ω l mX6_isWord (d + 5) 0 [(0, .ref v0), (1, .ref (10000 + v1))] [] μ 0 0 _
  unfold fX6_isWord at h
  refine J.aload_n (pc := 0) dX6_isWord_0 rfl 0 rfl ?_
  refine J.fI (pc := 1) dX6_isWord_1 fl_RX6_31 k0 (okN hN k0 (by decide)) (Or.inl rfl) ?_
  refine J.sipush (pc := 4) dX6_isWord_4 is_256 ?_
  rcases ifc h with ⟨hc, h⟩ | ⟨hc, h⟩
  · refine J.cne (pc := 7) (tgt := 27) dX6_isWord_7 (by decide) (fun _ => ?_) (fun q => absurd hc q)
    refine J.aload_n (pc := 10) dX6_isWord_10 rfl 0 rfl ?_
    refine J.aload_n (pc := 11) dX6_isWord_11 rfl 1 rfl ?_
    refine J.iconst (pc := 12) dX6_isWord_12 ic_0 ?_
    refine J.aload_n (pc := 13) dX6_isWord_13 rfl 1 rfl ?_
    refine J.callT (pc := 14) (k2 := 0) (n2 := 0) dX6_isWord_14 ml_RX6_98 mo_J0_length_8abf5 mv_J0_length_8abf5 rfl rfl k1 (tJ0_length_8abf5 (d + 3) v1 μ hN k1) rfl rfl (Nat.le_of_ble_eq_true rfl) (by decide) (by decide) (fun v ν hp => ?_) (fun i ν hp => nrm hp.1)
    obtain ⟨rfl, rfl, hN2, hb3⟩ := PEl hp
    show J _ _ _ _ 17 _ ([.int (fJ0_length_8abf5 v1), .int (0 : Int32), .ref (10000 + v1), .ref v0]) _ _ _ _
    obtain ⟨r5, e4, h⟩ := bnd h
    refine J.callV (pc := 17) (k2 := 0) (n2 := 0) dX6_isWord_17 ml_RX6_101 mo_X6_isAt mv_X6_isAt rfl (tX6_isAt d e4 hN2 k0 k1) k0 (okN hN2 k0 (by decide)).1 (okN hN2 k0 (by decide)).2 cq_6 (by decide) rfl rfl (Nat.le_of_ble_eq_true rfl) (by decide) (by decide) (fun v ν hp => ?_) (fun i ν hp => nrm hp.1)
    obtain ⟨rfl, rfl, hN6, hb7⟩ := PEl hp
    show J _ _ _ _ 20 _ ([.int r5]) _ _ _ _
    rcases ifc h with ⟨hc, h⟩ | ⟨hc, h⟩
    · refine J.zeq (pc := 20) (tgt := 27) dX6_isWord_20 (by decide) (fun _ => ?_) (fun q => absurd hc q)
      refine J.iconst (pc := 27) dX6_isWord_27 ic_0 ?_
      cases h
      exact J.zret (pc := 28) dX6_isWord_28 rfl (narB (Or.inl rfl)) ⟨rfl, rfl, hN6, (Or.inl rfl)⟩
    · refine J.zeq (pc := 20) (tgt := 27) dX6_isWord_20 (by decide) (fun q => absurd q hc) (fun _ => ?_)
      refine J.iconst (pc := 23) dX6_isWord_23 ic_1 ?_
      refine J.goto (pc := 24) (tgt := 28) dX6_isWord_24 (by decide) ?_
      cases h
      exact J.zret (pc := 28) dX6_isWord_28 rfl (narB (Or.inr rfl)) ⟨rfl, rfl, hN6, (Or.inr rfl)⟩
  · refine J.cne (pc := 7) (tgt := 27) dX6_isWord_7 (by decide) (fun q => absurd q hc) (fun _ => ?_)
    refine J.iconst (pc := 27) dX6_isWord_27 ic_0 ?_
    cases h
    exact J.zret (pc := 28) dX6_isWord_28 rfl (narB (Or.inl rfl)) ⟨rfl, rfl, hN, (Or.inl rfl)⟩
def fX6_readPlace (v0 : Nat) (μ : Mem) : Option (Int32 × Mem) :=
  (gR μ v0 8 11).bind fun a1 =>
  (fX6_numberBelow v0 (μ.2.1 a1 0) (3 : Int32) μ).bind fun (r6, μ5) =>
  if (μ5.2.1 v0 0) = 0 then
    (fX6_advance v0 μ5).bind fun μ10 =>
    (gR μ10 v0 8 11).bind fun a13 =>
    (gR μ10 a13 3 0).bind fun a16 =>
    (ldI μ10 a16 r6).bind fun x19 =>
    (fX6_numberBelow v0 x19 (3 : Int32) μ10).bind fun (r23, μ22) =>
    if (μ22.2.1 v0 0) = 0 then
      (fX6_advance v0 μ22).bind fun μ27 =>
      some ((((8 : Int32) * r6) + r23), μ27)
    else
      some ((-1 : Int32), μ22)
  else
    some ((-1 : Int32), μ5)
set_option maxHeartbeats 4000000 in
theorem tX6_readPlace {ω : Wd} {l : Launch} (d : Nat) {v0 : Nat} {μ : Mem} {res : Int32 × Mem} (h : fX6_readPlace v0 μ = some res) (hN : μ.1 = NN) (k0 : (kd v0).1 = 16) : Ct ω l mX6_readPlace (d + 6) [.ref v0] μ 0 0 (PE (.inl (some (.int res.1))) res.2 True) := by
  refine Ct.of pn_RX6 (Nat.le_of_ble_eq_true rfl) ?_
  show J ω l mX6_readPlace (d + 6) 0 [(0, .ref v0)] [] μ 0 0 _
  unfold fX6_readPlace at h
  refine J.aload_n (pc := 0) dX6_readPlace_0 rfl 0 rfl ?_
  refine J.aload_n (pc := 1) dX6_readPlace_1 rfl 0 rfl ?_
  obtain ⟨a1, e2, h⟩ := bnd h
  have k3 : (kd a1).1 = 11 := gR_k e2
  refine J.fR (pc := 2) dX6_readPlace_2 fl_RX6_43 k0 (okN hN k0 (by decide)) rfl e2 ?_
  refine J.fI (pc := 5) dX6_readPlace_5 fl_RX6_140 k3 (okN hN k3 (by decide)) (Or.inl rfl) ?_
  refine J.iconst (pc := 8) dX6_readPlace_8 ic_3 ?_
  obtain ⟨⟨r6, μ5⟩, e4, h⟩ := bnd h
  try dsimp only at h
  refine J.callV (pc := 9) (k2 := 0) (n2 := 0) dX6_readPlace_9 ml_RX6_143 mo_X6_numberBelow mv_X6_numberBelow rfl (tX6_numberBelow (d + 4) e4 hN k0) k0 (okN hN k0 (by decide)).1 (okN hN k0 (by decide)).2 cq_6 (by decide) rfl rfl (Nat.le_of_ble_eq_true rfl) (by decide) (by decide) (fun v ν hp => ?_) (fun i ν hp => nrm hp.1)
  obtain ⟨rfl, rfl, hN7, hb8⟩ := PEl hp
  show J _ _ _ _ 12 _ ([.int r6]) _ _ _ _
  refine J.istore_n (pc := 12) ([(1, .int r6), (0, .ref v0)]) dX6_readPlace_12 rfl (Nat.le_of_ble_eq_true rfl) rfl ?_
  refine J.aload_n (pc := 13) dX6_readPlace_13 rfl 1 rfl ?_
  refine J.fI (pc := 14) dX6_readPlace_14 fl_RX6_9 k0 (okN hN7 k0 (by decide)) (Or.inl rfl) ?_
  rcases ifc h with ⟨hc, h⟩ | ⟨hc, h⟩
  · refine J.zeq (pc := 17) (tgt := 22) dX6_readPlace_17 (by decide) (fun _ => ?_) (fun q => absurd hc q)
    refine J.aload_n (pc := 22) dX6_readPlace_22 rfl 1 rfl ?_
    obtain ⟨μ10, e9, h⟩ := bnd h
    refine J.callV (pc := 23) (k2 := 0) (n2 := 0) dX6_readPlace_23 ml_RX6_65 mo_X6_advance mv_X6_advance rfl (tX6_advance d e9 hN7 k0) k0 (okN hN7 k0 (by decide)).1 (okN hN7 k0 (by decide)).2 cq_6 (by decide) rfl rfl (Nat.le_of_ble_eq_true rfl) (by decide) (by decide) (fun v ν hp => ?_) (fun i ν hp => nrm hp.1)
    obtain ⟨rfl, rfl, hN11, hb12⟩ := PEl hp
    show J _ _ _ _ 26 _ ([]) _ _ _ _
    refine J.aload_n (pc := 26) dX6_readPlace_26 rfl 1 rfl ?_
    refine J.aload_n (pc := 27) dX6_readPlace_27 rfl 1 rfl ?_
    obtain ⟨a13, e14, h⟩ := bnd h
    have k15 : (kd a13).1 = 11 := gR_k e14
    refine J.fR (pc := 28) dX6_readPlace_28 fl_RX6_43 k0 (okN hN11 k0 (by decide)) rfl e14 ?_
    obtain ⟨a16, e17, h⟩ := bnd h
    have k18 : (kd a16).1 = 0 := gR_k e17
    refine J.fR (pc := 31) dX6_readPlace_31 fl_RX6_150 k15 (okN hN11 k15 (by decide)) rfl e17 ?_
    refine J.iload_n (pc := 34) dX6_readPlace_34 rfl 0 rfl ?_
    obtain ⟨x19, e20, h⟩ := bnd h
    refine J.aI (pc := 35) dX6_readPlace_35 k18 (okN hN11 k18 (by decide)) e20 ?_
    refine J.iconst (pc := 36) dX6_readPlace_36 ic_3 ?_
    obtain ⟨⟨r23, μ22⟩, e21, h⟩ := bnd h
    try dsimp only at h
    refine J.callV (pc := 37) (k2 := 0) (n2 := 0) dX6_readPlace_37 ml_RX6_143 mo_X6_numberBelow mv_X6_numberBelow rfl (tX6_numberBelow (d + 4) e21 hN11 k0) k0 (okN hN11 k0 (by decide)).1 (okN hN11 k0 (by decide)).2 cq_6 (by decide) rfl rfl (Nat.le_of_ble_eq_true rfl) (by decide) (by decide) (fun v ν hp => ?_) (fun i ν hp => nrm hp.1)
    obtain ⟨rfl, rfl, hN24, hb25⟩ := PEl hp
    show J _ _ _ _ 40 _ ([.int r23]) _ _ _ _
    refine J.istore_n (pc := 40) ([(2, .int r23), (1, .int r6), (0, .ref v0)]) dX6_readPlace_40 rfl (Nat.le_of_ble_eq_true rfl) rfl ?_
    refine J.aload_n (pc := 41) dX6_readPlace_41 rfl 2 rfl ?_
    refine J.fI (pc := 42) dX6_readPlace_42 fl_RX6_9 k0 (okN hN24 k0 (by decide)) (Or.inl rfl) ?_
    rcases ifc h with ⟨hc, h⟩ | ⟨hc, h⟩
    · refine J.zeq (pc := 45) (tgt := 50) dX6_readPlace_45 (by decide) (fun _ => ?_) (fun q => absurd hc q)
      refine J.aload_n (pc := 50) dX6_readPlace_50 rfl 2 rfl ?_
      obtain ⟨μ27, e26, h⟩ := bnd h
      refine J.callV (pc := 51) (k2 := 0) (n2 := 0) dX6_readPlace_51 ml_RX6_65 mo_X6_advance mv_X6_advance rfl (tX6_advance d e26 hN24 k0) k0 (okN hN24 k0 (by decide)).1 (okN hN24 k0 (by decide)).2 cq_6 (by decide) rfl rfl (Nat.le_of_ble_eq_true rfl) (by decide) (by decide) (fun v ν hp => ?_) (fun i ν hp => nrm hp.1)
      obtain ⟨rfl, rfl, hN28, hb29⟩ := PEl hp
      show J _ _ _ _ 54 _ ([]) _ _ _ _
      refine J.bipush (pc := 54) dX6_readPlace_54 ib_8 ?_
      refine J.iload_n (pc := 56) dX6_readPlace_56 rfl 1 rfl ?_
      refine J.imul (pc := 57) dX6_readPlace_57 ?_
      refine J.iload_n (pc := 58) dX6_readPlace_58 rfl 0 rfl ?_
      refine J.iadd (pc := 59) dX6_readPlace_59 ?_
      cases h
      exact J.iret (pc := 60) dX6_readPlace_60 rfl ⟨rfl, rfl, hN28, trivial⟩
    · refine J.zeq (pc := 45) (tgt := 50) dX6_readPlace_45 (by decide) (fun q => absurd q hc) (fun _ => ?_)
      refine J.iconst (pc := 48) dX6_readPlace_48 ic_m1 ?_
      cases h
      exact J.iret (pc := 49) dX6_readPlace_49 rfl ⟨rfl, rfl, hN24, trivial⟩
  · refine J.zeq (pc := 17) (tgt := 22) dX6_readPlace_17 (by decide) (fun q => absurd q hc) (fun _ => ?_)
    refine J.iconst (pc := 20) dX6_readPlace_20 ic_m1 ?_
    cases h
    exact J.iret (pc := 21) dX6_readPlace_21 rfl ⟨rfl, rfl, hN7, trivial⟩
def fX6_readPerson (v0 : Nat) (μ : Mem) : Option (Mem) :=
  (gR μ v0 8 11).bind fun a1 =>
  if (μ.2.1 a1 1) < (6 : Int32) then
    (fX6_advance v0 μ).bind fun μ5 =>
    (gR μ5 v0 8 11).bind fun a8 =>
    (some (sI μ5 a8 1 ((μ5.2.1 a8 1) + (1 : Int32)))).bind fun μ11 =>
    (gR μ11 v0 8 11).bind fun a14 =>
    (gR μ11 a14 7 19).bind fun a17 =>
    (gR μ11 a17 4 0).bind fun a20 =>
    (fX6_readPlace v0 μ11).bind fun (r25, μ24) =>
    (stI μ24 a20 (μ.2.1 a1 1) r25).bind fun μ28 =>
    (gR μ28 v0 8 11).bind fun a31 =>
    (gR μ28 a31 4 0).bind fun a34 =>
    (fX6_numberBelow v0 (10 : Int32) (2 : Int32) μ28).bind fun (r39, μ38) =>
    (stI μ38 a34 (μ.2.1 a1 1) r39).bind fun μ42 =>
    if (μ42.2.1 v0 0) = 0 then
      (fX6_advance v0 μ42).bind fun μ46 =>
      if (μ46.2.1 v0 0) = 0 then
        (fX6_isWord v0 4 μ46).bind fun r50 =>
        if r50 = 0 then
          some μ46
        else
          (fX6_advance v0 μ46).bind fun μ54 =>
          (gR μ54 v0 8 11).bind fun a57 =>
          (gR μ54 a57 7 19).bind fun a60 =>
          (gR μ54 a60 5 0).bind fun a63 =>
          (fX6_readPlace v0 μ54).bind fun (r68, μ67) =>
          (stI μ67 a63 (μ.2.1 a1 1) r68).bind fun μ71 =>
          some μ71
      else
        some μ46
    else
      if (μ42.2.1 v0 0) = 0 then
        (fX6_isWord v0 4 μ42).bind fun r75 =>
        if r75 = 0 then
          some μ42
        else
          (fX6_advance v0 μ42).bind fun μ79 =>
          (gR μ79 v0 8 11).bind fun a82 =>
          (gR μ79 a82 7 19).bind fun a85 =>
          (gR μ79 a85 5 0).bind fun a88 =>
          (fX6_readPlace v0 μ79).bind fun (r93, μ92) =>
          (stI μ92 a88 (μ.2.1 a1 1) r93).bind fun μ96 =>
          some μ96
      else
        some μ42
  else
    (fX6_refuse v0 (2 : Int32) μ).bind fun μ100 =>
    some μ100
set_option maxHeartbeats 4000000 in
theorem tX6_readPerson {ω : Wd} {l : Launch} (d : Nat) {v0 : Nat} {μ : Mem} {res : Mem} (h : fX6_readPerson v0 μ = some res) (hN : μ.1 = NN) (k0 : (kd v0).1 = 16) : Ct ω l mX6_readPerson (d + 7) [.ref v0] μ 0 0 (PE (.inl none) res True) := by
  refine Ct.of pn_RX6 (Nat.le_of_ble_eq_true rfl) ?_
  show J ω l mX6_readPerson (d + 7) 0 [(0, .ref v0)] [] μ 0 0 _
  unfold fX6_readPerson at h
  refine J.aload_n (pc := 0) dX6_readPerson_0 rfl 0 rfl ?_
  obtain ⟨a1, e2, h⟩ := bnd h
  have k3 : (kd a1).1 = 11 := gR_k e2
  refine J.fR (pc := 1) dX6_readPerson_1 fl_RX6_43 k0 (okN hN k0 (by decide)) rfl e2 ?_
  refine J.fI (pc := 4) dX6_readPerson_4 fl_RX6_167 k3 (okN hN k3 (by decide)) (Or.inl rfl) ?_
  refine J.istore_n (pc := 7) ([(1, .int (μ.2.1 a1 1)), (0, .ref v0)]) dX6_readPerson_7 rfl (Nat.le_of_ble_eq_true rfl) rfl ?_
  refine J.iload_n (pc := 8) dX6_readPerson_8 rfl 0 rfl ?_
  refine J.bipush (pc := 9) dX6_readPerson_9 ib_6 ?_
  rcases ifc h with ⟨hc, h⟩ | ⟨hc, h⟩
  · refine J.clt (pc := 11) (tgt := 20) dX6_readPerson_11 (by decide) (fun _ => ?_) (fun q => absurd hc q)
    refine J.aload_n (pc := 20) dX6_readPerson_20 rfl 1 rfl ?_
    obtain ⟨μ5, e4, h⟩ := bnd h
    refine J.callV (pc := 21) (k2 := 0) (n2 := 0) dX6_readPerson_21 ml_RX6_65 mo_X6_advance mv_X6_advance rfl (tX6_advance (d + 1) e4 hN k0) k0 (okN hN k0 (by decide)).1 (okN hN k0 (by decide)).2 cq_6 (by decide) rfl rfl (Nat.le_of_ble_eq_true rfl) (by decide) (by decide) (fun v ν hp => ?_) (fun i ν hp => nrm hp.1)
    obtain ⟨rfl, rfl, hN6, hb7⟩ := PEl hp
    show J _ _ _ _ 24 _ ([]) _ _ _ _
    refine J.aload_n (pc := 24) dX6_readPerson_24 rfl 1 rfl ?_
    obtain ⟨a8, e9, h⟩ := bnd h
    have k10 : (kd a8).1 = 11 := gR_k e9
    refine J.fR (pc := 25) dX6_readPerson_25 fl_RX6_43 k0 (okN hN6 k0 (by decide)) rfl e9 ?_
    refine J.dup (pc := 28) dX6_readPerson_28 rfl ?_
    refine J.fI (pc := 29) dX6_readPerson_29 fl_RX6_167 k10 (okN hN6 k10 (by decide)) (Or.inl rfl) ?_
    refine J.iconst (pc := 32) dX6_readPerson_32 ic_1 ?_
    refine J.iadd (pc := 33) dX6_readPerson_33 ?_
    obtain ⟨μ11, e12, h⟩ := bnd h
    have hN13 : μ11.1 = NN := smN e12 hN6
    refine J.qI (pc := 34) dX6_readPerson_34 fl_RX6_167 k10 (okN hN6 k10 (by decide)) rfl rfl e12 ?_
    refine J.aload_n (pc := 37) dX6_readPerson_37 rfl 1 rfl ?_
    obtain ⟨a14, e15, h⟩ := bnd h
    have k16 : (kd a14).1 = 11 := gR_k e15
    refine J.fR (pc := 38) dX6_readPerson_38 fl_RX6_43 k0 (okN hN13 k0 (by decide)) rfl e15 ?_
    obtain ⟨a17, e18, h⟩ := bnd h
    have k19 : (kd a17).1 = 19 := gR_k e18
    refine J.fR (pc := 41) dX6_readPerson_41 fl_RX6_157 k16 (okN hN13 k16 (by decide)) rfl e18 ?_
    obtain ⟨a20, e21, h⟩ := bnd h
    have k22 : (kd a20).1 = 0 := gR_k e21
    refine J.fR (pc := 44) dX6_readPerson_44 fl_RX6_170 k19 (okN hN13 k19 (by decide)) rfl e21 ?_
    refine J.iload_n (pc := 47) dX6_readPerson_47 rfl 0 rfl ?_
    refine J.aload_n (pc := 48) dX6_readPerson_48 rfl 1 rfl ?_
    obtain ⟨⟨r25, μ24⟩, e23, h⟩ := bnd h
    try dsimp only at h
    refine J.callV (pc := 49) (k2 := 0) (n2 := 0) dX6_readPerson_49 ml_RX6_173 mo_X6_readPlace mv_X6_readPlace rfl (tX6_readPlace d e23 hN13 k0) k0 (okN hN13 k0 (by decide)).1 (okN hN13 k0 (by decide)).2 cq_6 (by decide) rfl rfl (Nat.le_of_ble_eq_true rfl) (by decide) (by decide) (fun v ν hp => ?_) (fun i ν hp => nrm hp.1)
    obtain ⟨rfl, rfl, hN26, hb27⟩ := PEl hp
    show J _ _ _ _ 52 _ ([.int r25, .int (μ.2.1 a1 1), .ref a20]) _ _ _ _
    obtain ⟨μ28, e29, h⟩ := bnd h
    have hN30 : μ28.1 = NN := stI_N e29 hN26
    refine J.wI (pc := 52) dX6_readPerson_52 k22 (okN hN26 k22 (by decide)) e29 ?_
    refine J.aload_n (pc := 53) dX6_readPerson_53 rfl 1 rfl ?_
    obtain ⟨a31, e32, h⟩ := bnd h
    have k33 : (kd a31).1 = 11 := gR_k e32
    refine J.fR (pc := 54) dX6_readPerson_54 fl_RX6_43 k0 (okN hN30 k0 (by decide)) rfl e32 ?_
    obtain ⟨a34, e35, h⟩ := bnd h
    have k36 : (kd a34).1 = 0 := gR_k e35
    refine J.fR (pc := 57) dX6_readPerson_57 fl_RX6_176 k33 (okN hN30 k33 (by decide)) rfl e35 ?_
    refine J.iload_n (pc := 60) dX6_readPerson_60 rfl 0 rfl ?_
    refine J.aload_n (pc := 61) dX6_readPerson_61 rfl 1 rfl ?_
    refine J.bipush (pc := 62) dX6_readPerson_62 ib_10 ?_
    refine J.iconst (pc := 64) dX6_readPerson_64 ic_2 ?_
    obtain ⟨⟨r39, μ38⟩, e37, h⟩ := bnd h
    try dsimp only at h
    refine J.callV (pc := 65) (k2 := 0) (n2 := 0) dX6_readPerson_65 ml_RX6_143 mo_X6_numberBelow mv_X6_numberBelow rfl (tX6_numberBelow (d + 5) e37 hN30 k0) k0 (okN hN30 k0 (by decide)).1 (okN hN30 k0 (by decide)).2 cq_6 (by decide) rfl rfl (Nat.le_of_ble_eq_true rfl) (by decide) (by decide) (fun v ν hp => ?_) (fun i ν hp => nrm hp.1)
    obtain ⟨rfl, rfl, hN40, hb41⟩ := PEl hp
    show J _ _ _ _ 68 _ ([.int r39, .int (μ.2.1 a1 1), .ref a34]) _ _ _ _
    obtain ⟨μ42, e43, h⟩ := bnd h
    have hN44 : μ42.1 = NN := stI_N e43 hN40
    refine J.wI (pc := 68) dX6_readPerson_68 k36 (okN hN40 k36 (by decide)) e43 ?_
    refine J.aload_n (pc := 69) dX6_readPerson_69 rfl 1 rfl ?_
    refine J.fI (pc := 70) dX6_readPerson_70 fl_RX6_9 k0 (okN hN44 k0 (by decide)) (Or.inl rfl) ?_
    rcases ifc h with ⟨hc, h⟩ | ⟨hc, h⟩
    · refine J.zne (pc := 73) (tgt := 80) dX6_readPerson_73 (by decide) (fun _ => ?_) (fun q => absurd hc q)
      refine J.aload_n (pc := 76) dX6_readPerson_76 rfl 1 rfl ?_
      obtain ⟨μ46, e45, h⟩ := bnd h
      refine J.callV (pc := 77) (k2 := 0) (n2 := 0) dX6_readPerson_77 ml_RX6_65 mo_X6_advance mv_X6_advance rfl (tX6_advance (d + 1) e45 hN44 k0) k0 (okN hN44 k0 (by decide)).1 (okN hN44 k0 (by decide)).2 cq_6 (by decide) rfl rfl (Nat.le_of_ble_eq_true rfl) (by decide) (by decide) (fun v ν hp => ?_) (fun i ν hp => nrm hp.1)
      obtain ⟨rfl, rfl, hN47, hb48⟩ := PEl hp
      show J _ _ _ _ 80 _ ([]) _ _ _ _
      refine J.aload_n (pc := 80) dX6_readPerson_80 rfl 1 rfl ?_
      refine J.fI (pc := 81) dX6_readPerson_81 fl_RX6_9 k0 (okN hN47 k0 (by decide)) (Or.inl rfl) ?_
      rcases ifc h with ⟨hc, h⟩ | ⟨hc, h⟩
      · refine J.zne (pc := 84) (tgt := 116) dX6_readPerson_84 (by decide) (fun _ => ?_) (fun q => absurd hc q)
        refine J.aload_n (pc := 87) dX6_readPerson_87 rfl 1 rfl ?_
        refine J.ldcS (pc := 88) (i := 4) dX6_readPerson_88 rfl ?_
        obtain ⟨r50, e49, h⟩ := bnd h
        refine J.callV (pc := 90) (k2 := 0) (n2 := 0) dX6_readPerson_90 ml_RX6_181 mo_X6_isWord mv_X6_isWord rfl (tX6_isWord (d + 1) e49 hN47 k0 (by decide)) k0 (okN hN47 k0 (by decide)).1 (okN hN47 k0 (by decide)).2 cq_6 (by decide) rfl rfl (Nat.le_of_ble_eq_true rfl) (by decide) (by decide) (fun v ν hp => ?_) (fun i ν hp => nrm hp.1)
        obtain ⟨rfl, rfl, hN51, hb52⟩ := PEl hp
        show J _ _ _ _ 93 _ ([.int r50]) _ _ _ _
        rcases ifc h with ⟨hc, h⟩ | ⟨hc, h⟩
        · refine J.zeq (pc := 93) (tgt := 116) dX6_readPerson_93 (by decide) (fun _ => ?_) (fun q => absurd hc q)
          cases h
          exact J.vret (pc := 116) dX6_readPerson_116 rfl ⟨rfl, rfl, hN51, trivial⟩
        · refine J.zeq (pc := 93) (tgt := 116) dX6_readPerson_93 (by decide) (fun q => absurd q hc) (fun _ => ?_)
          refine J.aload_n (pc := 96) dX6_readPerson_96 rfl 1 rfl ?_
          obtain ⟨μ54, e53, h⟩ := bnd h
          refine J.callV (pc := 97) (k2 := 0) (n2 := 0) dX6_readPerson_97 ml_RX6_65 mo_X6_advance mv_X6_advance rfl (tX6_advance (d + 1) e53 hN51 k0) k0 (okN hN51 k0 (by decide)).1 (okN hN51 k0 (by decide)).2 cq_6 (by decide) rfl rfl (Nat.le_of_ble_eq_true rfl) (by decide) (by decide) (fun v ν hp => ?_) (fun i ν hp => nrm hp.1)
          obtain ⟨rfl, rfl, hN55, hb56⟩ := PEl hp
          show J _ _ _ _ 100 _ ([]) _ _ _ _
          refine J.aload_n (pc := 100) dX6_readPerson_100 rfl 1 rfl ?_
          obtain ⟨a57, e58, h⟩ := bnd h
          have k59 : (kd a57).1 = 11 := gR_k e58
          refine J.fR (pc := 101) dX6_readPerson_101 fl_RX6_43 k0 (okN hN55 k0 (by decide)) rfl e58 ?_
          obtain ⟨a60, e61, h⟩ := bnd h
          have k62 : (kd a60).1 = 19 := gR_k e61
          refine J.fR (pc := 104) dX6_readPerson_104 fl_RX6_157 k59 (okN hN55 k59 (by decide)) rfl e61 ?_
          obtain ⟨a63, e64, h⟩ := bnd h
          have k65 : (kd a63).1 = 0 := gR_k e64
          refine J.fR (pc := 107) dX6_readPerson_107 fl_RX6_185 k62 (okN hN55 k62 (by decide)) rfl e64 ?_
          refine J.iload_n (pc := 110) dX6_readPerson_110 rfl 0 rfl ?_
          refine J.aload_n (pc := 111) dX6_readPerson_111 rfl 1 rfl ?_
          obtain ⟨⟨r68, μ67⟩, e66, h⟩ := bnd h
          try dsimp only at h
          refine J.callV (pc := 112) (k2 := 0) (n2 := 0) dX6_readPerson_112 ml_RX6_173 mo_X6_readPlace mv_X6_readPlace rfl (tX6_readPlace d e66 hN55 k0) k0 (okN hN55 k0 (by decide)).1 (okN hN55 k0 (by decide)).2 cq_6 (by decide) rfl rfl (Nat.le_of_ble_eq_true rfl) (by decide) (by decide) (fun v ν hp => ?_) (fun i ν hp => nrm hp.1)
          obtain ⟨rfl, rfl, hN69, hb70⟩ := PEl hp
          show J _ _ _ _ 115 _ ([.int r68, .int (μ.2.1 a1 1), .ref a63]) _ _ _ _
          obtain ⟨μ71, e72, h⟩ := bnd h
          have hN73 : μ71.1 = NN := stI_N e72 hN69
          refine J.wI (pc := 115) dX6_readPerson_115 k65 (okN hN69 k65 (by decide)) e72 ?_
          cases h
          exact J.vret (pc := 116) dX6_readPerson_116 rfl ⟨rfl, rfl, hN73, trivial⟩
      · refine J.zne (pc := 84) (tgt := 116) dX6_readPerson_84 (by decide) (fun q => absurd q hc) (fun _ => ?_)
        cases h
        exact J.vret (pc := 116) dX6_readPerson_116 rfl ⟨rfl, rfl, hN47, trivial⟩
    · refine J.zne (pc := 73) (tgt := 80) dX6_readPerson_73 (by decide) (fun q => absurd q hc) (fun _ => ?_)
      refine J.aload_n (pc := 80) dX6_readPerson_80 rfl 1 rfl ?_
      refine J.fI (pc := 81) dX6_readPerson_81 fl_RX6_9 k0 (okN hN44 k0 (by decide)) (Or.inl rfl) ?_
      rcases ifc h with ⟨hc, h⟩ | ⟨hc, h⟩
      · refine J.zne (pc := 84) (tgt := 116) dX6_readPerson_84 (by decide) (fun _ => ?_) (fun q => absurd hc q)
        refine J.aload_n (pc := 87) dX6_readPerson_87 rfl 1 rfl ?_
        refine J.ldcS (pc := 88) (i := 4) dX6_readPerson_88 rfl ?_
        obtain ⟨r75, e74, h⟩ := bnd h
        refine J.callV (pc := 90) (k2 := 0) (n2 := 0) dX6_readPerson_90 ml_RX6_181 mo_X6_isWord mv_X6_isWord rfl (tX6_isWord (d + 1) e74 hN44 k0 (by decide)) k0 (okN hN44 k0 (by decide)).1 (okN hN44 k0 (by decide)).2 cq_6 (by decide) rfl rfl (Nat.le_of_ble_eq_true rfl) (by decide) (by decide) (fun v ν hp => ?_) (fun i ν hp => nrm hp.1)
        obtain ⟨rfl, rfl, hN76, hb77⟩ := PEl hp
        show J _ _ _ _ 93 _ ([.int r75]) _ _ _ _
        rcases ifc h with ⟨hc, h⟩ | ⟨hc, h⟩
        · refine J.zeq (pc := 93) (tgt := 116) dX6_readPerson_93 (by decide) (fun _ => ?_) (fun q => absurd hc q)
          cases h
          exact J.vret (pc := 116) dX6_readPerson_116 rfl ⟨rfl, rfl, hN76, trivial⟩
        · refine J.zeq (pc := 93) (tgt := 116) dX6_readPerson_93 (by decide) (fun q => absurd q hc) (fun _ => ?_)
          refine J.aload_n (pc := 96) dX6_readPerson_96 rfl 1 rfl ?_
          obtain ⟨μ79, e78, h⟩ := bnd h
          refine J.callV (pc := 97) (k2 := 0) (n2 := 0) dX6_readPerson_97 ml_RX6_65 mo_X6_advance mv_X6_advance rfl (tX6_advance (d + 1) e78 hN76 k0) k0 (okN hN76 k0 (by decide)).1 (okN hN76 k0 (by decide)).2 cq_6 (by decide) rfl rfl (Nat.le_of_ble_eq_true rfl) (by decide) (by decide) (fun v ν hp => ?_) (fun i ν hp => nrm hp.1)
          obtain ⟨rfl, rfl, hN80, hb81⟩ := PEl hp
          show J _ _ _ _ 100 _ ([]) _ _ _ _
          refine J.aload_n (pc := 100) dX6_readPerson_100 rfl 1 rfl ?_
          obtain ⟨a82, e83, h⟩ := bnd h
          have k84 : (kd a82).1 = 11 := gR_k e83
          refine J.fR (pc := 101) dX6_readPerson_101 fl_RX6_43 k0 (okN hN80 k0 (by decide)) rfl e83 ?_
          obtain ⟨a85, e86, h⟩ := bnd h
          have k87 : (kd a85).1 = 19 := gR_k e86
          refine J.fR (pc := 104) dX6_readPerson_104 fl_RX6_157 k84 (okN hN80 k84 (by decide)) rfl e86 ?_
          obtain ⟨a88, e89, h⟩ := bnd h
          have k90 : (kd a88).1 = 0 := gR_k e89
          refine J.fR (pc := 107) dX6_readPerson_107 fl_RX6_185 k87 (okN hN80 k87 (by decide)) rfl e89 ?_
          refine J.iload_n (pc := 110) dX6_readPerson_110 rfl 0 rfl ?_
          refine J.aload_n (pc := 111) dX6_readPerson_111 rfl 1 rfl ?_
          obtain ⟨⟨r93, μ92⟩, e91, h⟩ := bnd h
          try dsimp only at h
          refine J.callV (pc := 112) (k2 := 0) (n2 := 0) dX6_readPerson_112 ml_RX6_173 mo_X6_readPlace mv_X6_readPlace rfl (tX6_readPlace d e91 hN80 k0) k0 (okN hN80 k0 (by decide)).1 (okN hN80 k0 (by decide)).2 cq_6 (by decide) rfl rfl (Nat.le_of_ble_eq_true rfl) (by decide) (by decide) (fun v ν hp => ?_) (fun i ν hp => nrm hp.1)
          obtain ⟨rfl, rfl, hN94, hb95⟩ := PEl hp
          show J _ _ _ _ 115 _ ([.int r93, .int (μ.2.1 a1 1), .ref a88]) _ _ _ _
          obtain ⟨μ96, e97, h⟩ := bnd h
          have hN98 : μ96.1 = NN := stI_N e97 hN94
          refine J.wI (pc := 115) dX6_readPerson_115 k90 (okN hN94 k90 (by decide)) e97 ?_
          cases h
          exact J.vret (pc := 116) dX6_readPerson_116 rfl ⟨rfl, rfl, hN98, trivial⟩
      · refine J.zne (pc := 84) (tgt := 116) dX6_readPerson_84 (by decide) (fun q => absurd q hc) (fun _ => ?_)
        cases h
        exact J.vret (pc := 116) dX6_readPerson_116 rfl ⟨rfl, rfl, hN44, trivial⟩
  · refine J.clt (pc := 11) (tgt := 20) dX6_readPerson_11 (by decide) (fun q => absurd q hc) (fun _ => ?_)
    refine J.aload_n (pc := 14) dX6_readPerson_14 rfl 1 rfl ?_
    refine J.iconst (pc := 15) dX6_readPerson_15 ic_2 ?_
    obtain ⟨μ100, e99, h⟩ := bnd h
    refine J.callV (pc := 16) (k2 := 0) (n2 := 0) dX6_readPerson_16 ml_RX6_109 mo_X6_refuse mv_X6_refuse rfl (tX6_refuse (d + 6) e99 hN k0) k0 (okN hN k0 (by decide)).1 (okN hN k0 (by decide)).2 cq_6 (by decide) rfl rfl (Nat.le_of_ble_eq_true rfl) (by decide) (by decide) (fun v ν hp => ?_) (fun i ν hp => nrm hp.1)
    obtain ⟨rfl, rfl, hN101, hb102⟩ := PEl hp
    show J _ _ _ _ 19 _ ([]) _ _ _ _
    cases h
    exact J.vret (pc := 19) dX6_readPerson_19 rfl ⟨rfl, rfl, hN101, trivial⟩
