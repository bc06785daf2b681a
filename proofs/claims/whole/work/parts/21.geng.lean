def fX6_readSum_7 (rec : Nat → Int32 → Mem → Option Mem)  : Nat → Nat → Int32 → Int32 → Mem → Option (Mem)
  | 0, _, _, _, _ => none
  | n + 1, v0, v1, v2, μ =>
    if v2 < (700 : Int32) then
      if (μ.2.1 v0 0) = 0 then
        if (μ.2.1 v0 6) = (43 : Int32) then
          if (μ.2.1 v0 6) = (43 : Int32) then
            (fX6_advance v0 μ).bind fun μ2 =>
            (fX6_readProduct rec v0 v1 μ2).bind fun μ6 =>
            (gR μ6 v0 9 17).bind fun a9 =>
            (fX7_add a9 (-15 : Int32) μ6).bind fun μ13 =>
            (fX6_readSum_7 rec n) v0 v1 (v2 + (1 : Int32)) μ13
          else
            (fX6_advance v0 μ).bind fun μ17 =>
            (fX6_readProduct rec v0 v1 μ17).bind fun μ21 =>
            (gR μ21 v0 9 17).bind fun a24 =>
            (fX7_add a24 (-16 : Int32) μ21).bind fun μ28 =>
            (fX6_readSum_7 rec n) v0 v1 (v2 + (1 : Int32)) μ28
        else
          if (μ.2.1 v0 6) = (45 : Int32) then
            if (μ.2.1 v0 6) = (43 : Int32) then
              (fX6_advance v0 μ).bind fun μ32 =>
              (fX6_readProduct rec v0 v1 μ32).bind fun μ36 =>
              (gR μ36 v0 9 17).bind fun a39 =>
              (fX7_add a39 (-15 : Int32) μ36).bind fun μ43 =>
              (fX6_readSum_7 rec n) v0 v1 (v2 + (1 : Int32)) μ43
            else
              (fX6_advance v0 μ).bind fun μ47 =>
              (fX6_readProduct rec v0 v1 μ47).bind fun μ51 =>
              (gR μ51 v0 9 17).bind fun a54 =>
              (fX7_add a54 (-16 : Int32) μ51).bind fun μ58 =>
              (fX6_readSum_7 rec n) v0 v1 (v2 + (1 : Int32)) μ58
          else
            some μ
      else
        some μ
    else
      some μ
set_option maxHeartbeats 4000000 in
theorem tX6_readSum_7 {ω : Wd} {l : Launch} (d : Nat) {rec : Nat → Int32 → Mem → Option Mem} (hrec : HR ω l d rec) {res : Mem} : ∀ n : Nat, ∀ (v0 : Nat) (v1 : Int32) (v2 : Int32) (μ : Mem), fX6_readSum_7 rec n v0 v1 v2 μ = some res → μ.1 = NN → (kd v0).1 = 16 → J ω l mX6_readSum (d + 23) 7 [(0, .ref v0), (1, .int v1), (2, .int v2)] [] μ 0 0 (PE (.inl none) res True) := by
  intro n
  induction n with
  | zero =>
    intro v0 v1 v2 μ h hN k0
    have h9 : (none : Option (Mem)) = some res := h
    cases h9
  | succ n ih =>
    intro v0 v1 v2 μ h hN k0
    unfold fX6_readSum_7 at h
    refine J.iload_n (pc := 7) dX6_readSum_7 rfl 2 rfl ?_
    refine J.sipush (pc := 8) dX6_readSum_8 is_700 ?_
    rcases ifc h with ⟨hc, h⟩ | ⟨hc, h⟩
    · refine J.cge (pc := 11) (tgt := 79) dX6_readSum_11 (by decide) (fun _ => ?_) (fun q => absurd hc q)
      refine J.aload_n (pc := 14) dX6_readSum_14 rfl 0 rfl ?_
      refine J.fI (pc := 15) dX6_readSum_15 fl_RX6_9 k0 (okN hN k0 (by decide)) (Or.inl rfl) ?_
      rcases ifc h with ⟨hc, h⟩ | ⟨hc, h⟩
      · refine J.zne (pc := 18) (tgt := 79) dX6_readSum_18 (by decide) (fun _ => ?_) (fun q => absurd hc q)
        refine J.aload_n (pc := 21) dX6_readSum_21 rfl 0 rfl ?_
        refine J.fI (pc := 22) dX6_readSum_22 fl_RX6_31 k0 (okN hN k0 (by decide)) (Or.inl rfl) ?_
        refine J.bipush (pc := 25) dX6_readSum_25 ib_43 ?_
        rcases ifc h with ⟨hc, h⟩ | ⟨hc, h⟩
        · refine J.ceq (pc := 27) (tgt := 39) dX6_readSum_27 (by decide) (fun _ => ?_) (fun q => absurd hc q)
          refine J.aload_n (pc := 39) dX6_readSum_39 rfl 0 rfl ?_
          refine J.fI (pc := 40) dX6_readSum_40 fl_RX6_31 k0 (okN hN k0 (by decide)) (Or.inl rfl) ?_
          refine J.bipush (pc := 43) dX6_readSum_43 ib_43 ?_
          rcases ifc h with ⟨hc, h⟩ | ⟨hc, h⟩
          · refine J.cne (pc := 45) (tgt := 53) dX6_readSum_45 (by decide) (fun _ => ?_) (fun q => absurd hc q)
            refine J.bipush (pc := 48) dX6_readSum_48 ib_m15 ?_
            refine J.goto (pc := 50) (tgt := 55) dX6_readSum_50 (by decide) ?_
            refine J.istore_n (pc := 55) ([(3, .int (-15 : Int32)), (0, .ref v0), (1, .int v1), (2, .int v2)]) dX6_readSum_55 rfl (Nat.le_of_ble_eq_true rfl) rfl ?_
            refine J.aload_n (pc := 56) dX6_readSum_56 rfl 1 rfl ?_
            obtain ⟨μ2, e1, h⟩ := bnd h
            refine J.callV (Y := mX6_readSum) (Z := mX6_advance) (pc := 57) (st := []) (k2 := 0) (n2 := 0) dX6_readSum_57 ml_RX6_65 mo_X6_advance mv_X6_advance rfl (tX6_advance (d + 17) e1 hN k0) k0 (okN hN k0 (by decide)).1 (okN hN k0 (by decide)).2 cq_6 (by decide) rfl rfl (Nat.le_of_ble_eq_true rfl) (by decide) (by decide) (fun v ν hp => ?_) (fun i ν hp => nrm hp.1)
            obtain ⟨rfl, rfl, hN3, hb4⟩ := QEl hp
            show J _ _ _ _ 60 _ ([]) _ _ _ _
            refine J.aload_n (pc := 60) dX6_readSum_60 rfl 1 rfl ?_
            refine J.iload_n (pc := 61) dX6_readSum_61 rfl 2 rfl ?_
            obtain ⟨μ6, e5, h⟩ := bnd h
            refine J.callV (Y := mX6_readSum) (Z := mX6_readProduct) (pc := 62) (st := []) (k2 := 0) (n2 := 0) dX6_readSum_62 ml_RX6_215 mo_X6_readProduct mv_X6_readProduct rfl (tX6_readProduct hrec e5 hN3 k0) k0 (okN hN3 k0 (by decide)).1 (okN hN3 k0 (by decide)).2 cq_6 (by decide) rfl rfl (Nat.le_of_ble_eq_true rfl) (by decide) (by decide) (fun v ν hp => ?_) (fun i ν hp => nrm hp.1)
            obtain ⟨rfl, rfl, hN7, hb8⟩ := QEl hp
            show J _ _ _ _ 65 _ ([]) _ _ _ _
            refine J.aload_n (pc := 65) dX6_readSum_65 rfl 1 rfl ?_
            obtain ⟨a9, e10, h⟩ := bnd h
            have k11 : (kd a9).1 = 17 := gR_k e10
            refine J.fR (pc := 66) dX6_readSum_66 fl_RX6_53 k0 (okN hN7 k0 (by decide)) rfl e10 ?_
            refine J.iload_n (pc := 69) dX6_readSum_69 rfl 0 rfl ?_
            obtain ⟨μ13, e12, h⟩ := bnd h
            refine J.callV (Y := mX6_readSum) (Z := mX7_add) (pc := 70) (st := []) (k2 := 0) (n2 := 0) dX6_readSum_70 ml_RX6_202 mo_X7_add mv_X7_add rfl (tX7_add (d + 22) e12 hN7 k11) k11 (okN hN7 k11 (by decide)).1 (okN hN7 k11 (by decide)).2 cq_7 (by decide) rfl rfl (Nat.le_of_ble_eq_true rfl) (by decide) (by decide) (fun v ν hp => ?_) (fun i ν hp => nrm hp.1)
            obtain ⟨rfl, rfl, hN14, hb15⟩ := QEl hp
            show J _ _ _ _ 73 _ ([]) _ _ _ _
            refine J.iinc (pc := 73) (j := 3) ([(2, .int (v2 + (1 : Int32))), (3, .int (-15 : Int32)), (0, .ref v0), (1, .int v1)]) dX6_readSum_73 rfl (iincv ic_1) (Nat.le_of_ble_eq_true rfl) rfl ?_
            refine J.goto (pc := 76) (tgt := 7) dX6_readSum_76 (by decide) ?_
            refine J.pick [2, 3, 0] rfl ?_
            exact ih v0 v1 (v2 + (1 : Int32)) μ13 h hN14 k0
          · refine J.cne (pc := 45) (tgt := 53) dX6_readSum_45 (by decide) (fun q => absurd q hc) (fun _ => ?_)
            refine J.bipush (pc := 53) dX6_readSum_53 ib_m16 ?_
            refine J.istore_n (pc := 55) ([(3, .int (-16 : Int32)), (0, .ref v0), (1, .int v1), (2, .int v2)]) dX6_readSum_55 rfl (Nat.le_of_ble_eq_true rfl) rfl ?_
            refine J.aload_n (pc := 56) dX6_readSum_56 rfl 1 rfl ?_
            obtain ⟨μ17, e16, h⟩ := bnd h
            refine J.callV (Y := mX6_readSum) (Z := mX6_advance) (pc := 57) (st := []) (k2 := 0) (n2 := 0) dX6_readSum_57 ml_RX6_65 mo_X6_advance mv_X6_advance rfl (tX6_advance (d + 17) e16 hN k0) k0 (okN hN k0 (by decide)).1 (okN hN k0 (by decide)).2 cq_6 (by decide) rfl rfl (Nat.le_of_ble_eq_true rfl) (by decide) (by decide) (fun v ν hp => ?_) (fun i ν hp => nrm hp.1)
            obtain ⟨rfl, rfl, hN18, hb19⟩ := QEl hp
            show J _ _ _ _ 60 _ ([]) _ _ _ _
            refine J.aload_n (pc := 60) dX6_readSum_60 rfl 1 rfl ?_
            refine J.iload_n (pc := 61) dX6_readSum_61 rfl 2 rfl ?_
            obtain ⟨μ21, e20, h⟩ := bnd h
            refine J.callV (Y := mX6_readSum) (Z := mX6_readProduct) (pc := 62) (st := []) (k2 := 0) (n2 := 0) dX6_readSum_62 ml_RX6_215 mo_X6_readProduct mv_X6_readProduct rfl (tX6_readProduct hrec e20 hN18 k0) k0 (okN hN18 k0 (by decide)).1 (okN hN18 k0 (by decide)).2 cq_6 (by decide) rfl rfl (Nat.le_of_ble_eq_true rfl) (by decide) (by decide) (fun v ν hp => ?_) (fun i ν hp => nrm hp.1)
            obtain ⟨rfl, rfl, hN22, hb23⟩ := QEl hp
            show J _ _ _ _ 65 _ ([]) _ _ _ _
            refine J.aload_n (pc := 65) dX6_readSum_65 rfl 1 rfl ?_
            obtain ⟨a24, e25, h⟩ := bnd h
            have k26 : (kd a24).1 = 17 := gR_k e25
            refine J.fR (pc := 66) dX6_readSum_66 fl_RX6_53 k0 (okN hN22 k0 (by decide)) rfl e25 ?_
            refine J.iload_n (pc := 69) dX6_readSum_69 rfl 0 rfl ?_
            obtain ⟨μ28, e27, h⟩ := bnd h
            refine J.callV (Y := mX6_readSum) (Z := mX7_add) (pc := 70) (st := []) (k2 := 0) (n2 := 0) dX6_readSum_70 ml_RX6_202 mo_X7_add mv_X7_add rfl (tX7_add (d + 22) e27 hN22 k26) k26 (okN hN22 k26 (by decide)).1 (okN hN22 k26 (by decide)).2 cq_7 (by decide) rfl rfl (Nat.le_of_ble_eq_true rfl) (by decide) (by decide) (fun v ν hp => ?_) (fun i ν hp => nrm hp.1)
            obtain ⟨rfl, rfl, hN29, hb30⟩ := QEl hp
            show J _ _ _ _ 73 _ ([]) _ _ _ _
            refine J.iinc (pc := 73) (j := 3) ([(2, .int (v2 + (1 : Int32))), (3, .int (-16 : Int32)), (0, .ref v0), (1, .int v1)]) dX6_readSum_73 rfl (iincv ic_1) (Nat.le_of_ble_eq_true rfl) rfl ?_
            refine J.goto (pc := 76) (tgt := 7) dX6_readSum_76 (by decide) ?_
            refine J.pick [2, 3, 0] rfl ?_
            exact ih v0 v1 (v2 + (1 : Int32)) μ28 h hN29 k0
        · refine J.ceq (pc := 27) (tgt := 39) dX6_readSum_27 (by decide) (fun q => absurd q hc) (fun _ => ?_)
          refine J.aload_n (pc := 30) dX6_readSum_30 rfl 0 rfl ?_
          refine J.fI (pc := 31) dX6_readSum_31 fl_RX6_31 k0 (okN hN k0 (by decide)) (Or.inl rfl) ?_
          refine J.bipush (pc := 34) dX6_readSum_34 ib_45 ?_
          rcases ifc h with ⟨hc, h⟩ | ⟨hc, h⟩
          · refine J.cne (pc := 36) (tgt := 79) dX6_readSum_36 (by decide) (fun _ => ?_) (fun q => absurd hc q)
            refine J.aload_n (pc := 39) dX6_readSum_39 rfl 0 rfl ?_
            refine J.fI (pc := 40) dX6_readSum_40 fl_RX6_31 k0 (okN hN k0 (by decide)) (Or.inl rfl) ?_
            refine J.bipush (pc := 43) dX6_readSum_43 ib_43 ?_
            rcases ifc h with ⟨hc, h⟩ | ⟨hc, h⟩
            · refine J.cne (pc := 45) (tgt := 53) dX6_readSum_45 (by decide) (fun _ => ?_) (fun q => absurd hc q)
              refine J.bipush (pc := 48) dX6_readSum_48 ib_m15 ?_
              refine J.goto (pc := 50) (tgt := 55) dX6_readSum_50 (by decide) ?_
              refine J.istore_n (pc := 55) ([(3, .int (-15 : Int32)), (0, .ref v0), (1, .int v1), (2, .int v2)]) dX6_readSum_55 rfl (Nat.le_of_ble_eq_true rfl) rfl ?_
              refine J.aload_n (pc := 56) dX6_readSum_56 rfl 1 rfl ?_
              obtain ⟨μ32, e31, h⟩ := bnd h
              refine J.callV (Y := mX6_readSum) (Z := mX6_advance) (pc := 57) (st := []) (k2 := 0) (n2 := 0) dX6_readSum_57 ml_RX6_65 mo_X6_advance mv_X6_advance rfl (tX6_advance (d + 17) e31 hN k0) k0 (okN hN k0 (by decide)).1 (okN hN k0 (by decide)).2 cq_6 (by decide) rfl rfl (Nat.le_of_ble_eq_true rfl) (by decide) (by decide) (fun v ν hp => ?_) (fun i ν hp => nrm hp.1)
              obtain ⟨rfl, rfl, hN33, hb34⟩ := QEl hp
              show J _ _ _ _ 60 _ ([]) _ _ _ _
              refine J.aload_n (pc := 60) dX6_readSum_60 rfl 1 rfl ?_
              refine J.iload_n (pc := 61) dX6_readSum_61 rfl 2 rfl ?_
              obtain ⟨μ36, e35, h⟩ := bnd h
              refine J.callV (Y := mX6_readSum) (Z := mX6_readProduct) (pc := 62) (st := []) (k2 := 0) (n2 := 0) dX6_readSum_62 ml_RX6_215 mo_X6_readProduct mv_X6_readProduct rfl (tX6_readProduct hrec e35 hN33 k0) k0 (okN hN33 k0 (by decide)).1 (okN hN33 k0 (by decide)).2 cq_6 (by decide) rfl rfl (Nat.le_of_ble_eq_true rfl) (by decide) (by decide) (fun v ν hp => ?_) (fun i ν hp => nrm hp.1)
              obtain ⟨rfl, rfl, hN37, hb38⟩ := QEl hp
              show J _ _ _ _ 65 _ ([]) _ _ _ _
              refine J.aload_n (pc := 65) dX6_readSum_65 rfl 1 rfl ?_
              obtain ⟨a39, e40, h⟩ := bnd h
              have k41 : (kd a39).1 = 17 := gR_k e40
              refine J.fR (pc := 66) dX6_readSum_66 fl_RX6_53 k0 (okN hN37 k0 (by decide)) rfl e40 ?_
              refine J.iload_n (pc := 69) dX6_readSum_69 rfl 0 rfl ?_
              obtain ⟨μ43, e42, h⟩ := bnd h
              refine J.callV (Y := mX6_readSum) (Z := mX7_add) (pc := 70) (st := []) (k2 := 0) (n2 := 0) dX6_readSum_70 ml_RX6_202 mo_X7_add mv_X7_add rfl (tX7_add (d + 22) e42 hN37 k41) k41 (okN hN37 k41 (by decide)).1 (okN hN37 k41 (by decide)).2 cq_7 (by decide) rfl rfl (Nat.le_of_ble_eq_true rfl) (by decide) (by decide) (fun v ν hp => ?_) (fun i ν hp => nrm hp.1)
              obtain ⟨rfl, rfl, hN44, hb45⟩ := QEl hp
              show J _ _ _ _ 73 _ ([]) _ _ _ _
              refine J.iinc (pc := 73) (j := 3) ([(2, .int (v2 + (1 : Int32))), (3, .int (-15 : Int32)), (0, .ref v0), (1, .int v1)]) dX6_readSum_73 rfl (iincv ic_1) (Nat.le_of_ble_eq_true rfl) rfl ?_
              refine J.goto (pc := 76) (tgt := 7) dX6_readSum_76 (by decide) ?_
              refine J.pick [2, 3, 0] rfl ?_
              exact ih v0 v1 (v2 + (1 : Int32)) μ43 h hN44 k0
            · refine J.cne (pc := 45) (tgt := 53) dX6_readSum_45 (by decide) (fun q => absurd q hc) (fun _ => ?_)
              refine J.bipush (pc := 53) dX6_readSum_53 ib_m16 ?_
              refine J.istore_n (pc := 55) ([(3, .int (-16 : Int32)), (0, .ref v0), (1, .int v1), (2, .int v2)]) dX6_readSum_55 rfl (Nat.le_of_ble_eq_true rfl) rfl ?_
              refine J.aload_n (pc := 56) dX6_readSum_56 rfl 1 rfl ?_
              obtain ⟨μ47, e46, h⟩ := bnd h
              refine J.callV (Y := mX6_readSum) (Z := mX6_advance) (pc := 57) (st := []) (k2 := 0) (n2 := 0) dX6_readSum_57 ml_RX6_65 mo_X6_advance mv_X6_advance rfl (tX6_advance (d + 17) e46 hN k0) k0 (okN hN k0 (by decide)).1 (okN hN k0 (by decide)).2 cq_6 (by decide) rfl rfl (Nat.le_of_ble_eq_true rfl) (by decide) (by decide) (fun v ν hp => ?_) (fun i ν hp => nrm hp.1)
              obtain ⟨rfl, rfl, hN48, hb49⟩ := QEl hp
              show J _ _ _ _ 60 _ ([]) _ _ _ _
              refine J.aload_n (pc := 60) dX6_readSum_60 rfl 1 rfl ?_
              refine J.iload_n (pc := 61) dX6_readSum_61 rfl 2 rfl ?_
              obtain ⟨μ51, e50, h⟩ := bnd h
              refine J.callV (Y := mX6_readSum) (Z := mX6_readProduct) (pc := 62) (st := []) (k2 := 0) (n2 := 0) dX6_readSum_62 ml_RX6_215 mo_X6_readProduct mv_X6_readProduct rfl (tX6_readProduct hrec e50 hN48 k0) k0 (okN hN48 k0 (by decide)).1 (okN hN48 k0 (by decide)).2 cq_6 (by decide) rfl rfl (Nat.le_of_ble_eq_true rfl) (by decide) (by decide) (fun v ν hp => ?_) (fun i ν hp => nrm hp.1)
              obtain ⟨rfl, rfl, hN52, hb53⟩ := QEl hp
              show J _ _ _ _ 65 _ ([]) _ _ _ _
              refine J.aload_n (pc := 65) dX6_readSum_65 rfl 1 rfl ?_
              obtain ⟨a54, e55, h⟩ := bnd h
              have k56 : (kd a54).1 = 17 := gR_k e55
              refine J.fR (pc := 66) dX6_readSum_66 fl_RX6_53 k0 (okN hN52 k0 (by decide)) rfl e55 ?_
              refine J.iload_n (pc := 69) dX6_readSum_69 rfl 0 rfl ?_
              obtain ⟨μ58, e57, h⟩ := bnd h
              refine J.callV (Y := mX6_readSum) (Z := mX7_add) (pc := 70) (st := []) (k2 := 0) (n2 := 0) dX6_readSum_70 ml_RX6_202 mo_X7_add mv_X7_add rfl (tX7_add (d + 22) e57 hN52 k56) k56 (okN hN52 k56 (by decide)).1 (okN hN52 k56 (by decide)).2 cq_7 (by decide) rfl rfl (Nat.le_of_ble_eq_true rfl) (by decide) (by decide) (fun v ν hp => ?_) (fun i ν hp => nrm hp.1)
              obtain ⟨rfl, rfl, hN59, hb60⟩ := QEl hp
              show J _ _ _ _ 73 _ ([]) _ _ _ _
              refine J.iinc (pc := 73) (j := 3) ([(2, .int (v2 + (1 : Int32))), (3, .int (-16 : Int32)), (0, .ref v0), (1, .int v1)]) dX6_readSum_73 rfl (iincv ic_1) (Nat.le_of_ble_eq_true rfl) rfl ?_
              refine J.goto (pc := 76) (tgt := 7) dX6_readSum_76 (by decide) ?_
              refine J.pick [2, 3, 0] rfl ?_
              exact ih v0 v1 (v2 + (1 : Int32)) μ58 h hN59 k0
          · refine J.cne (pc := 36) (tgt := 79) dX6_readSum_36 (by decide) (fun q => absurd q hc) (fun _ => ?_)
            cases h
            exact J.vret (pc := 79) dX6_readSum_79 rfl ⟨rfl, rfl, hN, trivial⟩
      · refine J.zne (pc := 18) (tgt := 79) dX6_readSum_18 (by decide) (fun q => absurd q hc) (fun _ => ?_)
        cases h
        exact J.vret (pc := 79) dX6_readSum_79 rfl ⟨rfl, rfl, hN, trivial⟩
    · refine J.cge (pc := 11) (tgt := 79) dX6_readSum_11 (by decide) (fun q => absurd q hc) (fun _ => ?_)
      cases h
      exact J.vret (pc := 79) dX6_readSum_79 rfl ⟨rfl, rfl, hN, trivial⟩
def fX6_readSum (rec : Nat → Int32 → Mem → Option Mem) (v0 : Nat) (v1 : Int32) (μ : Mem) : Option (Mem) :=
  (fX6_readProduct rec v0 v1 μ).bind fun μ2 =>
  (fX6_readSum_7 rec fuel) v0 v1 (0 : Int32) μ2
set_option maxHeartbeats 4000000 in
theorem tX6_readSum {ω : Wd} {l : Launch} {d : Nat} {rec : Nat → Int32 → Mem → Option Mem} (hrec : HR ω l d rec) {v0 : Nat} {v1 : Int32} {μ : Mem} {res : Mem} (h : fX6_readSum rec v0 v1 μ = some res) (hN : μ.1 = NN) (k0 : (kd v0).1 = 16) : Ct ω l mX6_readSum (d + 23) [.ref v0, .int v1] μ 0 0 (PE (.inl none) res True) := by
  refine Ct.of pn_RX6 (Nat.le_of_ble_eq_true rfl) ?_
  show J ω l mX6_readSum (d + 23) 0 [(0, .ref v0), (1, .int v1)] [] μ 0 0 _
  unfold fX6_readSum at h
  refine J.aload_n (pc := 0) dX6_readSum_0 rfl 0 rfl ?_
  refine J.iload_n (pc := 1) dX6_readSum_1 rfl 1 rfl ?_
  obtain ⟨μ2, e1, h⟩ := bnd h
  refine J.callV (Y := mX6_readSum) (Z := mX6_readProduct) (pc := 2) (st := []) (k2 := 0) (n2 := 0) dX6_readSum_2 ml_RX6_215 mo_X6_readProduct mv_X6_readProduct rfl (tX6_readProduct hrec e1 hN k0) k0 (okN hN k0 (by decide)).1 (okN hN k0 (by decide)).2 cq_6 (by decide) rfl rfl (Nat.le_of_ble_eq_true rfl) (by decide) (by decide) (fun v ν hp => ?_) (fun i ν hp => nrm hp.1)
  obtain ⟨rfl, rfl, hN3, hb4⟩ := QEl hp
  show J _ _ _ _ 5 _ ([]) _ _ _ _
  refine J.iconst (pc := 5) dX6_readSum_5 ic_0 ?_
  refine J.istore_n (pc := 6) ([(2, .int (0 : Int32)), (0, .ref v0), (1, .int v1)]) dX6_readSum_6 rfl (Nat.le_of_ble_eq_true rfl) rfl ?_
  refine J.pick [1, 2, 0] rfl ?_
  exact (tX6_readSum_7 d hrec fuel) v0 v1 (0 : Int32) μ2 h hN3 k0
def fX6_readNot_113 (rec : Nat → Int32 → Mem → Option Mem)  : Nat → Nat → Int32 → Int32 → Mem → Option (Mem)
  | 0, _, _, _, _ => none
  | n + 1, v0, v2, v3, μ =>
    if v3 < v2 then
      (gR μ v0 9 17).bind fun a1 =>
      (fX7_add a1 (-10 : Int32) μ).bind fun μ5 =>
      (fX6_readNot_113 rec n) v0 v2 (v3 + (1 : Int32)) μ5
    else
      some μ
set_option maxHeartbeats 4000000 in
theorem tX6_readNot_113 {ω : Wd} {l : Launch} (d : Nat) {rec : Nat → Int32 → Mem → Option Mem} (hrec : HR ω l d rec) {res : Mem} : ∀ n : Nat, ∀ (v0 : Nat) (v2 : Int32) (v3 : Int32) (μ : Mem), fX6_readNot_113 rec n v0 v2 v3 μ = some res → μ.1 = NN → (kd v0).1 = 16 → J ω l mX6_readNot (d + 24) 113 [(0, .ref v0), (2, .int v2), (3, .int v3)] [] μ 0 0 (PE (.inl none) res True) := by
  intro n
  induction n with
  | zero =>
    intro v0 v2 v3 μ h hN k0
    have h9 : (none : Option (Mem)) = some res := h
    cases h9
  | succ n ih =>
    intro v0 v2 v3 μ h hN k0
    unfold fX6_readNot_113 at h
    refine J.iload_n (pc := 113) dX6_readNot_113 rfl 2 rfl ?_
    refine J.iload_n (pc := 114) dX6_readNot_114 rfl 1 rfl ?_
    rcases ifc h with ⟨hc, h⟩ | ⟨hc, h⟩
    · refine J.cge (pc := 115) (tgt := 133) dX6_readNot_115 (by decide) (fun _ => ?_) (fun q => absurd hc q)
      refine J.aload_n (pc := 118) dX6_readNot_118 rfl 0 rfl ?_
      obtain ⟨a1, e2, h⟩ := bnd h
      have k3 : (kd a1).1 = 17 := gR_k e2
      refine J.fR (pc := 119) dX6_readNot_119 fl_RX6_53 k0 (okN hN k0 (by decide)) rfl e2 ?_
      refine J.bipush (pc := 122) dX6_readNot_122 ib_m10 ?_
      obtain ⟨μ5, e4, h⟩ := bnd h
      refine J.callV (Y := mX6_readNot) (Z := mX7_add) (pc := 124) (st := []) (k2 := 0) (n2 := 0) dX6_readNot_124 ml_RX6_202 mo_X7_add mv_X7_add rfl (tX7_add (d + 23) e4 hN k3) k3 (okN hN k3 (by decide)).1 (okN hN k3 (by decide)).2 cq_7 (by decide) rfl rfl (Nat.le_of_ble_eq_true rfl) (by decide) (by decide) (fun v ν hp => ?_) (fun i ν hp => nrm hp.1)
      obtain ⟨rfl, rfl, hN6, hb7⟩ := QEl hp
      show J _ _ _ _ 127 _ ([]) _ _ _ _
      refine J.iinc (pc := 127) (j := 2) ([(3, .int (v3 + (1 : Int32))), (0, .ref v0), (2, .int v2)]) dX6_readNot_127 rfl (iincv ic_1) (Nat.le_of_ble_eq_true rfl) rfl ?_
      refine J.goto (pc := 130) (tgt := 113) dX6_readNot_130 (by decide) ?_
      refine J.pick [1, 2, 0] rfl ?_
      exact ih v0 v2 (v3 + (1 : Int32)) μ5 h hN6 k0
    · refine J.cge (pc := 115) (tgt := 133) dX6_readNot_115 (by decide) (fun q => absurd q hc) (fun _ => ?_)
      cases h
      exact J.vret (pc := 133) dX6_readNot_133 rfl ⟨rfl, rfl, hN, trivial⟩
def fX6_readNot_47 (rec : Nat → Int32 → Mem → Option Mem)  (v0 : Nat) (v1 : Int32) (v2 : Int32) (μ : Mem) : Option (Mem) :=
  (fX6_readSum rec v0 v1 μ).bind fun μ2 =>
  if (μ2.2.1 v0 0) = 0 then
    if (μ2.2.1 v0 6) = (60 : Int32) then
      if (μ2.2.1 v0 6) = (60 : Int32) then
        (fX6_advance v0 μ2).bind fun μ6 =>
        (fX6_readSum rec v0 v1 μ6).bind fun μ10 =>
        (gR μ10 v0 9 17).bind fun a13 =>
        (fX7_add a13 (-13 : Int32) μ10).bind fun μ17 =>
        (fX6_readNot_113 rec fuel) v0 v2 (0 : Int32) μ17
      else
        (fX6_advance v0 μ2).bind fun μ21 =>
        (fX6_readSum rec v0 v1 μ21).bind fun μ25 =>
        (gR μ25 v0 9 17).bind fun a28 =>
        (fX7_add a28 (-14 : Int32) μ25).bind fun μ32 =>
        (fX6_readNot_113 rec fuel) v0 v2 (0 : Int32) μ32
    else
      if (μ2.2.1 v0 6) = (61 : Int32) then
        if (μ2.2.1 v0 6) = (60 : Int32) then
          (fX6_advance v0 μ2).bind fun μ36 =>
          (fX6_readSum rec v0 v1 μ36).bind fun μ40 =>
          (gR μ40 v0 9 17).bind fun a43 =>
          (fX7_add a43 (-13 : Int32) μ40).bind fun μ47 =>
          (fX6_readNot_113 rec fuel) v0 v2 (0 : Int32) μ47
        else
          (fX6_advance v0 μ2).bind fun μ51 =>
          (fX6_readSum rec v0 v1 μ51).bind fun μ55 =>
          (gR μ55 v0 9 17).bind fun a58 =>
          (fX7_add a58 (-14 : Int32) μ55).bind fun μ62 =>
          (fX6_readNot_113 rec fuel) v0 v2 (0 : Int32) μ62
      else
        (fX6_readNot_113 rec fuel) v0 v2 (0 : Int32) μ2
  else
    (fX6_readNot_113 rec fuel) v0 v2 (0 : Int32) μ2
set_option maxHeartbeats 4000000 in
theorem tX6_readNot_47 {ω : Wd} {l : Launch} (d : Nat) {rec : Nat → Int32 → Mem → Option Mem} (hrec : HR ω l d rec) {res : Mem} : ∀ (v0 : Nat) (v1 : Int32) (v2 : Int32) (μ : Mem), fX6_readNot_47 rec v0 v1 v2 μ = some res → μ.1 = NN → (kd v0).1 = 16 → J ω l mX6_readNot (d + 24) 47 [(0, .ref v0), (1, .int v1), (2, .int v2)] [] μ 0 0 (PE (.inl none) res True) := by
  intro v0 v1 v2 μ h hN k0
  unfold fX6_readNot_47 at h
  refine J.aload_n (pc := 47) dX6_readNot_47 rfl 0 rfl ?_
  refine J.iload_n (pc := 48) dX6_readNot_48 rfl 1 rfl ?_
  obtain ⟨μ2, e1, h⟩ := bnd h
  refine J.callV (Y := mX6_readNot) (Z := mX6_readSum) (pc := 49) (st := []) (k2 := 0) (n2 := 0) dX6_readNot_49 ml_RX6_212 mo_X6_readSum mv_X6_readSum rfl (tX6_readSum hrec e1 hN k0) k0 (okN hN k0 (by decide)).1 (okN hN k0 (by decide)).2 cq_6 (by decide) rfl rfl (Nat.le_of_ble_eq_true rfl) (by decide) (by decide) (fun v ν hp => ?_) (fun i ν hp => nrm hp.1)
  obtain ⟨rfl, rfl, hN3, hb4⟩ := QEl hp
  show J _ _ _ _ 52 _ ([]) _ _ _ _
  refine J.aload_n (pc := 52) dX6_readNot_52 rfl 0 rfl ?_
  refine J.fI (pc := 53) dX6_readNot_53 fl_RX6_9 k0 (okN hN3 k0 (by decide)) (Or.inl rfl) ?_
  rcases ifc h with ⟨hc, h⟩ | ⟨hc, h⟩
  · refine J.zne (pc := 56) (tgt := 111) dX6_readNot_56 (by decide) (fun _ => ?_) (fun q => absurd hc q)
    refine J.aload_n (pc := 59) dX6_readNot_59 rfl 0 rfl ?_
    refine J.fI (pc := 60) dX6_readNot_60 fl_RX6_31 k0 (okN hN3 k0 (by decide)) (Or.inl rfl) ?_
    refine J.bipush (pc := 63) dX6_readNot_63 ib_60 ?_
    rcases ifc h with ⟨hc, h⟩ | ⟨hc, h⟩
    · refine J.ceq (pc := 65) (tgt := 77) dX6_readNot_65 (by decide) (fun _ => ?_) (fun q => absurd hc q)
      refine J.aload_n (pc := 77) dX6_readNot_77 rfl 0 rfl ?_
      refine J.fI (pc := 78) dX6_readNot_78 fl_RX6_31 k0 (okN hN3 k0 (by decide)) (Or.inl rfl) ?_
      refine J.bipush (pc := 81) dX6_readNot_81 ib_60 ?_
      rcases ifc h with ⟨hc, h⟩ | ⟨hc, h⟩
      · refine J.cne (pc := 83) (tgt := 91) dX6_readNot_83 (by decide) (fun _ => ?_) (fun q => absurd hc q)
        refine J.bipush (pc := 86) dX6_readNot_86 ib_m13 ?_
        refine J.goto (pc := 88) (tgt := 93) dX6_readNot_88 (by decide) ?_
        refine J.istore_n (pc := 93) ([(3, .int (-13 : Int32)), (0, .ref v0), (1, .int v1), (2, .int v2)]) dX6_readNot_93 rfl (Nat.le_of_ble_eq_true rfl) rfl ?_
        refine J.aload_n (pc := 94) dX6_readNot_94 rfl 1 rfl ?_
        obtain ⟨μ6, e5, h⟩ := bnd h
        refine J.callV (Y := mX6_readNot) (Z := mX6_advance) (pc := 95) (st := []) (k2 := 0) (n2 := 0) dX6_readNot_95 ml_RX6_65 mo_X6_advance mv_X6_advance rfl (tX6_advance (d + 18) e5 hN3 k0) k0 (okN hN3 k0 (by decide)).1 (okN hN3 k0 (by decide)).2 cq_6 (by decide) rfl rfl (Nat.le_of_ble_eq_true rfl) (by decide) (by decide) (fun v ν hp => ?_) (fun i ν hp => nrm hp.1)
        obtain ⟨rfl, rfl, hN7, hb8⟩ := QEl hp
        show J _ _ _ _ 98 _ ([]) _ _ _ _
        refine J.aload_n (pc := 98) dX6_readNot_98 rfl 1 rfl ?_
        refine J.iload_n (pc := 99) dX6_readNot_99 rfl 2 rfl ?_
        obtain ⟨μ10, e9, h⟩ := bnd h
        refine J.callV (Y := mX6_readNot) (Z := mX6_readSum) (pc := 100) (st := []) (k2 := 0) (n2 := 0) dX6_readNot_100 ml_RX6_212 mo_X6_readSum mv_X6_readSum rfl (tX6_readSum hrec e9 hN7 k0) k0 (okN hN7 k0 (by decide)).1 (okN hN7 k0 (by decide)).2 cq_6 (by decide) rfl rfl (Nat.le_of_ble_eq_true rfl) (by decide) (by decide) (fun v ν hp => ?_) (fun i ν hp => nrm hp.1)
        obtain ⟨rfl, rfl, hN11, hb12⟩ := QEl hp
        show J _ _ _ _ 103 _ ([]) _ _ _ _
        refine J.aload_n (pc := 103) dX6_readNot_103 rfl 1 rfl ?_
        obtain ⟨a13, e14, h⟩ := bnd h
        have k15 : (kd a13).1 = 17 := gR_k e14
        refine J.fR (pc := 104) dX6_readNot_104 fl_RX6_53 k0 (okN hN11 k0 (by decide)) rfl e14 ?_
        refine J.iload_n (pc := 107) dX6_readNot_107 rfl 0 rfl ?_
        obtain ⟨μ17, e16, h⟩ := bnd h
        refine J.callV (Y := mX6_readNot) (Z := mX7_add) (pc := 108) (st := []) (k2 := 0) (n2 := 0) dX6_readNot_108 ml_RX6_202 mo_X7_add mv_X7_add rfl (tX7_add (d + 23) e16 hN11 k15) k15 (okN hN11 k15 (by decide)).1 (okN hN11 k15 (by decide)).2 cq_7 (by decide) rfl rfl (Nat.le_of_ble_eq_true rfl) (by decide) (by decide) (fun v ν hp => ?_) (fun i ν hp => nrm hp.1)
        obtain ⟨rfl, rfl, hN18, hb19⟩ := QEl hp
        show J _ _ _ _ 111 _ ([]) _ _ _ _
        refine J.iconst (pc := 111) dX6_readNot_111 ic_0 ?_
        refine J.istore_n (pc := 112) ([(3, .int (0 : Int32)), (0, .ref v0), (1, .int v1), (2, .int v2)]) dX6_readNot_112 rfl (Nat.le_of_ble_eq_true rfl) rfl ?_
        refine J.pick [1, 3, 0] rfl ?_
        exact (tX6_readNot_113 d hrec fuel) v0 v2 (0 : Int32) μ17 h hN18 k0
      · refine J.cne (pc := 83) (tgt := 91) dX6_readNot_83 (by decide) (fun q => absurd q hc) (fun _ => ?_)
        refine J.bipush (pc := 91) dX6_readNot_91 ib_m14 ?_
        refine J.istore_n (pc := 93) ([(3, .int (-14 : Int32)), (0, .ref v0), (1, .int v1), (2, .int v2)]) dX6_readNot_93 rfl (Nat.le_of_ble_eq_true rfl) rfl ?_
        refine J.aload_n (pc := 94) dX6_readNot_94 rfl 1 rfl ?_
        obtain ⟨μ21, e20, h⟩ := bnd h
        refine J.callV (Y := mX6_readNot) (Z := mX6_advance) (pc := 95) (st := []) (k2 := 0) (n2 := 0) dX6_readNot_95 ml_RX6_65 mo_X6_advance mv_X6_advance rfl (tX6_advance (d + 18) e20 hN3 k0) k0 (okN hN3 k0 (by decide)).1 (okN hN3 k0 (by decide)).2 cq_6 (by decide) rfl rfl (Nat.le_of_ble_eq_true rfl) (by decide) (by decide) (fun v ν hp => ?_) (fun i ν hp => nrm hp.1)
        obtain ⟨rfl, rfl, hN22, hb23⟩ := QEl hp
        show J _ _ _ _ 98 _ ([]) _ _ _ _
        refine J.aload_n (pc := 98) dX6_readNot_98 rfl 1 rfl ?_
        refine J.iload_n (pc := 99) dX6_readNot_99 rfl 2 rfl ?_
        obtain ⟨μ25, e24, h⟩ := bnd h
        refine J.callV (Y := mX6_readNot) (Z := mX6_readSum) (pc := 100) (st := []) (k2 := 0) (n2 := 0) dX6_readNot_100 ml_RX6_212 mo_X6_readSum mv_X6_readSum rfl (tX6_readSum hrec e24 hN22 k0) k0 (okN hN22 k0 (by decide)).1 (okN hN22 k0 (by decide)).2 cq_6 (by decide) rfl rfl (Nat.le_of_ble_eq_true rfl) (by decide) (by decide) (fun v ν hp => ?_) (fun i ν hp => nrm hp.1)
        obtain ⟨rfl, rfl, hN26, hb27⟩ := QEl hp
        show J _ _ _ _ 103 _ ([]) _ _ _ _
        refine J.aload_n (pc := 103) dX6_readNot_103 rfl 1 rfl ?_
        obtain ⟨a28, e29, h⟩ := bnd h
        have k30 : (kd a28).1 = 17 := gR_k e29
        refine J.fR (pc := 104) dX6_readNot_104 fl_RX6_53 k0 (okN hN26 k0 (by decide)) rfl e29 ?_
        refine J.iload_n (pc := 107) dX6_readNot_107 rfl 0 rfl ?_
        obtain ⟨μ32, e31, h⟩ := bnd h
        refine J.callV (Y := mX6_readNot) (Z := mX7_add) (pc := 108) (st := []) (k2 := 0) (n2 := 0) dX6_readNot_108 ml_RX6_202 mo_X7_add mv_X7_add rfl (tX7_add (d + 23) e31 hN26 k30) k30 (okN hN26 k30 (by decide)).1 (okN hN26 k30 (by decide)).2 cq_7 (by decide) rfl rfl (Nat.le_of_ble_eq_true rfl) (by decide) (by decide) (fun v ν hp => ?_) (fun i ν hp => nrm hp.1)
        obtain ⟨rfl, rfl, hN33, hb34⟩ := QEl hp
        show J _ _ _ _ 111 _ ([]) _ _ _ _
        refine J.iconst (pc := 111) dX6_readNot_111 ic_0 ?_
        refine J.istore_n (pc := 112) ([(3, .int (0 : Int32)), (0, .ref v0), (1, .int v1), (2, .int v2)]) dX6_readNot_112 rfl (Nat.le_of_ble_eq_true rfl) rfl ?_
        refine J.pick [1, 3, 0] rfl ?_
        exact (tX6_readNot_113 d hrec fuel) v0 v2 (0 : Int32) μ32 h hN33 k0
    · refine J.ceq (pc := 65) (tgt := 77) dX6_readNot_65 (by decide) (fun q => absurd q hc) (fun _ => ?_)
      refine J.aload_n (pc := 68) dX6_readNot_68 rfl 0 rfl ?_
      refine J.fI (pc := 69) dX6_readNot_69 fl_RX6_31 k0 (okN hN3 k0 (by decide)) (Or.inl rfl) ?_
      refine J.bipush (pc := 72) dX6_readNot_72 ib_61 ?_
      rcases ifc h with ⟨hc, h⟩ | ⟨hc, h⟩
      · refine J.cne (pc := 74) (tgt := 111) dX6_readNot_74 (by decide) (fun _ => ?_) (fun q => absurd hc q)
        refine J.aload_n (pc := 77) dX6_readNot_77 rfl 0 rfl ?_
        refine J.fI (pc := 78) dX6_readNot_78 fl_RX6_31 k0 (okN hN3 k0 (by decide)) (Or.inl rfl) ?_
        refine J.bipush (pc := 81) dX6_readNot_81 ib_60 ?_
        rcases ifc h with ⟨hc, h⟩ | ⟨hc, h⟩
        · refine J.cne (pc := 83) (tgt := 91) dX6_readNot_83 (by decide) (fun _ => ?_) (fun q => absurd hc q)
          refine J.bipush (pc := 86) dX6_readNot_86 ib_m13 ?_
          refine J.goto (pc := 88) (tgt := 93) dX6_readNot_88 (by decide) ?_
          refine J.istore_n (pc := 93) ([(3, .int (-13 : Int32)), (0, .ref v0), (1, .int v1), (2, .int v2)]) dX6_readNot_93 rfl (Nat.le_of_ble_eq_true rfl) rfl ?_
          refine J.aload_n (pc := 94) dX6_readNot_94 rfl 1 rfl ?_
          obtain ⟨μ36, e35, h⟩ := bnd h
          refine J.callV (Y := mX6_readNot) (Z := mX6_advance) (pc := 95) (st := []) (k2 := 0) (n2 := 0) dX6_readNot_95 ml_RX6_65 mo_X6_advance mv_X6_advance rfl (tX6_advance (d + 18) e35 hN3 k0) k0 (okN hN3 k0 (by decide)).1 (okN hN3 k0 (by decide)).2 cq_6 (by decide) rfl rfl (Nat.le_of_ble_eq_true rfl) (by decide) (by decide) (fun v ν hp => ?_) (fun i ν hp => nrm hp.1)
          obtain ⟨rfl, rfl, hN37, hb38⟩ := QEl hp
          show J _ _ _ _ 98 _ ([]) _ _ _ _
          refine J.aload_n (pc := 98) dX6_readNot_98 rfl 1 rfl ?_
          refine J.iload_n (pc := 99) dX6_readNot_99 rfl 2 rfl ?_
          obtain ⟨μ40, e39, h⟩ := bnd h
          refine J.callV (Y := mX6_readNot) (Z := mX6_readSum) (pc := 100) (st := []) (k2 := 0) (n2 := 0) dX6_readNot_100 ml_RX6_212 mo_X6_readSum mv_X6_readSum rfl (tX6_readSum hrec e39 hN37 k0) k0 (okN hN37 k0 (by decide)).1 (okN hN37 k0 (by decide)).2 cq_6 (by decide) rfl rfl (Nat.le_of_ble_eq_true rfl) (by decide) (by decide) (fun v ν hp => ?_) (fun i ν hp => nrm hp.1)
          obtain ⟨rfl, rfl, hN41, hb42⟩ := QEl hp
          show J _ _ _ _ 103 _ ([]) _ _ _ _
          refine J.aload_n (pc := 103) dX6_readNot_103 rfl 1 rfl ?_
          obtain ⟨a43, e44, h⟩ := bnd h
          have k45 : (kd a43).1 = 17 := gR_k e44
          refine J.fR (pc := 104) dX6_readNot_104 fl_RX6_53 k0 (okN hN41 k0 (by decide)) rfl e44 ?_
          refine J.iload_n (pc := 107) dX6_readNot_107 rfl 0 rfl ?_
          obtain ⟨μ47, e46, h⟩ := bnd h
          refine J.callV (Y := mX6_readNot) (Z := mX7_add) (pc := 108) (st := []) (k2 := 0) (n2 := 0) dX6_readNot_108 ml_RX6_202 mo_X7_add mv_X7_add rfl (tX7_add (d + 23) e46 hN41 k45) k45 (okN hN41 k45 (by decide)).1 (okN hN41 k45 (by decide)).2 cq_7 (by decide) rfl rfl (Nat.le_of_ble_eq_true rfl) (by decide) (by decide) (fun v ν hp => ?_) (fun i ν hp => nrm hp.1)
          obtain ⟨rfl, rfl, hN48, hb49⟩ := QEl hp
          show J _ _ _ _ 111 _ ([]) _ _ _ _
          refine J.iconst (pc := 111) dX6_readNot_111 ic_0 ?_
          refine J.istore_n (pc := 112) ([(3, .int (0 : Int32)), (0, .ref v0), (1, .int v1), (2, .int v2)]) dX6_readNot_112 rfl (Nat.le_of_ble_eq_true rfl) rfl ?_
          refine J.pick [1, 3, 0] rfl ?_
          exact (tX6_readNot_113 d hrec fuel) v0 v2 (0 : Int32) μ47 h hN48 k0
        · refine J.cne (pc := 83) (tgt := 91) dX6_readNot_83 (by decide) (fun q => absurd q hc) (fun _ => ?_)
          refine J.bipush (pc := 91) dX6_readNot_91 ib_m14 ?_
          refine J.istore_n (pc := 93) ([(3, .int (-14 : Int32)), (0, .ref v0), (1, .int v1), (2, .int v2)]) dX6_readNot_93 rfl (Nat.le_of_ble_eq_true rfl) rfl ?_
          refine J.aload_n (pc := 94) dX6_readNot_94 rfl 1 rfl ?_
          obtain ⟨μ51, e50, h⟩ := bnd h
          refine J.callV (Y := mX6_readNot) (Z := mX6_advance) (pc := 95) (st := []) (k2 := 0) (n2 := 0) dX6_readNot_95 ml_RX6_65 mo_X6_advance mv_X6_advance rfl (tX6_advance (d + 18) e50 hN3 k0) k0 (okN hN3 k0 (by decide)).1 (okN hN3 k0 (by decide)).2 cq_6 (by decide) rfl rfl (Nat.le_of_ble_eq_true rfl) (by decide) (by decide) (fun v ν hp => ?_) (fun i ν hp => nrm hp.1)
          obtain ⟨rfl, rfl, hN52, hb53⟩ := QEl hp
          show J _ _ _ _ 98 _ ([]) _ _ _ _
          refine J.aload_n (pc := 98) dX6_readNot_98 rfl 1 rfl ?_
          refine J.iload_n (pc := 99) dX6_readNot_99 rfl 2 rfl ?_
          obtain ⟨μ55, e54, h⟩ := bnd h
          refine J.callV (Y := mX6_readNot) (Z := mX6_readSum) (pc := 100) (st := []) (k2 := 0) (n2 := 0) dX6_readNot_100 ml_RX6_212 mo_X6_readSum mv_X6_readSum rfl (tX6_readSum hrec e54 hN52 k0) k0 (okN hN52 k0 (by decide)).1 (okN hN52 k0 (by decide)).2 cq_6 (by decide) rfl rfl (Nat.le_of_ble_eq_true rfl) (by decide) (by decide) (fun v ν hp => ?_) (fun i ν hp => nrm hp.1)
          obtain ⟨rfl, rfl, hN56, hb57⟩ := QEl hp
          show J _ _ _ _ 103 _ ([]) _ _ _ _
          refine J.aload_n (pc := 103) dX6_readNot_103 rfl 1 rfl ?_
          obtain ⟨a58, e59, h⟩ := bnd h
          have k60 : (kd a58).1 = 17 := gR_k e59
          refine J.fR (pc := 104) dX6_readNot_104 fl_RX6_53 k0 (okN hN56 k0 (by decide)) rfl e59 ?_
          refine J.iload_n (pc := 107) dX6_readNot_107 rfl 0 rfl ?_
          obtain ⟨μ62, e61, h⟩ := bnd h
          refine J.callV (Y := mX6_readNot) (Z := mX7_add) (pc := 108) (st := []) (k2 := 0) (n2 := 0) dX6_readNot_108 ml_RX6_202 mo_X7_add mv_X7_add rfl (tX7_add (d + 23) e61 hN56 k60) k60 (okN hN56 k60 (by decide)).1 (okN hN56 k60 (by decide)).2 cq_7 (by decide) rfl rfl (Nat.le_of_ble_eq_true rfl) (by decide) (by decide) (fun v ν hp => ?_) (fun i ν hp => nrm hp.1)
          obtain ⟨rfl, rfl, hN63, hb64⟩ := QEl hp
          show J _ _ _ _ 111 _ ([]) _ _ _ _
          refine J.iconst (pc := 111) dX6_readNot_111 ic_0 ?_
          refine J.istore_n (pc := 112) ([(3, .int (0 : Int32)), (0, .ref v0), (1, .int v1), (2, .int v2)]) dX6_readNot_112 rfl (Nat.le_of_ble_eq_true rfl) rfl ?_
          refine J.pick [1, 3, 0] rfl ?_
          exact (tX6_readNot_113 d hrec fuel) v0 v2 (0 : Int32) μ62 h hN63 k0
      · refine J.cne (pc := 74) (tgt := 111) dX6_readNot_74 (by decide) (fun q => absurd q hc) (fun _ => ?_)
        refine J.iconst (pc := 111) dX6_readNot_111 ic_0 ?_
        refine J.istore_n (pc := 112) ([(3, .int (0 : Int32)), (0, .ref v0), (1, .int v1), (2, .int v2)]) dX6_readNot_112 rfl (Nat.le_of_ble_eq_true rfl) rfl ?_
        refine J.pick [1, 3, 0] rfl ?_
        exact (tX6_readNot_113 d hrec fuel) v0 v2 (0 : Int32) μ2 h hN3 k0
  · refine J.zne (pc := 56) (tgt := 111) dX6_readNot_56 (by decide) (fun q => absurd q hc) (fun _ => ?_)
    refine J.iconst (pc := 111) dX6_readNot_111 ic_0 ?_
    refine J.istore_n (pc := 112) ([(3, .int (0 : Int32)), (0, .ref v0), (1, .int v1), (2, .int v2)]) dX6_readNot_112 rfl (Nat.le_of_ble_eq_true rfl) rfl ?_
    refine J.pick [1, 3, 0] rfl ?_
    exact (tX6_readNot_113 d hrec fuel) v0 v2 (0 : Int32) μ2 h hN3 k0
def fX6_readNot_2 (rec : Nat → Int32 → Mem → Option Mem)  : Nat → Nat → Int32 → Int32 → Mem → Option (Mem)
  | 0, _, _, _, _ => none
  | n + 1, v0, v1, v2, μ =>
    if v2 < (6 : Int32) then
      (fX6_isWord v0 5 μ).bind fun r2 =>
      if r2 = 0 then
        if v2 = (6 : Int32) then
          (fX6_isWord v0 5 μ).bind fun r6 =>
          if r6 = 0 then
            (fX6_readNot_47 rec) v0 v1 v2 μ
          else
            (fX6_refuse v0 (2 : Int32) μ).bind fun μ10 =>
            (fX6_readNot_47 rec) v0 v1 v2 μ10
        else
          (fX6_readNot_47 rec) v0 v1 v2 μ
      else
        (fX6_advance v0 μ).bind fun μ14 =>
        (fX6_readNot_2 rec n) v0 v1 (v2 + (1 : Int32)) μ14
    else
      if v2 = (6 : Int32) then
        (fX6_isWord v0 5 μ).bind fun r18 =>
        if r18 = 0 then
          (fX6_readNot_47 rec) v0 v1 v2 μ
        else
          (fX6_refuse v0 (2 : Int32) μ).bind fun μ22 =>
          (fX6_readNot_47 rec) v0 v1 v2 μ22
      else
        (fX6_readNot_47 rec) v0 v1 v2 μ
set_option maxHeartbeats 4000000 in
theorem tX6_readNot_2 {ω : Wd} {l : Launch} (d : Nat) {rec : Nat → Int32 → Mem → Option Mem} (hrec : HR ω l d rec) {res : Mem} : ∀ n : Nat, ∀ (v0 : Nat) (v1 : Int32) (v2 : Int32) (μ : Mem), fX6_readNot_2 rec n v0 v1 v2 μ = some res → μ.1 = NN → (kd v0).1 = 16 → J ω l mX6_readNot (d + 24) 2 [(0, .ref v0), (1, .int v1), (2, .int v2)] [] μ 0 0 (PE (.inl none) res True) := by
  intro n
  induction n with
  | zero =>
    intro v0 v1 v2 μ h hN k0
    have h9 : (none : Option (Mem)) = some res := h
    cases h9
  | succ n ih =>
    intro v0 v1 v2 μ h hN k0
    unfold fX6_readNot_2 at h
    refine J.iload_n (pc := 2) dX6_readNot_2 rfl 2 rfl ?_
    refine J.bipush (pc := 3) dX6_readNot_3 ib_6 ?_
    rcases ifc h with ⟨hc, h⟩ | ⟨hc, h⟩
    · refine J.cge (pc := 5) (tgt := 27) dX6_readNot_5 (by decide) (fun _ => ?_) (fun q => absurd hc q)
      refine J.aload_n (pc := 8) dX6_readNot_8 rfl 0 rfl ?_
      refine J.ldcS (pc := 9) (i := 5) dX6_readNot_9 rfl ?_
      obtain ⟨r2, e1, h⟩ := bnd h
      refine J.callV (Y := mX6_readNot) (Z := mX6_isWord) (pc := 11) (st := []) (k2 := 0) (n2 := 0) dX6_readNot_11 ml_RX6_181 mo_X6_isWord mv_X6_isWord rfl (tX6_isWord (d + 18) e1 hN k0 (by decide)) k0 (okN hN k0 (by decide)).1 (okN hN k0 (by decide)).2 cq_6 (by decide) rfl rfl (Nat.le_of_ble_eq_true rfl) (by decide) (by decide) (fun v ν hp => ?_) (fun i ν hp => nrm hp.1)
      obtain ⟨rfl, rfl, hN3, hb4⟩ := QEl hp
      show J _ _ _ _ 14 _ ([.int r2]) _ _ _ _
      rcases ifc h with ⟨hc, h⟩ | ⟨hc, h⟩
      · refine J.zeq (pc := 14) (tgt := 27) dX6_readNot_14 (by decide) (fun _ => ?_) (fun q => absurd hc q)
        refine J.iload_n (pc := 27) dX6_readNot_27 rfl 2 rfl ?_
        refine J.bipush (pc := 28) dX6_readNot_28 ib_6 ?_
        rcases ifc h with ⟨hc, h⟩ | ⟨hc, h⟩
        · refine J.cne (pc := 30) (tgt := 47) dX6_readNot_30 (by decide) (fun _ => ?_) (fun q => absurd hc q)
          refine J.aload_n (pc := 33) dX6_readNot_33 rfl 0 rfl ?_
          refine J.ldcS (pc := 34) (i := 5) dX6_readNot_34 rfl ?_
          obtain ⟨r6, e5, h⟩ := bnd h
          refine J.callV (Y := mX6_readNot) (Z := mX6_isWord) (pc := 36) (st := []) (k2 := 0) (n2 := 0) dX6_readNot_36 ml_RX6_181 mo_X6_isWord mv_X6_isWord rfl (tX6_isWord (d + 18) e5 hN3 k0 (by decide)) k0 (okN hN3 k0 (by decide)).1 (okN hN3 k0 (by decide)).2 cq_6 (by decide) rfl rfl (Nat.le_of_ble_eq_true rfl) (by decide) (by decide) (fun v ν hp => ?_) (fun i ν hp => nrm hp.1)
          obtain ⟨rfl, rfl, hN7, hb8⟩ := QEl hp
          show J _ _ _ _ 39 _ ([.int r6]) _ _ _ _
          rcases ifc h with ⟨hc, h⟩ | ⟨hc, h⟩
          · refine J.zeq (pc := 39) (tgt := 47) dX6_readNot_39 (by decide) (fun _ => ?_) (fun q => absurd hc q)
            exact (tX6_readNot_47 d hrec) v0 v1 v2 μ h hN7 k0
          · refine J.zeq (pc := 39) (tgt := 47) dX6_readNot_39 (by decide) (fun q => absurd q hc) (fun _ => ?_)
            refine J.aload_n (pc := 42) dX6_readNot_42 rfl 0 rfl ?_
            refine J.iconst (pc := 43) dX6_readNot_43 ic_2 ?_
            obtain ⟨μ10, e9, h⟩ := bnd h
            refine J.callV (Y := mX6_readNot) (Z := mX6_refuse) (pc := 44) (st := []) (k2 := 0) (n2 := 0) dX6_readNot_44 ml_RX6_109 mo_X6_refuse mv_X6_refuse rfl (tX6_refuse (d + 23) e9 hN7 k0) k0 (okN hN7 k0 (by decide)).1 (okN hN7 k0 (by decide)).2 cq_6 (by decide) rfl rfl (Nat.le_of_ble_eq_true rfl) (by decide) (by decide) (fun v ν hp => ?_) (fun i ν hp => nrm hp.1)
            obtain ⟨rfl, rfl, hN11, hb12⟩ := QEl hp
            show J _ _ _ _ 47 _ ([]) _ _ _ _
            exact (tX6_readNot_47 d hrec) v0 v1 v2 μ10 h hN11 k0
        · refine J.cne (pc := 30) (tgt := 47) dX6_readNot_30 (by decide) (fun q => absurd q hc) (fun _ => ?_)
          exact (tX6_readNot_47 d hrec) v0 v1 v2 μ h hN3 k0
      · refine J.zeq (pc := 14) (tgt := 27) dX6_readNot_14 (by decide) (fun q => absurd q hc) (fun _ => ?_)
        refine J.iinc (pc := 17) (j := 2) ([(2, .int (v2 + (1 : Int32))), (0, .ref v0), (1, .int v1)]) dX6_readNot_17 rfl (iincv ic_1) (Nat.le_of_ble_eq_true rfl) rfl ?_
        refine J.aload_n (pc := 20) dX6_readNot_20 rfl 1 rfl ?_
        obtain ⟨μ14, e13, h⟩ := bnd h
        refine J.callV (Y := mX6_readNot) (Z := mX6_advance) (pc := 21) (st := []) (k2 := 0) (n2 := 0) dX6_readNot_21 ml_RX6_65 mo_X6_advance mv_X6_advance rfl (tX6_advance (d + 18) e13 hN3 k0) k0 (okN hN3 k0 (by decide)).1 (okN hN3 k0 (by decide)).2 cq_6 (by decide) rfl rfl (Nat.le_of_ble_eq_true rfl) (by decide) (by decide) (fun v ν hp => ?_) (fun i ν hp => nrm hp.1)
        obtain ⟨rfl, rfl, hN15, hb16⟩ := QEl hp
        show J _ _ _ _ 24 _ ([]) _ _ _ _
        refine J.goto (pc := 24) (tgt := 2) dX6_readNot_24 (by decide) ?_
        refine J.pick [1, 2, 0] rfl ?_
        exact ih v0 v1 (v2 + (1 : Int32)) μ14 h hN15 k0
    · refine J.cge (pc := 5) (tgt := 27) dX6_readNot_5 (by decide) (fun q => absurd q hc) (fun _ => ?_)
      refine J.iload_n (pc := 27) dX6_readNot_27 rfl 2 rfl ?_
      refine J.bipush (pc := 28) dX6_readNot_28 ib_6 ?_
      rcases ifc h with ⟨hc, h⟩ | ⟨hc, h⟩
      · refine J.cne (pc := 30) (tgt := 47) dX6_readNot_30 (by decide) (fun _ => ?_) (fun q => absurd hc q)
        refine J.aload_n (pc := 33) dX6_readNot_33 rfl 0 rfl ?_
        refine J.ldcS (pc := 34) (i := 5) dX6_readNot_34 rfl ?_
        obtain ⟨r18, e17, h⟩ := bnd h
        refine J.callV (Y := mX6_readNot) (Z := mX6_isWord) (pc := 36) (st := []) (k2 := 0) (n2 := 0) dX6_readNot_36 ml_RX6_181 mo_X6_isWord mv_X6_isWord rfl (tX6_isWord (d + 18) e17 hN k0 (by decide)) k0 (okN hN k0 (by decide)).1 (okN hN k0 (by decide)).2 cq_6 (by decide) rfl rfl (Nat.le_of_ble_eq_true rfl) (by decide) (by decide) (fun v ν hp => ?_) (fun i ν hp => nrm hp.1)
        obtain ⟨rfl, rfl, hN19, hb20⟩ := QEl hp
        show J _ _ _ _ 39 _ ([.int r18]) _ _ _ _
        rcases ifc h with ⟨hc, h⟩ | ⟨hc, h⟩
        · refine J.zeq (pc := 39) (tgt := 47) dX6_readNot_39 (by decide) (fun _ => ?_) (fun q => absurd hc q)
          exact (tX6_readNot_47 d hrec) v0 v1 v2 μ h hN19 k0
        · refine J.zeq (pc := 39) (tgt := 47) dX6_readNot_39 (by decide) (fun q => absurd q hc) (fun _ => ?_)
          refine J.aload_n (pc := 42) dX6_readNot_42 rfl 0 rfl ?_
          refine J.iconst (pc := 43) dX6_readNot_43 ic_2 ?_
          obtain ⟨μ22, e21, h⟩ := bnd h
          refine J.callV (Y := mX6_readNot) (Z := mX6_refuse) (pc := 44) (st := []) (k2 := 0) (n2 := 0) dX6_readNot_44 ml_RX6_109 mo_X6_refuse mv_X6_refuse rfl (tX6_refuse (d + 23) e21 hN19 k0) k0 (okN hN19 k0 (by decide)).1 (okN hN19 k0 (by decide)).2 cq_6 (by decide) rfl rfl (Nat.le_of_ble_eq_true rfl) (by decide) (by decide) (fun v ν hp => ?_) (fun i ν hp => nrm hp.1)
          obtain ⟨rfl, rfl, hN23, hb24⟩ := QEl hp
          show J _ _ _ _ 47 _ ([]) _ _ _ _
          exact (tX6_readNot_47 d hrec) v0 v1 v2 μ22 h hN23 k0
      · refine J.cne (pc := 30) (tgt := 47) dX6_readNot_30 (by decide) (fun q => absurd q hc) (fun _ => ?_)
        exact (tX6_readNot_47 d hrec) v0 v1 v2 μ h hN k0
def fX6_readNot (rec : Nat → Int32 → Mem → Option Mem) (v0 : Nat) (v1 : Int32) (μ : Mem) : Option (Mem) :=
  (fX6_readNot_2 rec fuel) v0 v1 (0 : Int32) μ
set_option maxHeartbeats 4000000 in
theorem tX6_readNot {ω : Wd} {l : Launch} {d : Nat} {rec : Nat → Int32 → Mem → Option Mem} (hrec : HR ω l d rec) {v0 : Nat} {v1 : Int32} {μ : Mem} {res : Mem} (h : fX6_readNot rec v0 v1 μ = some res) (hN : μ.1 = NN) (k0 : (kd v0).1 = 16) : Ct ω l mX6_readNot (d + 24) [.ref v0, .int v1] μ 0 0 (PE (.inl none) res True) := by
  refine Ct.of pn_RX6 (Nat.le_of_ble_eq_true rfl) ?_
  show J ω l mX6_readNot (d + 24) 0 [(0, .ref v0), (1, .int v1)] [] μ 0 0 _
  unfold fX6_readNot at h
  refine J.iconst (pc := 0) dX6_readNot_0 ic_0 ?_
  refine J.istore_n (pc := 1) ([(2, .int (0 : Int32)), (0, .ref v0), (1, .int v1)]) dX6_readNot_1 rfl (Nat.le_of_ble_eq_true rfl) rfl ?_
  refine J.pick [1, 2, 0] rfl ?_
  exact (tX6_readNot_2 d hrec fuel) v0 v1 (0 : Int32) μ h hN k0
def fX6_readAnd_7 (rec : Nat → Int32 → Mem → Option Mem)  : Nat → Nat → Int32 → Int32 → Mem → Option (Mem)
  | 0, _, _, _, _ => none
  | n + 1, v0, v1, v2, μ =>
    if v2 < (700 : Int32) then
      if (μ.2.1 v0 0) = 0 then
        (fX6_isWord v0 6 μ).bind fun r2 =>
        if r2 = 0 then
          some μ
        else
          (fX6_advance v0 μ).bind fun μ6 =>
          (fX6_readNot rec v0 v1 μ6).bind fun μ10 =>
          (gR μ10 v0 9 17).bind fun a13 =>
          (fX7_add a13 (-12 : Int32) μ10).bind fun μ17 =>
          (fX6_readAnd_7 rec n) v0 v1 (v2 + (1 : Int32)) μ17
      else
        some μ
    else
      some μ
set_option maxHeartbeats 4000000 in
theorem tX6_readAnd_7 {ω : Wd} {l : Launch} (d : Nat) {rec : Nat → Int32 → Mem → Option Mem} (hrec : HR ω l d rec) {res : Mem} : ∀ n : Nat, ∀ (v0 : Nat) (v1 : Int32) (v2 : Int32) (μ : Mem), fX6_readAnd_7 rec n v0 v1 v2 μ = some res → μ.1 = NN → (kd v0).1 = 16 → J ω l mX6_readAnd (d + 25) 7 [(0, .ref v0), (1, .int v1), (2, .int v2)] [] μ 0 0 (PE (.inl none) res True) := by
  intro n
  induction n with
  | zero =>
    intro v0 v1 v2 μ h hN k0
    have h9 : (none : Option (Mem)) = some res := h
    cases h9
  | succ n ih =>
    intro v0 v1 v2 μ h hN k0
    unfold fX6_readAnd_7 at h
    refine J.iload_n (pc := 7) dX6_readAnd_7 rfl 2 rfl ?_
    refine J.sipush (pc := 8) dX6_readAnd_8 is_700 ?_
    rcases ifc h with ⟨hc, h⟩ | ⟨hc, h⟩
    · refine J.cge (pc := 11) (tgt := 54) dX6_readAnd_11 (by decide) (fun _ => ?_) (fun q => absurd hc q)
      refine J.aload_n (pc := 14) dX6_readAnd_14 rfl 0 rfl ?_
      refine J.fI (pc := 15) dX6_readAnd_15 fl_RX6_9 k0 (okN hN k0 (by decide)) (Or.inl rfl) ?_
      rcases ifc h with ⟨hc, h⟩ | ⟨hc, h⟩
      · refine J.zne (pc := 18) (tgt := 54) dX6_readAnd_18 (by decide) (fun _ => ?_) (fun q => absurd hc q)
        refine J.aload_n (pc := 21) dX6_readAnd_21 rfl 0 rfl ?_
        refine J.ldcS (pc := 22) (i := 6) dX6_readAnd_22 rfl ?_
        obtain ⟨r2, e1, h⟩ := bnd h
        refine J.callV (Y := mX6_readAnd) (Z := mX6_isWord) (pc := 24) (st := []) (k2 := 0) (n2 := 0) dX6_readAnd_24 ml_RX6_181 mo_X6_isWord mv_X6_isWord rfl (tX6_isWord (d + 19) e1 hN k0 (by decide)) k0 (okN hN k0 (by decide)).1 (okN hN k0 (by decide)).2 cq_6 (by decide) rfl rfl (Nat.le_of_ble_eq_true rfl) (by decide) (by decide) (fun v ν hp => ?_) (fun i ν hp => nrm hp.1)
        obtain ⟨rfl, rfl, hN3, hb4⟩ := QEl hp
        show J _ _ _ _ 27 _ ([.int r2]) _ _ _ _
        rcases ifc h with ⟨hc, h⟩ | ⟨hc, h⟩
        · refine J.zeq (pc := 27) (tgt := 54) dX6_readAnd_27 (by decide) (fun _ => ?_) (fun q => absurd hc q)
          cases h
          exact J.vret (pc := 54) dX6_readAnd_54 rfl ⟨rfl, rfl, hN3, trivial⟩
        · refine J.zeq (pc := 27) (tgt := 54) dX6_readAnd_27 (by decide) (fun q => absurd q hc) (fun _ => ?_)
          refine J.aload_n (pc := 30) dX6_readAnd_30 rfl 0 rfl ?_
          obtain ⟨μ6, e5, h⟩ := bnd h
          refine J.callV (Y := mX6_readAnd) (Z := mX6_advance) (pc := 31) (st := []) (k2 := 0) (n2 := 0) dX6_readAnd_31 ml_RX6_65 mo_X6_advance mv_X6_advance rfl (tX6_advance (d + 19) e5 hN3 k0) k0 (okN hN3 k0 (by decide)).1 (okN hN3 k0 (by decide)).2 cq_6 (by decide) rfl rfl (Nat.le_of_ble_eq_true rfl) (by decide) (by decide) (fun v ν hp => ?_) (fun i ν hp => nrm hp.1)
          obtain ⟨rfl, rfl, hN7, hb8⟩ := QEl hp
          show J _ _ _ _ 34 _ ([]) _ _ _ _
          refine J.aload_n (pc := 34) dX6_readAnd_34 rfl 0 rfl ?_
          refine J.iload_n (pc := 35) dX6_readAnd_35 rfl 1 rfl ?_
          obtain ⟨μ10, e9, h⟩ := bnd h
          refine J.callV (Y := mX6_readAnd) (Z := mX6_readNot) (pc := 36) (st := []) (k2 := 0) (n2 := 0) dX6_readAnd_36 ml_RX6_205 mo_X6_readNot mv_X6_readNot rfl (tX6_readNot hrec e9 hN7 k0) k0 (okN hN7 k0 (by decide)).1 (okN hN7 k0 (by decide)).2 cq_6 (by decide) rfl rfl (Nat.le_of_ble_eq_true rfl) (by decide) (by decide) (fun v ν hp => ?_) (fun i ν hp => nrm hp.1)
          obtain ⟨rfl, rfl, hN11, hb12⟩ := QEl hp
          show J _ _ _ _ 39 _ ([]) _ _ _ _
          refine J.aload_n (pc := 39) dX6_readAnd_39 rfl 0 rfl ?_
          obtain ⟨a13, e14, h⟩ := bnd h
          have k15 : (kd a13).1 = 17 := gR_k e14
          refine J.fR (pc := 40) dX6_readAnd_40 fl_RX6_53 k0 (okN hN11 k0 (by decide)) rfl e14 ?_
          refine J.bipush (pc := 43) dX6_readAnd_43 ib_m12 ?_
          obtain ⟨μ17, e16, h⟩ := bnd h
          refine J.callV (Y := mX6_readAnd) (Z := mX7_add) (pc := 45) (st := []) (k2 := 0) (n2 := 0) dX6_readAnd_45 ml_RX6_202 mo_X7_add mv_X7_add rfl (tX7_add (d + 24) e16 hN11 k15) k15 (okN hN11 k15 (by decide)).1 (okN hN11 k15 (by decide)).2 cq_7 (by decide) rfl rfl (Nat.le_of_ble_eq_true rfl) (by decide) (by decide) (fun v ν hp => ?_) (fun i ν hp => nrm hp.1)
          obtain ⟨rfl, rfl, hN18, hb19⟩ := QEl hp
          show J _ _ _ _ 48 _ ([]) _ _ _ _
          refine J.iinc (pc := 48) (j := 2) ([(2, .int (v2 + (1 : Int32))), (0, .ref v0), (1, .int v1)]) dX6_readAnd_48 rfl (iincv ic_1) (Nat.le_of_ble_eq_true rfl) rfl ?_
          refine J.goto (pc := 51) (tgt := 7) dX6_readAnd_51 (by decide) ?_
          refine J.pick [1, 2, 0] rfl ?_
          exact ih v0 v1 (v2 + (1 : Int32)) μ17 h hN18 k0
      · refine J.zne (pc := 18) (tgt := 54) dX6_readAnd_18 (by decide) (fun q => absurd q hc) (fun _ => ?_)
        cases h
        exact J.vret (pc := 54) dX6_readAnd_54 rfl ⟨rfl, rfl, hN, trivial⟩
    · refine J.cge (pc := 11) (tgt := 54) dX6_readAnd_11 (by decide) (fun q => absurd q hc) (fun _ => ?_)
      cases h
      exact J.vret (pc := 54) dX6_readAnd_54 rfl ⟨rfl, rfl, hN, trivial⟩
def fX6_readAnd (rec : Nat → Int32 → Mem → Option Mem) (v0 : Nat) (v1 : Int32) (μ : Mem) : Option (Mem) :=
  (fX6_readNot rec v0 v1 μ).bind fun μ2 =>
  (fX6_readAnd_7 rec fuel) v0 v1 (0 : Int32) μ2
set_option maxHeartbeats 4000000 in
theorem tX6_readAnd {ω : Wd} {l : Launch} {d : Nat} {rec : Nat → Int32 → Mem → Option Mem} (hrec : HR ω l d rec) {v0 : Nat} {v1 : Int32} {μ : Mem} {res : Mem} (h : fX6_readAnd rec v0 v1 μ = some res) (hN : μ.1 = NN) (k0 : (kd v0).1 = 16) : Ct ω l mX6_readAnd (d + 25) [.ref v0, .int v1] μ 0 0 (PE (.inl none) res True) := by
  refine Ct.of pn_RX6 (Nat.le_of_ble_eq_true rfl) ?_
  show J ω l mX6_readAnd (d + 25) 0 [(0, .ref v0), (1, .int v1)] [] μ 0 0 _
  unfold fX6_readAnd at h
  refine J.aload_n (pc := 0) dX6_readAnd_0 rfl 0 rfl ?_
  refine J.iload_n (pc := 1) dX6_readAnd_1 rfl 1 rfl ?_
  obtain ⟨μ2, e1, h⟩ := bnd h
  refine J.callV (Y := mX6_readAnd) (Z := mX6_readNot) (pc := 2) (st := []) (k2 := 0) (n2 := 0) dX6_readAnd_2 ml_RX6_205 mo_X6_readNot mv_X6_readNot rfl (tX6_readNot hrec e1 hN k0) k0 (okN hN k0 (by decide)).1 (okN hN k0 (by decide)).2 cq_6 (by decide) rfl rfl (Nat.le_of_ble_eq_true rfl) (by decide) (by decide) (fun v ν hp => ?_) (fun i ν hp => nrm hp.1)
  obtain ⟨rfl, rfl, hN3, hb4⟩ := QEl hp
  show J _ _ _ _ 5 _ ([]) _ _ _ _
  refine J.iconst (pc := 5) dX6_readAnd_5 ic_0 ?_
  refine J.istore_n (pc := 6) ([(2, .int (0 : Int32)), (0, .ref v0), (1, .int v1)]) dX6_readAnd_6 rfl (Nat.le_of_ble_eq_true rfl) rfl ?_
  refine J.pick [1, 2, 0] rfl ?_
  exact (tX6_readAnd_7 d hrec fuel) v0 v1 (0 : Int32) μ2 h hN3 k0
def fX6_readExpr_62 (rec : Nat → Int32 → Mem → Option Mem)  : Nat → Nat → Int32 → Int32 → Mem → Option (Mem)
  | 0, _, _, _, _ => none
  | n + 1, v0, v1, v2, μ =>
    if v2 < (700 : Int32) then
      if (μ.2.1 v0 0) = 0 then
        (fX6_isWord v0 7 μ).bind fun r2 =>
        if r2 = 0 then
          some μ
        else
          (fX6_advance v0 μ).bind fun μ6 =>
          (fX6_readAnd rec v0 v1 μ6).bind fun μ10 =>
          (gR μ10 v0 9 17).bind fun a13 =>
          (fX7_add a13 (-11 : Int32) μ10).bind fun μ17 =>
          (fX6_readExpr_62 rec n) v0 v1 (v2 + (1 : Int32)) μ17
      else
        some μ
    else
      some μ
set_option maxHeartbeats 4000000 in
theorem tX6_readExpr_62 {ω : Wd} {l : Launch} (d : Nat) {rec : Nat → Int32 → Mem → Option Mem} (hrec : HR ω l d rec) {res : Mem} : ∀ n : Nat, ∀ (v0 : Nat) (v1 : Int32) (v2 : Int32) (μ : Mem), fX6_readExpr_62 rec n v0 v1 v2 μ = some res → μ.1 = NN → (kd v0).1 = 16 → J ω l mX6_readExpr (d + 26) 62 [(0, .ref v0), (1, .int v1), (2, .int v2)] [] μ 0 0 (PE (.inl none) res True) := by
  intro n
  induction n with
  | zero =>
    intro v0 v1 v2 μ h hN k0
    have h9 : (none : Option (Mem)) = some res := h
    cases h9
  | succ n ih =>
    intro v0 v1 v2 μ h hN k0
    unfold fX6_readExpr_62 at h
    refine J.iload_n (pc := 62) dX6_readExpr_62 rfl 2 rfl ?_
    refine J.sipush (pc := 63) dX6_readExpr_63 is_700 ?_
    rcases ifc h with ⟨hc, h⟩ | ⟨hc, h⟩
    · refine J.cge (pc := 66) (tgt := 109) dX6_readExpr_66 (by decide) (fun _ => ?_) (fun q => absurd hc q)
      refine J.aload_n (pc := 69) dX6_readExpr_69 rfl 0 rfl ?_
      refine J.fI (pc := 70) dX6_readExpr_70 fl_RX6_9 k0 (okN hN k0 (by decide)) (Or.inl rfl) ?_
      rcases ifc h with ⟨hc, h⟩ | ⟨hc, h⟩
      · refine J.zne (pc := 73) (tgt := 109) dX6_readExpr_73 (by decide) (fun _ => ?_) (fun q => absurd hc q)
        refine J.aload_n (pc := 76) dX6_readExpr_76 rfl 0 rfl ?_
        refine J.ldcS (pc := 77) (i := 7) dX6_readExpr_77 rfl ?_
        obtain ⟨r2, e1, h⟩ := bnd h
        refine J.callV (Y := mX6_readExpr) (Z := mX6_isWord) (pc := 79) (st := []) (k2 := 0) (n2 := 0) dX6_readExpr_79 ml_RX6_181 mo_X6_isWord mv_X6_isWord rfl (tX6_isWord (d + 20) e1 hN k0 (by decide)) k0 (okN hN k0 (by decide)).1 (okN hN k0 (by decide)).2 cq_6 (by decide) rfl rfl (Nat.le_of_ble_eq_true rfl) (by decide) (by decide) (fun v ν hp => ?_) (fun i ν hp => nrm hp.1)
        obtain ⟨rfl, rfl, hN3, hb4⟩ := QEl hp
        show J _ _ _ _ 82 _ ([.int r2]) _ _ _ _
        rcases ifc h with ⟨hc, h⟩ | ⟨hc, h⟩
        · refine J.zeq (pc := 82) (tgt := 109) dX6_readExpr_82 (by decide) (fun _ => ?_) (fun q => absurd hc q)
          cases h
          exact J.vret (pc := 109) dX6_readExpr_109 rfl ⟨rfl, rfl, hN3, trivial⟩
        · refine J.zeq (pc := 82) (tgt := 109) dX6_readExpr_82 (by decide) (fun q => absurd q hc) (fun _ => ?_)
          refine J.aload_n (pc := 85) dX6_readExpr_85 rfl 0 rfl ?_
          obtain ⟨μ6, e5, h⟩ := bnd h
          refine J.callV (Y := mX6_readExpr) (Z := mX6_advance) (pc := 86) (st := []) (k2 := 0) (n2 := 0) dX6_readExpr_86 ml_RX6_65 mo_X6_advance mv_X6_advance rfl (tX6_advance (d + 20) e5 hN3 k0) k0 (okN hN3 k0 (by decide)).1 (okN hN3 k0 (by decide)).2 cq_6 (by decide) rfl rfl (Nat.le_of_ble_eq_true rfl) (by decide) (by decide) (fun v ν hp => ?_) (fun i ν hp => nrm hp.1)
          obtain ⟨rfl, rfl, hN7, hb8⟩ := QEl hp
          show J _ _ _ _ 89 _ ([]) _ _ _ _
          refine J.aload_n (pc := 89) dX6_readExpr_89 rfl 0 rfl ?_
          refine J.iload_n (pc := 90) dX6_readExpr_90 rfl 1 rfl ?_
          obtain ⟨μ10, e9, h⟩ := bnd h
          refine J.callV (Y := mX6_readExpr) (Z := mX6_readAnd) (pc := 91) (st := []) (k2 := 0) (n2 := 0) dX6_readExpr_91 ml_RX6_197 mo_X6_readAnd mv_X6_readAnd rfl (tX6_readAnd hrec e9 hN7 k0) k0 (okN hN7 k0 (by decide)).1 (okN hN7 k0 (by decide)).2 cq_6 (by decide) rfl rfl (Nat.le_of_ble_eq_true rfl) (by decide) (by decide) (fun v ν hp => ?_) (fun i ν hp => nrm hp.1)
          obtain ⟨rfl, rfl, hN11, hb12⟩ := QEl hp
          show J _ _ _ _ 94 _ ([]) _ _ _ _
          refine J.aload_n (pc := 94) dX6_readExpr_94 rfl 0 rfl ?_
          obtain ⟨a13, e14, h⟩ := bnd h
          have k15 : (kd a13).1 = 17 := gR_k e14
          refine J.fR (pc := 95) dX6_readExpr_95 fl_RX6_53 k0 (okN hN11 k0 (by decide)) rfl e14 ?_
          refine J.bipush (pc := 98) dX6_readExpr_98 ib_m11 ?_
          obtain ⟨μ17, e16, h⟩ := bnd h
          refine J.callV (Y := mX6_readExpr) (Z := mX7_add) (pc := 100) (st := []) (k2 := 0) (n2 := 0) dX6_readExpr_100 ml_RX6_202 mo_X7_add mv_X7_add rfl (tX7_add (d + 25) e16 hN11 k15) k15 (okN hN11 k15 (by decide)).1 (okN hN11 k15 (by decide)).2 cq_7 (by decide) rfl rfl (Nat.le_of_ble_eq_true rfl) (by decide) (by decide) (fun v ν hp => ?_) (fun i ν hp => nrm hp.1)
          obtain ⟨rfl, rfl, hN18, hb19⟩ := QEl hp
          show J _ _ _ _ 103 _ ([]) _ _ _ _
          refine J.iinc (pc := 103) (j := 2) ([(2, .int (v2 + (1 : Int32))), (0, .ref v0), (1, .int v1)]) dX6_readExpr_103 rfl (iincv ic_1) (Nat.le_of_ble_eq_true rfl) rfl ?_
          refine J.goto (pc := 106) (tgt := 62) dX6_readExpr_106 (by decide) ?_
          refine J.pick [1, 2, 0] rfl ?_
          exact ih v0 v1 (v2 + (1 : Int32)) μ17 h hN18 k0
      · refine J.zne (pc := 73) (tgt := 109) dX6_readExpr_73 (by decide) (fun q => absurd q hc) (fun _ => ?_)
        cases h
        exact J.vret (pc := 109) dX6_readExpr_109 rfl ⟨rfl, rfl, hN, trivial⟩
    · refine J.cge (pc := 66) (tgt := 109) dX6_readExpr_66 (by decide) (fun q => absurd q hc) (fun _ => ?_)
      cases h
      exact J.vret (pc := 109) dX6_readExpr_109 rfl ⟨rfl, rfl, hN, trivial⟩
def fX6_readExpr (rec : Nat → Int32 → Mem → Option Mem) (v0 : Nat) (v1 : Int32) (μ : Mem) : Option (Mem) :=
  if v1 < (6 : Int32) then
    (fX6_readAnd rec v0 v1 μ).bind fun μ2 =>
    (fX6_readExpr_62 rec fuel) v0 v1 (0 : Int32) μ2
  else
    if (μ.2.1 v0 6) = (257 : Int32) then
      if (1 : Int32) = 0 then
        (fX6_refuse v0 (1 : Int32) μ).bind fun μ6 =>
        some μ6
      else
        (fX6_refuse v0 (2 : Int32) μ).bind fun μ10 =>
        some μ10
    else
      if (μ.2.1 v0 6) = (256 : Int32) then
        if (1 : Int32) = 0 then
          (fX6_refuse v0 (1 : Int32) μ).bind fun μ14 =>
          some μ14
        else
          (fX6_refuse v0 (2 : Int32) μ).bind fun μ18 =>
          some μ18
      else
        if (μ.2.1 v0 6) = (40 : Int32) then
          if (1 : Int32) = 0 then
            (fX6_refuse v0 (1 : Int32) μ).bind fun μ22 =>
            some μ22
          else
            (fX6_refuse v0 (2 : Int32) μ).bind fun μ26 =>
            some μ26
        else
          if (0 : Int32) = 0 then
            (fX6_refuse v0 (1 : Int32) μ).bind fun μ30 =>
            some μ30
          else
            (fX6_refuse v0 (2 : Int32) μ).bind fun μ34 =>
            some μ34
set_option maxHeartbeats 4000000 in
theorem tX6_readExpr {ω : Wd} {l : Launch} {d : Nat} {rec : Nat → Int32 → Mem → Option Mem} (hrec : HR ω l d rec) {v0 : Nat} {v1 : Int32} {μ : Mem} {res : Mem} (h : fX6_readExpr rec v0 v1 μ = some res) (hN : μ.1 = NN) (k0 : (kd v0).1 = 16) : Ct ω l mX6_readExpr (d + 26) [.ref v0, .int v1] μ 0 0 (PE (.inl none) res True) := by
  refine Ct.of pn_RX6 (Nat.le_of_ble_eq_true rfl) ?_
  show J ω l mX6_readExpr (d + 26) 0 [(0, .ref v0), (1, .int v1)] [] μ 0 0 _
  unfold fX6_readExpr at h
  refine J.iload_n (pc := 0) dX6_readExpr_0 rfl 1 rfl ?_
  refine J.bipush (pc := 1) dX6_readExpr_1 ib_6 ?_
  rcases ifc h with ⟨hc, h⟩ | ⟨hc, h⟩
  · refine J.clt (pc := 3) (tgt := 55) dX6_readExpr_3 (by decide) (fun _ => ?_) (fun q => absurd hc q)
    refine J.aload_n (pc := 55) dX6_readExpr_55 rfl 0 rfl ?_
    refine J.iload_n (pc := 56) dX6_readExpr_56 rfl 1 rfl ?_
    obtain ⟨μ2, e1, h⟩ := bnd h
    refine J.callV (Y := mX6_readExpr) (Z := mX6_readAnd) (pc := 57) (st := []) (k2 := 0) (n2 := 0) dX6_readExpr_57 ml_RX6_197 mo_X6_readAnd mv_X6_readAnd rfl (tX6_readAnd hrec e1 hN k0) k0 (okN hN k0 (by decide)).1 (okN hN k0 (by decide)).2 cq_6 (by decide) rfl rfl (Nat.le_of_ble_eq_true rfl) (by decide) (by decide) (fun v ν hp => ?_) (fun i ν hp => nrm hp.1)
    obtain ⟨rfl, rfl, hN3, hb4⟩ := QEl hp
    show J _ _ _ _ 60 _ ([]) _ _ _ _
    refine J.iconst (pc := 60) dX6_readExpr_60 ic_0 ?_
    refine J.istore_n (pc := 61) ([(2, .int (0 : Int32)), (0, .ref v0), (1, .int v1)]) dX6_readExpr_61 rfl (Nat.le_of_ble_eq_true rfl) rfl ?_
    refine J.pick [1, 2, 0] rfl ?_
    exact (tX6_readExpr_62 d hrec fuel) v0 v1 (0 : Int32) μ2 h hN3 k0
  · refine J.clt (pc := 3) (tgt := 55) dX6_readExpr_3 (by decide) (fun q => absurd q hc) (fun _ => ?_)
    refine J.aload_n (pc := 6) dX6_readExpr_6 rfl 0 rfl ?_
    refine J.fI (pc := 7) dX6_readExpr_7 fl_RX6_31 k0 (okN hN k0 (by decide)) (Or.inl rfl) ?_
    refine J.sipush (pc := 10) dX6_readExpr_10 is_257 ?_
    rcases ifc h with ⟨hc, h⟩ | ⟨hc, h⟩
    · refine J.ceq (pc := 13) (tgt := 35) dX6_readExpr_13 (by decide) (fun _ => ?_) (fun q => absurd hc q)
      refine J.iconst (pc := 35) dX6_readExpr_35 ic_1 ?_
      refine J.goto (pc := 36) (tgt := 40) dX6_readExpr_36 (by decide) ?_
      refine J.istore_n (pc := 40) ([(2, .int (1 : Int32)), (0, .ref v0), (1, .int v1)]) dX6_readExpr_40 rfl (Nat.le_of_ble_eq_true rfl) rfl ?_
      refine J.aload_n (pc := 41) dX6_readExpr_41 rfl 1 rfl ?_
      refine J.iload_n (pc := 42) dX6_readExpr_42 rfl 0 rfl ?_
      rcases ifc h with ⟨hc, h⟩ | ⟨hc, h⟩
      · refine J.zeq (pc := 43) (tgt := 50) dX6_readExpr_43 (by decide) (fun _ => ?_) (fun q => absurd hc q)
        refine J.iconst (pc := 50) dX6_readExpr_50 ic_1 ?_
        obtain ⟨μ6, e5, h⟩ := bnd h
        refine J.callV (Y := mX6_readExpr) (Z := mX6_refuse) (pc := 51) (st := []) (k2 := 0) (n2 := 0) dX6_readExpr_51 ml_RX6_109 mo_X6_refuse mv_X6_refuse rfl (tX6_refuse (d + 25) e5 hN k0) k0 (okN hN k0 (by decide)).1 (okN hN k0 (by decide)).2 cq_6 (by decide) rfl rfl (Nat.le_of_ble_eq_true rfl) (by decide) (by decide) (fun v ν hp => ?_) (fun i ν hp => nrm hp.1)
        obtain ⟨rfl, rfl, hN7, hb8⟩ := QEl hp
        show J _ _ _ _ 54 _ ([]) _ _ _ _
        cases h
        exact J.vret (pc := 54) dX6_readExpr_54 rfl ⟨rfl, rfl, hN7, trivial⟩
      · refine J.zeq (pc := 43) (tgt := 50) dX6_readExpr_43 (by decide) (fun q => absurd q hc) (fun _ => ?_)
        refine J.iconst (pc := 46) dX6_readExpr_46 ic_2 ?_
        refine J.goto (pc := 47) (tgt := 51) dX6_readExpr_47 (by decide) ?_
        obtain ⟨μ10, e9, h⟩ := bnd h
        refine J.callV (Y := mX6_readExpr) (Z := mX6_refuse) (pc := 51) (st := []) (k2 := 0) (n2 := 0) dX6_readExpr_51 ml_RX6_109 mo_X6_refuse mv_X6_refuse rfl (tX6_refuse (d + 25) e9 hN k0) k0 (okN hN k0 (by decide)).1 (okN hN k0 (by decide)).2 cq_6 (by decide) rfl rfl (Nat.le_of_ble_eq_true rfl) (by decide) (by decide) (fun v ν hp => ?_) (fun i ν hp => nrm hp.1)
        obtain ⟨rfl, rfl, hN11, hb12⟩ := QEl hp
        show J _ _ _ _ 54 _ ([]) _ _ _ _
        cases h
        exact J.vret (pc := 54) dX6_readExpr_54 rfl ⟨rfl, rfl, hN11, trivial⟩
    · refine J.ceq (pc := 13) (tgt := 35) dX6_readExpr_13 (by decide) (fun q => absurd q hc) (fun _ => ?_)
      refine J.aload_n (pc := 16) dX6_readExpr_16 rfl 0 rfl ?_
      refine J.fI (pc := 17) dX6_readExpr_17 fl_RX6_31 k0 (okN hN k0 (by decide)) (Or.inl rfl) ?_
      refine J.sipush (pc := 20) dX6_readExpr_20 is_256 ?_
      rcases ifc h with ⟨hc, h⟩ | ⟨hc, h⟩
      · refine J.ceq (pc := 23) (tgt := 35) dX6_readExpr_23 (by decide) (fun _ => ?_) (fun q => absurd hc q)
        refine J.iconst (pc := 35) dX6_readExpr_35 ic_1 ?_
        refine J.goto (pc := 36) (tgt := 40) dX6_readExpr_36 (by decide) ?_
        refine J.istore_n (pc := 40) ([(2, .int (1 : Int32)), (0, .ref v0), (1, .int v1)]) dX6_readExpr_40 rfl (Nat.le_of_ble_eq_true rfl) rfl ?_
        refine J.aload_n (pc := 41) dX6_readExpr_41 rfl 1 rfl ?_
        refine J.iload_n (pc := 42) dX6_readExpr_42 rfl 0 rfl ?_
        rcases ifc h with ⟨hc, h⟩ | ⟨hc, h⟩
        · refine J.zeq (pc := 43) (tgt := 50) dX6_readExpr_43 (by decide) (fun _ => ?_) (fun q => absurd hc q)
          refine J.iconst (pc := 50) dX6_readExpr_50 ic_1 ?_
          obtain ⟨μ14, e13, h⟩ := bnd h
          refine J.callV (Y := mX6_readExpr) (Z := mX6_refuse) (pc := 51) (st := []) (k2 := 0) (n2 := 0) dX6_readExpr_51 ml_RX6_109 mo_X6_refuse mv_X6_refuse rfl (tX6_refuse (d + 25) e13 hN k0) k0 (okN hN k0 (by decide)).1 (okN hN k0 (by decide)).2 cq_6 (by decide) rfl rfl (Nat.le_of_ble_eq_true rfl) (by decide) (by decide) (fun v ν hp => ?_) (fun i ν hp => nrm hp.1)
          obtain ⟨rfl, rfl, hN15, hb16⟩ := QEl hp
          show J _ _ _ _ 54 _ ([]) _ _ _ _
          cases h
          exact J.vret (pc := 54) dX6_readExpr_54 rfl ⟨rfl, rfl, hN15, trivial⟩
        · refine J.zeq (pc := 43) (tgt := 50) dX6_readExpr_43 (by decide) (fun q => absurd q hc) (fun _ => ?_)
          refine J.iconst (pc := 46) dX6_readExpr_46 ic_2 ?_
          refine J.goto (pc := 47) (tgt := 51) dX6_readExpr_47 (by decide) ?_
          obtain ⟨μ18, e17, h⟩ := bnd h
          refine J.callV (Y := mX6_readExpr) (Z := mX6_refuse) (pc := 51) (st := []) (k2 := 0) (n2 := 0) dX6_readExpr_51 ml_RX6_109 mo_X6_refuse mv_X6_refuse rfl (tX6_refuse (d + 25) e17 hN k0) k0 (okN hN k0 (by decide)).1 (okN hN k0 (by decide)).2 cq_6 (by decide) rfl rfl (Nat.le_of_ble_eq_true rfl) (by decide) (by decide) (fun v ν hp => ?_) (fun i ν hp => nrm hp.1)
          obtain ⟨rfl, rfl, hN19, hb20⟩ := QEl hp
          show J _ _ _ _ 54 _ ([]) _ _ _ _
          cases h
          exact J.vret (pc := 54) dX6_readExpr_54 rfl ⟨rfl, rfl, hN19, trivial⟩
      · refine J.ceq (pc := 23) (tgt := 35) dX6_readExpr_23 (by decide) (fun q => absurd q hc) (fun _ => ?_)
        refine J.aload_n (pc := 26) dX6_readExpr_26 rfl 0 rfl ?_
        refine J.fI (pc := 27) dX6_readExpr_27 fl_RX6_31 k0 (okN hN k0 (by decide)) (Or.inl rfl) ?_
        refine J.bipush (pc := 30) dX6_readExpr_30 ib_40 ?_
        rcases ifc h with ⟨hc, h⟩ | ⟨hc, h⟩
        · refine J.cne (pc := 32) (tgt := 39) dX6_readExpr_32 (by decide) (fun _ => ?_) (fun q => absurd hc q)
          refine J.iconst (pc := 35) dX6_readExpr_35 ic_1 ?_
          refine J.goto (pc := 36) (tgt := 40) dX6_readExpr_36 (by decide) ?_
          refine J.istore_n (pc := 40) ([(2, .int (1 : Int32)), (0, .ref v0), (1, .int v1)]) dX6_readExpr_40 rfl (Nat.le_of_ble_eq_true rfl) rfl ?_
          refine J.aload_n (pc := 41) dX6_readExpr_41 rfl 1 rfl ?_
          refine J.iload_n (pc := 42) dX6_readExpr_42 rfl 0 rfl ?_
          rcases ifc h with ⟨hc, h⟩ | ⟨hc, h⟩
          · refine J.zeq (pc := 43) (tgt := 50) dX6_readExpr_43 (by decide) (fun _ => ?_) (fun q => absurd hc q)
            refine J.iconst (pc := 50) dX6_readExpr_50 ic_1 ?_
            obtain ⟨μ22, e21, h⟩ := bnd h
            refine J.callV (Y := mX6_readExpr) (Z := mX6_refuse) (pc := 51) (st := []) (k2 := 0) (n2 := 0) dX6_readExpr_51 ml_RX6_109 mo_X6_refuse mv_X6_refuse rfl (tX6_refuse (d + 25) e21 hN k0) k0 (okN hN k0 (by decide)).1 (okN hN k0 (by decide)).2 cq_6 (by decide) rfl rfl (Nat.le_of_ble_eq_true rfl) (by decide) (by decide) (fun v ν hp => ?_) (fun i ν hp => nrm hp.1)
            obtain ⟨rfl, rfl, hN23, hb24⟩ := QEl hp
            show J _ _ _ _ 54 _ ([]) _ _ _ _
            cases h
            exact J.vret (pc := 54) dX6_readExpr_54 rfl ⟨rfl, rfl, hN23, trivial⟩
          · refine J.zeq (pc := 43) (tgt := 50) dX6_readExpr_43 (by decide) (fun q => absurd q hc) (fun _ => ?_)
            refine J.iconst (pc := 46) dX6_readExpr_46 ic_2 ?_
            refine J.goto (pc := 47) (tgt := 51) dX6_readExpr_47 (by decide) ?_
            obtain ⟨μ26, e25, h⟩ := bnd h
            refine J.callV (Y := mX6_readExpr) (Z := mX6_refuse) (pc := 51) (st := []) (k2 := 0) (n2 := 0) dX6_readExpr_51 ml_RX6_109 mo_X6_refuse mv_X6_refuse rfl (tX6_refuse (d + 25) e25 hN k0) k0 (okN hN k0 (by decide)).1 (okN hN k0 (by decide)).2 cq_6 (by decide) rfl rfl (Nat.le_of_ble_eq_true rfl) (by decide) (by decide) (fun v ν hp => ?_) (fun i ν hp => nrm hp.1)
            obtain ⟨rfl, rfl, hN27, hb28⟩ := QEl hp
            show J _ _ _ _ 54 _ ([]) _ _ _ _
            cases h
            exact J.vret (pc := 54) dX6_readExpr_54 rfl ⟨rfl, rfl, hN27, trivial⟩
        · refine J.cne (pc := 32) (tgt := 39) dX6_readExpr_32 (by decide) (fun q => absurd q hc) (fun _ => ?_)
          refine J.iconst (pc := 39) dX6_readExpr_39 ic_0 ?_
          refine J.istore_n (pc := 40) ([(2, .int (0 : Int32)), (0, .ref v0), (1, .int v1)]) dX6_readExpr_40 rfl (Nat.le_of_ble_eq_true rfl) rfl ?_
          refine J.aload_n (pc := 41) dX6_readExpr_41 rfl 1 rfl ?_
          refine J.iload_n (pc := 42) dX6_readExpr_42 rfl 0 rfl ?_
          rcases ifc h with ⟨hc, h⟩ | ⟨hc, h⟩
          · refine J.zeq (pc := 43) (tgt := 50) dX6_readExpr_43 (by decide) (fun _ => ?_) (fun q => absurd hc q)
            refine J.iconst (pc := 50) dX6_readExpr_50 ic_1 ?_
            obtain ⟨μ30, e29, h⟩ := bnd h
            refine J.callV (Y := mX6_readExpr) (Z := mX6_refuse) (pc := 51) (st := []) (k2 := 0) (n2 := 0) dX6_readExpr_51 ml_RX6_109 mo_X6_refuse mv_X6_refuse rfl (tX6_refuse (d + 25) e29 hN k0) k0 (okN hN k0 (by decide)).1 (okN hN k0 (by decide)).2 cq_6 (by decide) rfl rfl (Nat.le_of_ble_eq_true rfl) (by decide) (by decide) (fun v ν hp => ?_) (fun i ν hp => nrm hp.1)
            obtain ⟨rfl, rfl, hN31, hb32⟩ := QEl hp
            show J _ _ _ _ 54 _ ([]) _ _ _ _
            cases h
            exact J.vret (pc := 54) dX6_readExpr_54 rfl ⟨rfl, rfl, hN31, trivial⟩
          · refine J.zeq (pc := 43) (tgt := 50) dX6_readExpr_43 (by decide) (fun q => absurd q hc) (fun _ => ?_)
            refine J.iconst (pc := 46) dX6_readExpr_46 ic_2 ?_
            refine J.goto (pc := 47) (tgt := 51) dX6_readExpr_47 (by decide) ?_
            obtain ⟨μ34, e33, h⟩ := bnd h
            refine J.callV (Y := mX6_readExpr) (Z := mX6_refuse) (pc := 51) (st := []) (k2 := 0) (n2 := 0) dX6_readExpr_51 ml_RX6_109 mo_X6_refuse mv_X6_refuse rfl (tX6_refuse (d + 25) e33 hN k0) k0 (okN hN k0 (by decide)).1 (okN hN k0 (by decide)).2 cq_6 (by decide) rfl rfl (Nat.le_of_ble_eq_true rfl) (by decide) (by decide) (fun v ν hp => ?_) (fun i ν hp => nrm hp.1)
            obtain ⟨rfl, rfl, hN35, hb36⟩ := QEl hp
            show J _ _ _ _ 54 _ ([]) _ _ _ _
            cases h
            exact J.vret (pc := 54) dX6_readExpr_54 rfl ⟨rfl, rfl, hN35, trivial⟩
