def fX11_type (v0 : Nat) (v1 : Int32) (v2 : Int32) (μ : Mem) : Option (Int32 × Mem) :=
  (some (sI μ v0 0 (0 : Int32))).bind fun μ1 =>
  (fX11_placeOf v0 v1 μ1).bind fun (r6, μ5) =>
  if r6 = (-1 : Int32) then
    some ((0 : Int32), μ5)
  else
    (gR μ5 v0 34 0).bind fun a9 =>
    (ldI μ5 a9 ((1 : Int32) + r6)).bind fun x12 =>
    if (fX11_within v2 (0 : Int32) (9 : Int32)) = 0 then
      (fX11_refuses v0 (1 : Int32) μ5).bind fun (r19, μ18) =>
      some (r19, μ18)
    else
      (fX11_keeps v0 μ5).bind fun μ23 =>
      (gR μ23 v0 34 0).bind fun a26 =>
      (stI μ23 a26 ((1 : Int32) + r6) v2).bind fun μ29 =>
      some (x12, μ29)
set_option maxHeartbeats 4000000 in
theorem tX11_type {ω : Wd} {l : Launch} (d : Nat) {v0 : Nat} {v1 : Int32} {v2 : Int32} {μ : Mem} {res : Int32 × Mem} (h : fX11_type v0 v1 v2 μ = some res) (hN : μ.1 = NN) (k0 : (kd v0).1 = 21) : Ct ω l mX11_type (d + 2) [.ref v0, .int v1, .int v2] μ 0 0 (PE (.inl (some (.int res.1))) res.2 True) := by
  refine Ct.of pn_RX11 (Nat.le_of_ble_eq_true rfl) ?_
  show J ω l mX11_type (d + 2) 0 [(0, .ref v0), (1, .int v1), (2, .int v2)] [] μ 0 0 _
  unfold fX11_type at h
  refine J.aload_n (pc := 0) dX11_type_0 rfl 0 rfl ?_
  refine J.iconst (pc := 1) dX11_type_1 ic_0 ?_
  obtain ⟨μ1, e2, h⟩ := bnd h
  have hN3 : μ1.1 = NN := smN e2 hN
  refine J.qI (pc := 2) dX11_type_2 fl_RX11_99 k0 (okN hN k0 (by decide)) rfl rfl e2 ?_
  refine J.aload_n (pc := 5) dX11_type_5 rfl 0 rfl ?_
  refine J.iload_n (pc := 6) dX11_type_6 rfl 1 rfl ?_
  obtain ⟨⟨r6, μ5⟩, e4, h⟩ := bnd h
  try dsimp only at h
  refine J.callV (Y := mX11_type) (Z := mX11_placeOf) (pc := 7) (st := []) (k2 := 0) (n2 := 0) dX11_type_7 ml_RX11_380 mo_X11_placeOf mv_X11_placeOf rfl (tX11_placeOf d e4 hN3 k0) k0 (okN hN3 k0 (by decide)).1 (okN hN3 k0 (by decide)).2 cq_11 (by decide) rfl rfl (Nat.le_of_ble_eq_true rfl) (by decide) (by decide) (fun v ν hp => ?_) (fun i ν hp => nrm hp.1)
  obtain ⟨rfl, rfl, hN7, hb8⟩ := QEl hp
  show J _ _ _ _ 10 _ ([.int r6]) _ _ _ _
  refine J.istore_n (pc := 10) ([(3, .int r6), (0, .ref v0), (1, .int v1), (2, .int v2)]) dX11_type_10 rfl (Nat.le_of_ble_eq_true rfl) rfl ?_
  refine J.iload_n (pc := 11) dX11_type_11 rfl 0 rfl ?_
  refine J.iconst (pc := 12) dX11_type_12 ic_m1 ?_
  rcases ifc h with ⟨hc, h⟩ | ⟨hc, h⟩
  · refine J.cne (pc := 13) (tgt := 18) dX11_type_13 (by decide) (fun _ => ?_) (fun q => absurd hc q)
    refine J.iconst (pc := 16) dX11_type_16 ic_0 ?_
    cases h
    exact J.iret (pc := 17) dX11_type_17 rfl ⟨rfl, rfl, hN7, trivial⟩
  · refine J.cne (pc := 13) (tgt := 18) dX11_type_13 (by decide) (fun q => absurd q hc) (fun _ => ?_)
    refine J.aload_n (pc := 18) dX11_type_18 rfl 1 rfl ?_
    obtain ⟨a9, e10, h⟩ := bnd h
    have k11 : (kd a9).1 = 0 := gR_k e10
    refine J.fR (pc := 19) dX11_type_19 fl_RX11_48 k0 (okN hN7 k0 (by decide)) rfl e10 ?_
    refine J.iconst (pc := 22) dX11_type_22 ic_1 ?_
    refine J.iload_n (pc := 23) dX11_type_23 rfl 0 rfl ?_
    refine J.iadd (pc := 24) dX11_type_24 ?_
    obtain ⟨x12, e13, h⟩ := bnd h
    refine J.aI (pc := 25) dX11_type_25 k11 (okN hN7 k11 (by decide)) e13 ?_
    refine J.istore (pc := 26) ([(4, .int x12), (3, .int r6), (0, .ref v0), (1, .int v1), (2, .int v2)]) dX11_type_26 (Nat.le_of_ble_eq_true rfl) rfl ?_
    refine J.iload_n (pc := 28) dX11_type_28 rfl 4 rfl ?_
    refine J.iconst (pc := 29) dX11_type_29 ic_0 ?_
    refine J.bipush (pc := 30) dX11_type_30 ib_9 ?_
    refine J.callS (Y := mX11_type) (Z := mX11_within) (pc := 32) (st := []) (k2 := 0) (n2 := 0) dX11_type_32 ml_RX11_344 mo_X11_within ms_X11_within rfl (tX11_within (d + 1) v2 (0 : Int32) (9 : Int32) μ5 hN7 ) rfl rfl (Nat.le_of_ble_eq_true rfl) (by decide) (by decide) (fun v ν hp => ?_) (fun i ν hp => nrm hp.1)
    obtain ⟨rfl, rfl, hN15, hb16⟩ := QEl hp
    show J _ _ _ _ 35 _ ([.int (fX11_within v2 (0 : Int32) (9 : Int32))]) _ _ _ _
    rcases ifc h with ⟨hc, h⟩ | ⟨hc, h⟩
    · refine J.zne (pc := 35) (tgt := 44) dX11_type_35 (by decide) (fun _ => ?_) (fun q => absurd hc q)
      refine J.aload_n (pc := 38) dX11_type_38 rfl 2 rfl ?_
      refine J.iconst (pc := 39) dX11_type_39 ic_1 ?_
      obtain ⟨⟨r19, μ18⟩, e17, h⟩ := bnd h
      try dsimp only at h
      refine J.callV (Y := mX11_type) (Z := mX11_refuses) (pc := 40) (st := []) (k2 := 0) (n2 := 0) dX11_type_40 ml_RX11_383 mo_X11_refuses mv_X11_refuses rfl (tX11_refuses (d + 1) e17 hN15 k0) k0 (okN hN15 k0 (by decide)).1 (okN hN15 k0 (by decide)).2 cq_11 (by decide) rfl rfl (Nat.le_of_ble_eq_true rfl) (by decide) (by decide) (fun v ν hp => ?_) (fun i ν hp => nrm hp.1)
      obtain ⟨rfl, rfl, hN20, hb21⟩ := QEl hp
      show J _ _ _ _ 43 _ ([.int r19]) _ _ _ _
      cases h
      exact J.iret (pc := 43) dX11_type_43 rfl ⟨rfl, rfl, hN20, trivial⟩
    · refine J.zne (pc := 35) (tgt := 44) dX11_type_35 (by decide) (fun q => absurd q hc) (fun _ => ?_)
      refine J.aload_n (pc := 44) dX11_type_44 rfl 2 rfl ?_
      obtain ⟨μ23, e22, h⟩ := bnd h
      refine J.callV (Y := mX11_type) (Z := mX11_keeps) (pc := 45) (st := []) (k2 := 0) (n2 := 0) dX11_type_45 ml_RX11_386 mo_X11_keeps mv_X11_keeps rfl (tX11_keeps (d + 1) e22 hN15 k0) k0 (okN hN15 k0 (by decide)).1 (okN hN15 k0 (by decide)).2 cq_11 (by decide) rfl rfl (Nat.le_of_ble_eq_true rfl) (by decide) (by decide) (fun v ν hp => ?_) (fun i ν hp => nrm hp.1)
      obtain ⟨rfl, rfl, hN24, hb25⟩ := QEl hp
      show J _ _ _ _ 48 _ ([]) _ _ _ _
      refine J.aload_n (pc := 48) dX11_type_48 rfl 2 rfl ?_
      obtain ⟨a26, e27, h⟩ := bnd h
      have k28 : (kd a26).1 = 0 := gR_k e27
      refine J.fR (pc := 49) dX11_type_49 fl_RX11_48 k0 (okN hN24 k0 (by decide)) rfl e27 ?_
      refine J.iconst (pc := 52) dX11_type_52 ic_1 ?_
      refine J.iload_n (pc := 53) dX11_type_53 rfl 1 rfl ?_
      refine J.iadd (pc := 54) dX11_type_54 ?_
      refine J.iload_n (pc := 55) dX11_type_55 rfl 4 rfl ?_
      obtain ⟨μ29, e30, h⟩ := bnd h
      have hN31 : μ29.1 = NN := stI_N e30 hN24
      refine J.wI (pc := 56) dX11_type_56 k28 (okN hN24 k28 (by decide)) e30 ?_
      refine J.iload (pc := 57) dX11_type_57 0 rfl ?_
      cases h
      exact J.iret (pc := 59) dX11_type_59 rfl ⟨rfl, rfl, hN31, trivial⟩
def fX11_undo_26  : Nat → Nat → Int32 → Mem → Option (Int32 × Mem)
  | 0, _, _, _ => none
  | n + 1, v0, v1, μ =>
    if v1 < (79 : Int32) then
      (gR μ v0 34 0).bind fun a1 =>
      (gR μ v0 35 0).bind fun a4 =>
      (ldI μ a4 (((79 : Int32) * (μ.2.1 v0 36)) + v1)).bind fun x7 =>
      (stI μ a1 v1 x7).bind fun μ9 =>
      (fX11_undo_26 n) v0 (v1 + (1 : Int32)) μ9
    else
      some ((μ.2.1 v0 36), μ)
set_option maxHeartbeats 4000000 in
theorem tX11_undo_26 {ω : Wd} {l : Launch} (d : Nat) {res : Int32 × Mem} : ∀ n : Nat, ∀ (v0 : Nat) (v1 : Int32) (μ : Mem), fX11_undo_26 n v0 v1 μ = some res → μ.1 = NN → (kd v0).1 = 21 → J ω l mX11_undo d 26 [(0, .ref v0), (1, .int v1)] [] μ 0 0 (PE (.inl (some (.int res.1))) res.2 True) := by
  intro n
  induction n with
  | zero =>
    intro v0 v1 μ h hN k0
    have h9 : (none : Option (Int32 × Mem)) = some res := h
    cases h9
  | succ n ih =>
    intro v0 v1 μ h hN k0
    unfold fX11_undo_26 at h
    refine J.iload_n (pc := 26) dX11_undo_26 rfl 1 rfl ?_
    refine J.bipush (pc := 27) dX11_undo_27 ib_79 ?_
    rcases ifc h with ⟨hc, h⟩ | ⟨hc, h⟩
    · refine J.cge (pc := 29) (tgt := 58) dX11_undo_29 (by decide) (fun _ => ?_) (fun q => absurd hc q)
      refine J.aload_n (pc := 32) dX11_undo_32 rfl 0 rfl ?_
      obtain ⟨a1, e2, h⟩ := bnd h
      have k3 : (kd a1).1 = 0 := gR_k e2
      refine J.fR (pc := 33) dX11_undo_33 fl_RX11_48 k0 (okN hN k0 (by decide)) rfl e2 ?_
      refine J.iload_n (pc := 36) dX11_undo_36 rfl 1 rfl ?_
      refine J.aload_n (pc := 37) dX11_undo_37 rfl 0 rfl ?_
      obtain ⟨a4, e5, h⟩ := bnd h
      have k6 : (kd a4).1 = 0 := gR_k e5
      refine J.fR (pc := 38) dX11_undo_38 fl_RX11_51 k0 (okN hN k0 (by decide)) rfl e5 ?_
      refine J.bipush (pc := 41) dX11_undo_41 ib_79 ?_
      refine J.aload_n (pc := 43) dX11_undo_43 rfl 0 rfl ?_
      refine J.fI (pc := 44) dX11_undo_44 fl_RX11_283 k0 (okN hN k0 (by decide)) (Or.inl rfl) ?_
      refine J.imul (pc := 47) dX11_undo_47 ?_
      refine J.iload_n (pc := 48) dX11_undo_48 rfl 1 rfl ?_
      refine J.iadd (pc := 49) dX11_undo_49 ?_
      obtain ⟨x7, e8, h⟩ := bnd h
      refine J.aI (pc := 50) dX11_undo_50 k6 (okN hN k6 (by decide)) e8 ?_
      obtain ⟨μ9, e10, h⟩ := bnd h
      have hN11 : μ9.1 = NN := stI_N e10 hN
      refine J.wI (pc := 51) dX11_undo_51 k3 (okN hN k3 (by decide)) e10 ?_
      refine J.iinc (pc := 52) (j := 1) ([(1, .int (v1 + (1 : Int32))), (0, .ref v0)]) dX11_undo_52 rfl (iincv ic_1) (Nat.le_of_ble_eq_true rfl) rfl ?_
      refine J.goto (pc := 55) (tgt := 26) dX11_undo_55 (by decide) ?_
      refine J.pick [1, 0] rfl ?_
      exact ih v0 (v1 + (1 : Int32)) μ9 h hN11 k0
    · refine J.cge (pc := 29) (tgt := 58) dX11_undo_29 (by decide) (fun q => absurd q hc) (fun _ => ?_)
      refine J.aload_n (pc := 58) dX11_undo_58 rfl 0 rfl ?_
      refine J.fI (pc := 59) dX11_undo_59 fl_RX11_283 k0 (okN hN k0 (by decide)) (Or.inl rfl) ?_
      cases h
      exact J.iret (pc := 62) dX11_undo_62 rfl ⟨rfl, rfl, hN, trivial⟩
def fX11_undo (v0 : Nat) (μ : Mem) : Option (Int32 × Mem) :=
  (some (sI μ v0 0 (0 : Int32))).bind fun μ1 =>
  if (μ1.2.1 v0 36) = 0 then
    some ((-1 : Int32), μ1)
  else
    (some (sI μ1 v0 36 ((μ1.2.1 v0 36) - (1 : Int32)))).bind fun μ4 =>
    (fX11_undo_26 fuel) v0 (0 : Int32) μ4
set_option maxHeartbeats 4000000 in
theorem tX11_undo {ω : Wd} {l : Launch} (d : Nat) {v0 : Nat} {μ : Mem} {res : Int32 × Mem} (h : fX11_undo v0 μ = some res) (hN : μ.1 = NN) (k0 : (kd v0).1 = 21) : Ct ω l mX11_undo d [.ref v0] μ 0 0 (PE (.inl (some (.int res.1))) res.2 True) := by
  refine Ct.of pn_RX11 (Nat.le_of_ble_eq_true rfl) ?_
  show J ω l mX11_undo d 0 [(0, .ref v0)] [] μ 0 0 _
  unfold fX11_undo at h
  refine J.aload_n (pc := 0) dX11_undo_0 rfl 0 rfl ?_
  refine J.iconst (pc := 1) dX11_undo_1 ic_0 ?_
  obtain ⟨μ1, e2, h⟩ := bnd h
  have hN3 : μ1.1 = NN := smN e2 hN
  refine J.qI (pc := 2) dX11_undo_2 fl_RX11_99 k0 (okN hN k0 (by decide)) rfl rfl e2 ?_
  refine J.aload_n (pc := 5) dX11_undo_5 rfl 0 rfl ?_
  refine J.fI (pc := 6) dX11_undo_6 fl_RX11_283 k0 (okN hN3 k0 (by decide)) (Or.inl rfl) ?_
  rcases ifc h with ⟨hc, h⟩ | ⟨hc, h⟩
  · refine J.zne (pc := 9) (tgt := 14) dX11_undo_9 (by decide) (fun _ => ?_) (fun q => absurd hc q)
    refine J.iconst (pc := 12) dX11_undo_12 ic_m1 ?_
    cases h
    exact J.iret (pc := 13) dX11_undo_13 rfl ⟨rfl, rfl, hN3, trivial⟩
  · refine J.zne (pc := 9) (tgt := 14) dX11_undo_9 (by decide) (fun q => absurd q hc) (fun _ => ?_)
    refine J.aload_n (pc := 14) dX11_undo_14 rfl 0 rfl ?_
    refine J.dup (pc := 15) dX11_undo_15 rfl ?_
    refine J.fI (pc := 16) dX11_undo_16 fl_RX11_283 k0 (okN hN3 k0 (by decide)) (Or.inl rfl) ?_
    refine J.iconst (pc := 19) dX11_undo_19 ic_1 ?_
    refine J.isub (pc := 20) dX11_undo_20 ?_
    obtain ⟨μ4, e5, h⟩ := bnd h
    have hN6 : μ4.1 = NN := smN e5 hN3
    refine J.qI (pc := 21) dX11_undo_21 fl_RX11_283 k0 (okN hN3 k0 (by decide)) rfl rfl e5 ?_
    refine J.iconst (pc := 24) dX11_undo_24 ic_0 ?_
    refine J.istore_n (pc := 25) ([(1, .int (0 : Int32)), (0, .ref v0)]) dX11_undo_25 rfl (Nat.le_of_ble_eq_true rfl) rfl ?_
    refine J.pick [1, 0] rfl ?_
    exact (tX11_undo_26 d fuel) v0 (0 : Int32) μ4 h hN6 k0
def fX11_way (v0 : Nat) (v1 : Int32) (v2 : Int32) (v3 : Int32) (μ : Mem) : Option (Int32 × Mem) :=
  (some (sI μ v0 0 (0 : Int32))).bind fun μ1 =>
  (fX11_placeOf v0 v1 μ1).bind fun (r6, μ5) =>
  if r6 = (-1 : Int32) then
    if (-1 : Int32) = (-1 : Int32) then
      some ((0 : Int32), μ5)
    else
      (fX11_isWhat v0 v3 (3 : Int32) μ5).bind fun (r11, μ10) =>
      if r11 = 0 then
        some ((0 : Int32), μ10)
      else
        if v3 = (2 : Int32) then
          (fX11_toClear v0 r6 (-1 : Int32) μ10).bind fun (r16, μ15) =>
          some ((fX11_orNone r16), μ15)
        else
          if v3 = (3 : Int32) then
            (fX11_needed v0 r6 (-1 : Int32) μ10).bind fun (r24, μ23) =>
            some (r24, μ23)
          else
            (fX11_howFar v0 r6 (-1 : Int32) μ10).bind fun (r29, μ28) =>
            if v3 = 0 then
              some ((fX11_orNone r29), μ28)
            else
              if r29 = 0 then
                some ((-1 : Int32), μ28)
              else
                if r29 < (9999 : Int32) then
                  (fX11_stepFrom v0 (0 : Int32) r6 μ28).bind fun r36 =>
                  some ((fX11_toldAs r36), μ28)
                else
                  some ((-1 : Int32), μ28)
  else
    (fX11_placeOf v0 v2 μ5).bind fun (r44, μ43) =>
    if r44 = (-1 : Int32) then
      some ((0 : Int32), μ43)
    else
      (fX11_isWhat v0 v3 (3 : Int32) μ43).bind fun (r49, μ48) =>
      if r49 = 0 then
        some ((0 : Int32), μ48)
      else
        if v3 = (2 : Int32) then
          (fX11_toClear v0 r6 r44 μ48).bind fun (r54, μ53) =>
          some ((fX11_orNone r54), μ53)
        else
          if v3 = (3 : Int32) then
            (fX11_needed v0 r6 r44 μ48).bind fun (r62, μ61) =>
            some (r62, μ61)
          else
            (fX11_howFar v0 r6 r44 μ48).bind fun (r67, μ66) =>
            if v3 = 0 then
              some ((fX11_orNone r67), μ66)
            else
              if r67 = 0 then
                some ((-1 : Int32), μ66)
              else
                if r67 < (9999 : Int32) then
                  (fX11_stepFrom v0 (0 : Int32) r6 μ66).bind fun r74 =>
                  some ((fX11_toldAs r74), μ66)
                else
                  some ((-1 : Int32), μ66)
set_option maxHeartbeats 4000000 in
theorem tX11_way {ω : Wd} {l : Launch} (d : Nat) {v0 : Nat} {v1 : Int32} {v2 : Int32} {v3 : Int32} {μ : Mem} {res : Int32 × Mem} (h : fX11_way v0 v1 v2 v3 μ = some res) (hN : μ.1 = NN) (k0 : (kd v0).1 = 21) : Ct ω l mX11_way (d + 4) [.ref v0, .int v1, .int v2, .int v3] μ 0 0 (PE (.inl (some (.int res.1))) res.2 True) := by
  refine Ct.of pn_RX11 (Nat.le_of_ble_eq_true rfl) ?_
  show J ω l mX11_way (d + 4) 0 [(0, .ref v0), (1, .int v1), (2, .int v2), (3, .int v3)] [] μ 0 0 _
  unfold fX11_way at h
  refine J.aload_n (pc := 0) dX11_way_0 rfl 0 rfl ?_
  refine J.iconst (pc := 1) dX11_way_1 ic_0 ?_
  obtain ⟨μ1, e2, h⟩ := bnd h
  have hN3 : μ1.1 = NN := smN e2 hN
  refine J.qI (pc := 2) dX11_way_2 fl_RX11_99 k0 (okN hN k0 (by decide)) rfl rfl e2 ?_
  refine J.aload_n (pc := 5) dX11_way_5 rfl 0 rfl ?_
  refine J.iload_n (pc := 6) dX11_way_6 rfl 1 rfl ?_
  obtain ⟨⟨r6, μ5⟩, e4, h⟩ := bnd h
  try dsimp only at h
  refine J.callV (Y := mX11_way) (Z := mX11_placeOf) (pc := 7) (st := []) (k2 := 0) (n2 := 0) dX11_way_7 ml_RX11_380 mo_X11_placeOf mv_X11_placeOf rfl (tX11_placeOf (d + 2) e4 hN3 k0) k0 (okN hN3 k0 (by decide)).1 (okN hN3 k0 (by decide)).2 cq_11 (by decide) rfl rfl (Nat.le_of_ble_eq_true rfl) (by decide) (by decide) (fun v ν hp => ?_) (fun i ν hp => nrm hp.1)
  obtain ⟨rfl, rfl, hN7, hb8⟩ := QEl hp
  show J _ _ _ _ 10 _ ([.int r6]) _ _ _ _
  refine J.istore (pc := 10) ([(4, .int r6), (0, .ref v0), (1, .int v1), (2, .int v2), (3, .int v3)]) dX11_way_10 (Nat.le_of_ble_eq_true rfl) rfl ?_
  refine J.iload (pc := 12) dX11_way_12 0 rfl ?_
  refine J.iconst (pc := 14) dX11_way_14 ic_m1 ?_
  rcases ifc h with ⟨hc, h⟩ | ⟨hc, h⟩
  · refine J.cne (pc := 15) (tgt := 22) dX11_way_15 (by decide) (fun _ => ?_) (fun q => absurd hc q)
    refine J.iconst (pc := 18) dX11_way_18 ic_m1 ?_
    refine J.goto (pc := 19) (tgt := 27) dX11_way_19 (by decide) ?_
    refine J.istore (pc := 27) ([(5, .int (-1 : Int32)), (4, .int r6), (0, .ref v0), (1, .int v1), (2, .int v2), (3, .int v3)]) dX11_way_27 (Nat.le_of_ble_eq_true rfl) rfl ?_
    refine J.iload (pc := 29) dX11_way_29 0 rfl ?_
    refine J.iconst (pc := 31) dX11_way_31 ic_m1 ?_
    rcases ifc h with ⟨hc, h⟩ | ⟨hc, h⟩
    · refine J.ceq (pc := 32) (tgt := 44) dX11_way_32 (by decide) (fun _ => ?_) (fun q => absurd hc q)
      refine J.iconst (pc := 44) dX11_way_44 ic_0 ?_
      cases h
      exact J.iret (pc := 45) dX11_way_45 rfl ⟨rfl, rfl, hN7, trivial⟩
    · refine J.ceq (pc := 32) (tgt := 44) dX11_way_32 (by decide) (fun q => absurd q hc) (fun _ => ?_)
      refine J.aload_n (pc := 35) dX11_way_35 rfl 2 rfl ?_
      refine J.iload_n (pc := 36) dX11_way_36 rfl 5 rfl ?_
      refine J.iconst (pc := 37) dX11_way_37 ic_3 ?_
      obtain ⟨⟨r11, μ10⟩, e9, h⟩ := bnd h
      try dsimp only at h
      refine J.callV (Y := mX11_way) (Z := mX11_isWhat) (pc := 38) (st := []) (k2 := 0) (n2 := 0) dX11_way_38 ml_RX11_365 mo_X11_isWhat mv_X11_isWhat rfl (tX11_isWhat (d + 2) e9 hN7 k0) k0 (okN hN7 k0 (by decide)).1 (okN hN7 k0 (by decide)).2 cq_11 (by decide) rfl rfl (Nat.le_of_ble_eq_true rfl) (by decide) (by decide) (fun v ν hp => ?_) (fun i ν hp => nrm hp.1)
      obtain ⟨rfl, rfl, hN12, hb13⟩ := QEl hp
      show J _ _ _ _ 41 _ ([.int r11]) _ _ _ _
      rcases ifc h with ⟨hc, h⟩ | ⟨hc, h⟩
      · refine J.zne (pc := 41) (tgt := 46) dX11_way_41 (by decide) (fun _ => ?_) (fun q => absurd hc q)
        refine J.iconst (pc := 44) dX11_way_44 ic_0 ?_
        cases h
        exact J.iret (pc := 45) dX11_way_45 rfl ⟨rfl, rfl, hN12, trivial⟩
      · refine J.zne (pc := 41) (tgt := 46) dX11_way_41 (by decide) (fun q => absurd q hc) (fun _ => ?_)
        refine J.iload_n (pc := 46) dX11_way_46 rfl 5 rfl ?_
        refine J.iconst (pc := 47) dX11_way_47 ic_2 ?_
        rcases ifc h with ⟨hc, h⟩ | ⟨hc, h⟩
        · refine J.cne (pc := 48) (tgt := 63) dX11_way_48 (by decide) (fun _ => ?_) (fun q => absurd hc q)
          refine J.aload_n (pc := 51) dX11_way_51 rfl 2 rfl ?_
          refine J.iload (pc := 52) dX11_way_52 1 rfl ?_
          refine J.iload (pc := 54) dX11_way_54 0 rfl ?_
          obtain ⟨⟨r16, μ15⟩, e14, h⟩ := bnd h
          try dsimp only at h
          refine J.callV (Y := mX11_way) (Z := mX11_toClear) (pc := 56) (st := []) (k2 := 0) (n2 := 0) dX11_way_56 ml_RX11_404 mo_X11_toClear mv_X11_toClear rfl (tX11_toClear (d + 2) e14 hN12 k0) k0 (okN hN12 k0 (by decide)).1 (okN hN12 k0 (by decide)).2 cq_11 (by decide) rfl rfl (Nat.le_of_ble_eq_true rfl) (by decide) (by decide) (fun v ν hp => ?_) (fun i ν hp => nrm hp.1)
          obtain ⟨rfl, rfl, hN17, hb18⟩ := QEl hp
          show J _ _ _ _ 59 _ ([.int r16]) _ _ _ _
          refine J.callS (Y := mX11_way) (Z := mX11_orNone) (pc := 59) (st := []) (k2 := 0) (n2 := 0) dX11_way_59 ml_RX11_377 mo_X11_orNone ms_X11_orNone rfl (tX11_orNone (d + 3) r16 μ15 hN17 ) rfl rfl (Nat.le_of_ble_eq_true rfl) (by decide) (by decide) (fun v ν hp => ?_) (fun i ν hp => nrm hp.1)
          obtain ⟨rfl, rfl, hN20, hb21⟩ := QEl hp
          show J _ _ _ _ 62 _ ([.int (fX11_orNone r16)]) _ _ _ _
          cases h
          exact J.iret (pc := 62) dX11_way_62 rfl ⟨rfl, rfl, hN20, trivial⟩
        · refine J.cne (pc := 48) (tgt := 63) dX11_way_48 (by decide) (fun q => absurd q hc) (fun _ => ?_)
          refine J.iload_n (pc := 63) dX11_way_63 rfl 5 rfl ?_
          refine J.iconst (pc := 64) dX11_way_64 ic_3 ?_
          rcases ifc h with ⟨hc, h⟩ | ⟨hc, h⟩
          · refine J.cne (pc := 65) (tgt := 77) dX11_way_65 (by decide) (fun _ => ?_) (fun q => absurd hc q)
            refine J.aload_n (pc := 68) dX11_way_68 rfl 2 rfl ?_
            refine J.iload (pc := 69) dX11_way_69 1 rfl ?_
            refine J.iload (pc := 71) dX11_way_71 0 rfl ?_
            obtain ⟨⟨r24, μ23⟩, e22, h⟩ := bnd h
            try dsimp only at h
            refine J.callV (Y := mX11_way) (Z := mX11_needed) (pc := 73) (st := []) (k2 := 0) (n2 := 0) dX11_way_73 ml_RX11_407 mo_X11_needed mv_X11_needed rfl (tX11_needed d e22 hN12 k0) k0 (okN hN12 k0 (by decide)).1 (okN hN12 k0 (by decide)).2 cq_11 (by decide) rfl rfl (Nat.le_of_ble_eq_true rfl) (by decide) (by decide) (fun v ν hp => ?_) (fun i ν hp => nrm hp.1)
            obtain ⟨rfl, rfl, hN25, hb26⟩ := QEl hp
            show J _ _ _ _ 76 _ ([.int r24]) _ _ _ _
            cases h
            exact J.iret (pc := 76) dX11_way_76 rfl ⟨rfl, rfl, hN25, trivial⟩
          · refine J.cne (pc := 65) (tgt := 77) dX11_way_65 (by decide) (fun q => absurd q hc) (fun _ => ?_)
            refine J.aload_n (pc := 77) dX11_way_77 rfl 2 rfl ?_
            refine J.iload (pc := 78) dX11_way_78 1 rfl ?_
            refine J.iload (pc := 80) dX11_way_80 0 rfl ?_
            obtain ⟨⟨r29, μ28⟩, e27, h⟩ := bnd h
            try dsimp only at h
            refine J.callV (Y := mX11_way) (Z := mX11_howFar) (pc := 82) (st := []) (k2 := 0) (n2 := 0) dX11_way_82 ml_RX11_374 mo_X11_howFar mv_X11_howFar rfl (tX11_howFar (d + 1) e27 hN12 k0) k0 (okN hN12 k0 (by decide)).1 (okN hN12 k0 (by decide)).2 cq_11 (by decide) rfl rfl (Nat.le_of_ble_eq_true rfl) (by decide) (by decide) (fun v ν hp => ?_) (fun i ν hp => nrm hp.1)
            obtain ⟨rfl, rfl, hN30, hb31⟩ := QEl hp
            show J _ _ _ _ 85 _ ([.int r29]) _ _ _ _
            refine J.istore (pc := 85) ([(6, .int r29), (5, .int (-1 : Int32)), (4, .int r6), (0, .ref v0), (1, .int v1), (2, .int v2), (3, .int v3)]) dX11_way_85 (Nat.le_of_ble_eq_true rfl) rfl ?_
            refine J.iload_n (pc := 87) dX11_way_87 rfl 6 rfl ?_
            rcases ifc h with ⟨hc, h⟩ | ⟨hc, h⟩
            · refine J.zne (pc := 88) (tgt := 97) dX11_way_88 (by decide) (fun _ => ?_) (fun q => absurd hc q)
              refine J.iload (pc := 91) dX11_way_91 0 rfl ?_
              refine J.callS (Y := mX11_way) (Z := mX11_orNone) (pc := 93) (st := []) (k2 := 0) (n2 := 0) dX11_way_93 ml_RX11_377 mo_X11_orNone ms_X11_orNone rfl (tX11_orNone (d + 3) r29 μ28 hN30 ) rfl rfl (Nat.le_of_ble_eq_true rfl) (by decide) (by decide) (fun v ν hp => ?_) (fun i ν hp => nrm hp.1)
              obtain ⟨rfl, rfl, hN33, hb34⟩ := QEl hp
              show J _ _ _ _ 96 _ ([.int (fX11_orNone r29)]) _ _ _ _
              cases h
              exact J.iret (pc := 96) dX11_way_96 rfl ⟨rfl, rfl, hN33, trivial⟩
            · refine J.zne (pc := 88) (tgt := 97) dX11_way_88 (by decide) (fun q => absurd q hc) (fun _ => ?_)
              refine J.iload (pc := 97) dX11_way_97 0 rfl ?_
              rcases ifc h with ⟨hc, h⟩ | ⟨hc, h⟩
              · refine J.zeq (pc := 99) (tgt := 110) dX11_way_99 (by decide) (fun _ => ?_) (fun q => absurd hc q)
                refine J.iconst (pc := 110) dX11_way_110 ic_m1 ?_
                refine J.goto (pc := 111) (tgt := 124) dX11_way_111 (by decide) ?_
                cases h
                exact J.iret (pc := 124) dX11_way_124 rfl ⟨rfl, rfl, hN30, trivial⟩
              · refine J.zeq (pc := 99) (tgt := 110) dX11_way_99 (by decide) (fun q => absurd q hc) (fun _ => ?_)
                refine J.iload (pc := 102) dX11_way_102 0 rfl ?_
                refine J.sipush (pc := 104) dX11_way_104 is_9999 ?_
                rcases ifc h with ⟨hc, h⟩ | ⟨hc, h⟩
                · refine J.clt (pc := 107) (tgt := 114) dX11_way_107 (by decide) (fun _ => ?_) (fun q => absurd hc q)
                  refine J.aload_n (pc := 114) dX11_way_114 rfl 3 rfl ?_
                  refine J.iconst (pc := 115) dX11_way_115 ic_0 ?_
                  refine J.iload (pc := 116) dX11_way_116 2 rfl ?_
                  obtain ⟨r36, e35, h⟩ := bnd h
                  refine J.callV (Y := mX11_way) (Z := mX11_stepFrom) (pc := 118) (st := []) (k2 := 0) (n2 := 0) dX11_way_118 ml_RX11_320 mo_X11_stepFrom mv_X11_stepFrom rfl (tX11_stepFrom (d + 2) e35 hN30 k0) k0 (okN hN30 k0 (by decide)).1 (okN hN30 k0 (by decide)).2 cq_11 (by decide) rfl rfl (Nat.le_of_ble_eq_true rfl) (by decide) (by decide) (fun v ν hp => ?_) (fun i ν hp => nrm hp.1)
                  obtain ⟨rfl, rfl, hN37, hb38⟩ := QEl hp
                  show J _ _ _ _ 121 _ ([.int r36]) _ _ _ _
                  refine J.callS (Y := mX11_way) (Z := mX11_toldAs) (pc := 121) (st := []) (k2 := 0) (n2 := 0) dX11_way_121 ml_RX11_371 mo_X11_toldAs ms_X11_toldAs rfl (tX11_toldAs (d + 3) r36 μ28 hN37 ) rfl rfl (Nat.le_of_ble_eq_true rfl) (by decide) (by decide) (fun v ν hp => ?_) (fun i ν hp => nrm hp.1)
                  obtain ⟨rfl, rfl, hN40, hb41⟩ := QEl hp
                  show J _ _ _ _ 124 _ ([.int (fX11_toldAs r36)]) _ _ _ _
                  cases h
                  exact J.iret (pc := 124) dX11_way_124 rfl ⟨rfl, rfl, hN40, trivial⟩
                · refine J.clt (pc := 107) (tgt := 114) dX11_way_107 (by decide) (fun q => absurd q hc) (fun _ => ?_)
                  refine J.iconst (pc := 110) dX11_way_110 ic_m1 ?_
                  refine J.goto (pc := 111) (tgt := 124) dX11_way_111 (by decide) ?_
                  cases h
                  exact J.iret (pc := 124) dX11_way_124 rfl ⟨rfl, rfl, hN30, trivial⟩
  · refine J.cne (pc := 15) (tgt := 22) dX11_way_15 (by decide) (fun q => absurd q hc) (fun _ => ?_)
    refine J.aload_n (pc := 22) dX11_way_22 rfl 1 rfl ?_
    refine J.iload_n (pc := 23) dX11_way_23 rfl 3 rfl ?_
    obtain ⟨⟨r44, μ43⟩, e42, h⟩ := bnd h
    try dsimp only at h
    refine J.callV (Y := mX11_way) (Z := mX11_placeOf) (pc := 24) (st := []) (k2 := 0) (n2 := 0) dX11_way_24 ml_RX11_380 mo_X11_placeOf mv_X11_placeOf rfl (tX11_placeOf (d + 2) e42 hN7 k0) k0 (okN hN7 k0 (by decide)).1 (okN hN7 k0 (by decide)).2 cq_11 (by decide) rfl rfl (Nat.le_of_ble_eq_true rfl) (by decide) (by decide) (fun v ν hp => ?_) (fun i ν hp => nrm hp.1)
    obtain ⟨rfl, rfl, hN45, hb46⟩ := QEl hp
    show J _ _ _ _ 27 _ ([.int r44]) _ _ _ _
    refine J.istore (pc := 27) ([(5, .int r44), (4, .int r6), (0, .ref v0), (1, .int v1), (2, .int v2), (3, .int v3)]) dX11_way_27 (Nat.le_of_ble_eq_true rfl) rfl ?_
    refine J.iload (pc := 29) dX11_way_29 0 rfl ?_
    refine J.iconst (pc := 31) dX11_way_31 ic_m1 ?_
    rcases ifc h with ⟨hc, h⟩ | ⟨hc, h⟩
    · refine J.ceq (pc := 32) (tgt := 44) dX11_way_32 (by decide) (fun _ => ?_) (fun q => absurd hc q)
      refine J.iconst (pc := 44) dX11_way_44 ic_0 ?_
      cases h
      exact J.iret (pc := 45) dX11_way_45 rfl ⟨rfl, rfl, hN45, trivial⟩
    · refine J.ceq (pc := 32) (tgt := 44) dX11_way_32 (by decide) (fun q => absurd q hc) (fun _ => ?_)
      refine J.aload_n (pc := 35) dX11_way_35 rfl 2 rfl ?_
      refine J.iload_n (pc := 36) dX11_way_36 rfl 5 rfl ?_
      refine J.iconst (pc := 37) dX11_way_37 ic_3 ?_
      obtain ⟨⟨r49, μ48⟩, e47, h⟩ := bnd h
      try dsimp only at h
      refine J.callV (Y := mX11_way) (Z := mX11_isWhat) (pc := 38) (st := []) (k2 := 0) (n2 := 0) dX11_way_38 ml_RX11_365 mo_X11_isWhat mv_X11_isWhat rfl (tX11_isWhat (d + 2) e47 hN45 k0) k0 (okN hN45 k0 (by decide)).1 (okN hN45 k0 (by decide)).2 cq_11 (by decide) rfl rfl (Nat.le_of_ble_eq_true rfl) (by decide) (by decide) (fun v ν hp => ?_) (fun i ν hp => nrm hp.1)
      obtain ⟨rfl, rfl, hN50, hb51⟩ := QEl hp
      show J _ _ _ _ 41 _ ([.int r49]) _ _ _ _
      rcases ifc h with ⟨hc, h⟩ | ⟨hc, h⟩
      · refine J.zne (pc := 41) (tgt := 46) dX11_way_41 (by decide) (fun _ => ?_) (fun q => absurd hc q)
        refine J.iconst (pc := 44) dX11_way_44 ic_0 ?_
        cases h
        exact J.iret (pc := 45) dX11_way_45 rfl ⟨rfl, rfl, hN50, trivial⟩
      · refine J.zne (pc := 41) (tgt := 46) dX11_way_41 (by decide) (fun q => absurd q hc) (fun _ => ?_)
        refine J.iload_n (pc := 46) dX11_way_46 rfl 5 rfl ?_
        refine J.iconst (pc := 47) dX11_way_47 ic_2 ?_
        rcases ifc h with ⟨hc, h⟩ | ⟨hc, h⟩
        · refine J.cne (pc := 48) (tgt := 63) dX11_way_48 (by decide) (fun _ => ?_) (fun q => absurd hc q)
          refine J.aload_n (pc := 51) dX11_way_51 rfl 2 rfl ?_
          refine J.iload (pc := 52) dX11_way_52 1 rfl ?_
          refine J.iload (pc := 54) dX11_way_54 0 rfl ?_
          obtain ⟨⟨r54, μ53⟩, e52, h⟩ := bnd h
          try dsimp only at h
          refine J.callV (Y := mX11_way) (Z := mX11_toClear) (pc := 56) (st := []) (k2 := 0) (n2 := 0) dX11_way_56 ml_RX11_404 mo_X11_toClear mv_X11_toClear rfl (tX11_toClear (d + 2) e52 hN50 k0) k0 (okN hN50 k0 (by decide)).1 (okN hN50 k0 (by decide)).2 cq_11 (by decide) rfl rfl (Nat.le_of_ble_eq_true rfl) (by decide) (by decide) (fun v ν hp => ?_) (fun i ν hp => nrm hp.1)
          obtain ⟨rfl, rfl, hN55, hb56⟩ := QEl hp
          show J _ _ _ _ 59 _ ([.int r54]) _ _ _ _
          refine J.callS (Y := mX11_way) (Z := mX11_orNone) (pc := 59) (st := []) (k2 := 0) (n2 := 0) dX11_way_59 ml_RX11_377 mo_X11_orNone ms_X11_orNone rfl (tX11_orNone (d + 3) r54 μ53 hN55 ) rfl rfl (Nat.le_of_ble_eq_true rfl) (by decide) (by decide) (fun v ν hp => ?_) (fun i ν hp => nrm hp.1)
          obtain ⟨rfl, rfl, hN58, hb59⟩ := QEl hp
          show J _ _ _ _ 62 _ ([.int (fX11_orNone r54)]) _ _ _ _
          cases h
          exact J.iret (pc := 62) dX11_way_62 rfl ⟨rfl, rfl, hN58, trivial⟩
        · refine J.cne (pc := 48) (tgt := 63) dX11_way_48 (by decide) (fun q => absurd q hc) (fun _ => ?_)
          refine J.iload_n (pc := 63) dX11_way_63 rfl 5 rfl ?_
          refine J.iconst (pc := 64) dX11_way_64 ic_3 ?_
          rcases ifc h with ⟨hc, h⟩ | ⟨hc, h⟩
          · refine J.cne (pc := 65) (tgt := 77) dX11_way_65 (by decide) (fun _ => ?_) (fun q => absurd hc q)
            refine J.aload_n (pc := 68) dX11_way_68 rfl 2 rfl ?_
            refine J.iload (pc := 69) dX11_way_69 1 rfl ?_
            refine J.iload (pc := 71) dX11_way_71 0 rfl ?_
            obtain ⟨⟨r62, μ61⟩, e60, h⟩ := bnd h
            try dsimp only at h
            refine J.callV (Y := mX11_way) (Z := mX11_needed) (pc := 73) (st := []) (k2 := 0) (n2 := 0) dX11_way_73 ml_RX11_407 mo_X11_needed mv_X11_needed rfl (tX11_needed d e60 hN50 k0) k0 (okN hN50 k0 (by decide)).1 (okN hN50 k0 (by decide)).2 cq_11 (by decide) rfl rfl (Nat.le_of_ble_eq_true rfl) (by decide) (by decide) (fun v ν hp => ?_) (fun i ν hp => nrm hp.1)
            obtain ⟨rfl, rfl, hN63, hb64⟩ := QEl hp
            show J _ _ _ _ 76 _ ([.int r62]) _ _ _ _
            cases h
            exact J.iret (pc := 76) dX11_way_76 rfl ⟨rfl, rfl, hN63, trivial⟩
          · refine J.cne (pc := 65) (tgt := 77) dX11_way_65 (by decide) (fun q => absurd q hc) (fun _ => ?_)
            refine J.aload_n (pc := 77) dX11_way_77 rfl 2 rfl ?_
            refine J.iload (pc := 78) dX11_way_78 1 rfl ?_
            refine J.iload (pc := 80) dX11_way_80 0 rfl ?_
            obtain ⟨⟨r67, μ66⟩, e65, h⟩ := bnd h
            try dsimp only at h
            refine J.callV (Y := mX11_way) (Z := mX11_howFar) (pc := 82) (st := []) (k2 := 0) (n2 := 0) dX11_way_82 ml_RX11_374 mo_X11_howFar mv_X11_howFar rfl (tX11_howFar (d + 1) e65 hN50 k0) k0 (okN hN50 k0 (by decide)).1 (okN hN50 k0 (by decide)).2 cq_11 (by decide) rfl rfl (Nat.le_of_ble_eq_true rfl) (by decide) (by decide) (fun v ν hp => ?_) (fun i ν hp => nrm hp.1)
            obtain ⟨rfl, rfl, hN68, hb69⟩ := QEl hp
            show J _ _ _ _ 85 _ ([.int r67]) _ _ _ _
            refine J.istore (pc := 85) ([(6, .int r67), (5, .int r44), (4, .int r6), (0, .ref v0), (1, .int v1), (2, .int v2), (3, .int v3)]) dX11_way_85 (Nat.le_of_ble_eq_true rfl) rfl ?_
            refine J.iload_n (pc := 87) dX11_way_87 rfl 6 rfl ?_
            rcases ifc h with ⟨hc, h⟩ | ⟨hc, h⟩
            · refine J.zne (pc := 88) (tgt := 97) dX11_way_88 (by decide) (fun _ => ?_) (fun q => absurd hc q)
              refine J.iload (pc := 91) dX11_way_91 0 rfl ?_
              refine J.callS (Y := mX11_way) (Z := mX11_orNone) (pc := 93) (st := []) (k2 := 0) (n2 := 0) dX11_way_93 ml_RX11_377 mo_X11_orNone ms_X11_orNone rfl (tX11_orNone (d + 3) r67 μ66 hN68 ) rfl rfl (Nat.le_of_ble_eq_true rfl) (by decide) (by decide) (fun v ν hp => ?_) (fun i ν hp => nrm hp.1)
              obtain ⟨rfl, rfl, hN71, hb72⟩ := QEl hp
              show J _ _ _ _ 96 _ ([.int (fX11_orNone r67)]) _ _ _ _
              cases h
              exact J.iret (pc := 96) dX11_way_96 rfl ⟨rfl, rfl, hN71, trivial⟩
            · refine J.zne (pc := 88) (tgt := 97) dX11_way_88 (by decide) (fun q => absurd q hc) (fun _ => ?_)
              refine J.iload (pc := 97) dX11_way_97 0 rfl ?_
              rcases ifc h with ⟨hc, h⟩ | ⟨hc, h⟩
              · refine J.zeq (pc := 99) (tgt := 110) dX11_way_99 (by decide) (fun _ => ?_) (fun q => absurd hc q)
                refine J.iconst (pc := 110) dX11_way_110 ic_m1 ?_
                refine J.goto (pc := 111) (tgt := 124) dX11_way_111 (by decide) ?_
                cases h
                exact J.iret (pc := 124) dX11_way_124 rfl ⟨rfl, rfl, hN68, trivial⟩
              · refine J.zeq (pc := 99) (tgt := 110) dX11_way_99 (by decide) (fun q => absurd q hc) (fun _ => ?_)
                refine J.iload (pc := 102) dX11_way_102 0 rfl ?_
                refine J.sipush (pc := 104) dX11_way_104 is_9999 ?_
                rcases ifc h with ⟨hc, h⟩ | ⟨hc, h⟩
                · refine J.clt (pc := 107) (tgt := 114) dX11_way_107 (by decide) (fun _ => ?_) (fun q => absurd hc q)
                  refine J.aload_n (pc := 114) dX11_way_114 rfl 3 rfl ?_
                  refine J.iconst (pc := 115) dX11_way_115 ic_0 ?_
                  refine J.iload (pc := 116) dX11_way_116 2 rfl ?_
                  obtain ⟨r74, e73, h⟩ := bnd h
                  refine J.callV (Y := mX11_way) (Z := mX11_stepFrom) (pc := 118) (st := []) (k2 := 0) (n2 := 0) dX11_way_118 ml_RX11_320 mo_X11_stepFrom mv_X11_stepFrom rfl (tX11_stepFrom (d + 2) e73 hN68 k0) k0 (okN hN68 k0 (by decide)).1 (okN hN68 k0 (by decide)).2 cq_11 (by decide) rfl rfl (Nat.le_of_ble_eq_true rfl) (by decide) (by decide) (fun v ν hp => ?_) (fun i ν hp => nrm hp.1)
                  obtain ⟨rfl, rfl, hN75, hb76⟩ := QEl hp
                  show J _ _ _ _ 121 _ ([.int r74]) _ _ _ _
                  refine J.callS (Y := mX11_way) (Z := mX11_toldAs) (pc := 121) (st := []) (k2 := 0) (n2 := 0) dX11_way_121 ml_RX11_371 mo_X11_toldAs ms_X11_toldAs rfl (tX11_toldAs (d + 3) r74 μ66 hN75 ) rfl rfl (Nat.le_of_ble_eq_true rfl) (by decide) (by decide) (fun v ν hp => ?_) (fun i ν hp => nrm hp.1)
                  obtain ⟨rfl, rfl, hN78, hb79⟩ := QEl hp
                  show J _ _ _ _ 124 _ ([.int (fX11_toldAs r74)]) _ _ _ _
                  cases h
                  exact J.iret (pc := 124) dX11_way_124 rfl ⟨rfl, rfl, hN78, trivial⟩
                · refine J.clt (pc := 107) (tgt := 114) dX11_way_107 (by decide) (fun q => absurd q hc) (fun _ => ?_)
                  refine J.iconst (pc := 110) dX11_way_110 ic_m1 ?_
                  refine J.goto (pc := 111) (tgt := 124) dX11_way_111 (by decide) ?_
                  cases h
                  exact J.iret (pc := 124) dX11_way_124 rfl ⟨rfl, rfl, hN68, trivial⟩
def fX11_ways_108  (K98 : Nat → Int32 → Int32 → Int32 → Mem → Option (Int32 × Mem)) : Nat → Nat → Int32 → Int32 → Int32 → Int32 → Mem → Option (Int32 × Mem)
  | 0, _, _, _, _, _, _ => none
  | n + 1, v0, v4, v5, v6, v7, μ =>
    if v7 < (4 : Int32) then
      (gR μ v0 46 0).bind fun a1 =>
      (ldI μ a1 v6).bind fun x4 =>
      if 0 < x4 then
        (gR μ v0 39 0).bind fun a6 =>
        (ldI μ a6 v6).bind fun x9 =>
        if x9 = v5 then
          (fX11_beside v0 (0 : Int32) v6 v7 μ).bind fun r12 =>
          if r12 = (-1 : Int32) then
            (fX11_ways_108 K98 n) v0 v4 v5 v6 (v7 + (1 : Int32)) μ
          else
            (fX11_isWhite v0 (0 : Int32) r12 μ).bind fun r16 =>
            if r16 = 0 then
              (fX11_ways_108 K98 n) v0 v4 v5 v6 (v7 + (1 : Int32)) μ
            else
              (gR μ v0 39 0).bind fun a19 =>
              (ldI μ a19 r12).bind fun x22 =>
              if x22 = (v5 - (1 : Int32)) then
                (gR μ v0 46 0).bind fun a24 =>
                (ldI μ a24 r12).bind fun x27 =>
                (gR μ v0 46 0).bind fun a29 =>
                (ldI μ a29 v6).bind fun x32 =>
                (stI μ a24 r12 (x27 + x32)).bind fun μ34 =>
                (fX11_ways_108 K98 n) v0 v4 v5 v6 (v7 + (1 : Int32)) μ34
              else
                (fX11_ways_108 K98 n) v0 v4 v5 v6 (v7 + (1 : Int32)) μ
        else
          K98 v0 v4 v5 (v6 + (1 : Int32)) μ
      else
        K98 v0 v4 v5 (v6 + (1 : Int32)) μ
    else
      K98 v0 v4 v5 (v6 + (1 : Int32)) μ
set_option maxHeartbeats 4000000 in
theorem tX11_ways_108 {ω : Wd} {l : Launch} (d : Nat) {res : Int32 × Mem} (K98 : Nat → Int32 → Int32 → Int32 → Mem → Option (Int32 × Mem)) (hK98 : ∀ (v0 : Nat) (v4 : Int32) (v5 : Int32) (v6 : Int32) (μ : Mem), K98 v0 v4 v5 v6 μ = some res → μ.1 = NN → (kd v0).1 = 21 → J ω l mX11_ways (d + 3) 98 [(0, .ref v0), (4, .int v4), (5, .int v5), (6, .int v6)] [] μ 0 0 (PE (.inl (some (.int res.1))) res.2 True)) : ∀ n : Nat, ∀ (v0 : Nat) (v4 : Int32) (v5 : Int32) (v6 : Int32) (v7 : Int32) (μ : Mem), fX11_ways_108 K98 n v0 v4 v5 v6 v7 μ = some res → μ.1 = NN → (kd v0).1 = 21 → J ω l mX11_ways (d + 3) 108 [(0, .ref v0), (4, .int v4), (5, .int v5), (6, .int v6), (7, .int v7)] [] μ 0 0 (PE (.inl (some (.int res.1))) res.2 True) := by
  intro n
  induction n with
  | zero =>
    intro v0 v4 v5 v6 v7 μ h hN k0
    have h9 : (none : Option (Int32 × Mem)) = some res := h
    cases h9
  | succ n ih =>
    intro v0 v4 v5 v6 v7 μ h hN k0
    unfold fX11_ways_108 at h
    refine J.iload (pc := 108) dX11_ways_108 4 rfl ?_
    refine J.iconst (pc := 110) dX11_ways_110 ic_4 ?_
    rcases ifc h with ⟨hc, h⟩ | ⟨hc, h⟩
    · refine J.cge (pc := 111) (tgt := 200) dX11_ways_111 (by decide) (fun _ => ?_) (fun q => absurd hc q)
      refine J.aload_n (pc := 114) dX11_ways_114 rfl 0 rfl ?_
      obtain ⟨a1, e2, h⟩ := bnd h
      have k3 : (kd a1).1 = 0 := gR_k e2
      refine J.fR (pc := 115) dX11_ways_115 fl_RX11_72 k0 (okN hN k0 (by decide)) rfl e2 ?_
      refine J.iload (pc := 118) dX11_ways_118 3 rfl ?_
      obtain ⟨x4, e5, h⟩ := bnd h
      refine J.aI (pc := 120) dX11_ways_120 k3 (okN hN k3 (by decide)) e5 ?_
      rcases ifc h with ⟨hc, h⟩ | ⟨hc, h⟩
      · refine J.zle (pc := 121) (tgt := 200) dX11_ways_121 (by decide) (fun _ => ?_) (fun q => absurd hc q)
        refine J.aload_n (pc := 124) dX11_ways_124 rfl 0 rfl ?_
        obtain ⟨a6, e7, h⟩ := bnd h
        have k8 : (kd a6).1 = 0 := gR_k e7
        refine J.fR (pc := 125) dX11_ways_125 fl_RX11_60 k0 (okN hN k0 (by decide)) rfl e7 ?_
        refine J.iload (pc := 128) dX11_ways_128 3 rfl ?_
        obtain ⟨x9, e10, h⟩ := bnd h
        refine J.aI (pc := 130) dX11_ways_130 k8 (okN hN k8 (by decide)) e10 ?_
        refine J.iload (pc := 131) dX11_ways_131 2 rfl ?_
        rcases ifc h with ⟨hc, h⟩ | ⟨hc, h⟩
        · refine J.cne (pc := 133) (tgt := 200) dX11_ways_133 (by decide) (fun _ => ?_) (fun q => absurd hc q)
          refine J.aload_n (pc := 136) dX11_ways_136 rfl 0 rfl ?_
          refine J.iconst (pc := 137) dX11_ways_137 ic_0 ?_
          refine J.iload (pc := 138) dX11_ways_138 3 rfl ?_
          refine J.iload (pc := 140) dX11_ways_140 4 rfl ?_
          obtain ⟨r12, e11, h⟩ := bnd h
          refine J.callV (Y := mX11_ways) (Z := mX11_beside) (pc := 142) (st := []) (k2 := 0) (n2 := 0) dX11_ways_142 ml_RX11_301 mo_X11_beside mv_X11_beside rfl (tX11_beside (d + 2) e11 hN k0) k0 (okN hN k0 (by decide)).1 (okN hN k0 (by decide)).2 cq_11 (by decide) rfl rfl (Nat.le_of_ble_eq_true rfl) (by decide) (by decide) (fun v ν hp => ?_) (fun i ν hp => nrm hp.1)
          obtain ⟨rfl, rfl, hN13, hb14⟩ := QEl hp
          show J _ _ _ _ 145 _ ([.int r12]) _ _ _ _
          refine J.istore (pc := 145) ([(8, .int r12), (0, .ref v0), (4, .int v4), (5, .int v5), (6, .int v6), (7, .int v7)]) dX11_ways_145 (Nat.le_of_ble_eq_true rfl) rfl ?_
          refine J.iload (pc := 147) dX11_ways_147 0 rfl ?_
          refine J.iconst (pc := 149) dX11_ways_149 ic_m1 ?_
          rcases ifc h with ⟨hc, h⟩ | ⟨hc, h⟩
          · refine J.ceq (pc := 150) (tgt := 194) dX11_ways_150 (by decide) (fun _ => ?_) (fun q => absurd hc q)
            refine J.iinc (pc := 194) (j := 5) ([(7, .int (v7 + (1 : Int32))), (8, .int r12), (0, .ref v0), (4, .int v4), (5, .int v5), (6, .int v6)]) dX11_ways_194 rfl (iincv ic_1) (Nat.le_of_ble_eq_true rfl) rfl ?_
            refine J.goto (pc := 197) (tgt := 108) dX11_ways_197 (by decide) ?_
            refine J.pick [2, 3, 4, 5, 0] rfl ?_
            exact ih v0 v4 v5 v6 (v7 + (1 : Int32)) μ h hN13 k0
          · refine J.ceq (pc := 150) (tgt := 194) dX11_ways_150 (by decide) (fun q => absurd q hc) (fun _ => ?_)
            refine J.aload_n (pc := 153) dX11_ways_153 rfl 1 rfl ?_
            refine J.iconst (pc := 154) dX11_ways_154 ic_0 ?_
            refine J.iload (pc := 155) dX11_ways_155 0 rfl ?_
            obtain ⟨r16, e15, h⟩ := bnd h
            refine J.callV (Y := mX11_ways) (Z := mX11_isWhite) (pc := 157) (st := []) (k2 := 0) (n2 := 0) dX11_ways_157 ml_RX11_297 mo_X11_isWhite mv_X11_isWhite rfl (tX11_isWhite (d + 2) e15 hN13 k0) k0 (okN hN13 k0 (by decide)).1 (okN hN13 k0 (by decide)).2 cq_11 (by decide) rfl rfl (Nat.le_of_ble_eq_true rfl) (by decide) (by decide) (fun v ν hp => ?_) (fun i ν hp => nrm hp.1)
            obtain ⟨rfl, rfl, hN17, hb18⟩ := QEl hp
            show J _ _ _ _ 160 _ ([.int r16]) _ _ _ _
            rcases ifc h with ⟨hc, h⟩ | ⟨hc, h⟩
            · refine J.zeq (pc := 160) (tgt := 194) dX11_ways_160 (by decide) (fun _ => ?_) (fun q => absurd hc q)
              refine J.iinc (pc := 194) (j := 5) ([(7, .int (v7 + (1 : Int32))), (8, .int r12), (0, .ref v0), (4, .int v4), (5, .int v5), (6, .int v6)]) dX11_ways_194 rfl (iincv ic_1) (Nat.le_of_ble_eq_true rfl) rfl ?_
              refine J.goto (pc := 197) (tgt := 108) dX11_ways_197 (by decide) ?_
              refine J.pick [2, 3, 4, 5, 0] rfl ?_
              exact ih v0 v4 v5 v6 (v7 + (1 : Int32)) μ h hN17 k0
            · refine J.zeq (pc := 160) (tgt := 194) dX11_ways_160 (by decide) (fun q => absurd q hc) (fun _ => ?_)
              refine J.aload_n (pc := 163) dX11_ways_163 rfl 1 rfl ?_
              obtain ⟨a19, e20, h⟩ := bnd h
              have k21 : (kd a19).1 = 0 := gR_k e20
              refine J.fR (pc := 164) dX11_ways_164 fl_RX11_60 k0 (okN hN17 k0 (by decide)) rfl e20 ?_
              refine J.iload (pc := 167) dX11_ways_167 0 rfl ?_
              obtain ⟨x22, e23, h⟩ := bnd h
              refine J.aI (pc := 169) dX11_ways_169 k21 (okN hN17 k21 (by decide)) e23 ?_
              refine J.iload (pc := 170) dX11_ways_170 3 rfl ?_
              refine J.iconst (pc := 172) dX11_ways_172 ic_1 ?_
              refine J.isub (pc := 173) dX11_ways_173 ?_
              rcases ifc h with ⟨hc, h⟩ | ⟨hc, h⟩
              · refine J.cne (pc := 174) (tgt := 194) dX11_ways_174 (by decide) (fun _ => ?_) (fun q => absurd hc q)
                refine J.aload_n (pc := 177) dX11_ways_177 rfl 1 rfl ?_
                obtain ⟨a24, e25, h⟩ := bnd h
                have k26 : (kd a24).1 = 0 := gR_k e25
                refine J.fR (pc := 178) dX11_ways_178 fl_RX11_72 k0 (okN hN17 k0 (by decide)) rfl e25 ?_
                refine J.iload (pc := 181) dX11_ways_181 0 rfl ?_
                refine J.dup2 (pc := 183) dX11_ways_183 rfl rfl ?_
                obtain ⟨x27, e28, h⟩ := bnd h
                refine J.aI (pc := 184) dX11_ways_184 k26 (okN hN17 k26 (by decide)) e28 ?_
                refine J.aload_n (pc := 185) dX11_ways_185 rfl 1 rfl ?_
                obtain ⟨a29, e30, h⟩ := bnd h
                have k31 : (kd a29).1 = 0 := gR_k e30
                refine J.fR (pc := 186) dX11_ways_186 fl_RX11_72 k0 (okN hN17 k0 (by decide)) rfl e30 ?_
                refine J.iload (pc := 189) dX11_ways_189 4 rfl ?_
                obtain ⟨x32, e33, h⟩ := bnd h
                refine J.aI (pc := 191) dX11_ways_191 k31 (okN hN17 k31 (by decide)) e33 ?_
                refine J.iadd (pc := 192) dX11_ways_192 ?_
                obtain ⟨μ34, e35, h⟩ := bnd h
                have hN36 : μ34.1 = NN := stI_N e35 hN17
                refine J.wI (pc := 193) dX11_ways_193 k26 (okN hN17 k26 (by decide)) e35 ?_
                refine J.iinc (pc := 194) (j := 5) ([(7, .int (v7 + (1 : Int32))), (8, .int r12), (0, .ref v0), (4, .int v4), (5, .int v5), (6, .int v6)]) dX11_ways_194 rfl (iincv ic_1) (Nat.le_of_ble_eq_true rfl) rfl ?_
                refine J.goto (pc := 197) (tgt := 108) dX11_ways_197 (by decide) ?_
                refine J.pick [2, 3, 4, 5, 0] rfl ?_
                exact ih v0 v4 v5 v6 (v7 + (1 : Int32)) μ34 h hN36 k0
              · refine J.cne (pc := 174) (tgt := 194) dX11_ways_174 (by decide) (fun q => absurd q hc) (fun _ => ?_)
                refine J.iinc (pc := 194) (j := 5) ([(7, .int (v7 + (1 : Int32))), (8, .int r12), (0, .ref v0), (4, .int v4), (5, .int v5), (6, .int v6)]) dX11_ways_194 rfl (iincv ic_1) (Nat.le_of_ble_eq_true rfl) rfl ?_
                refine J.goto (pc := 197) (tgt := 108) dX11_ways_197 (by decide) ?_
                refine J.pick [2, 3, 4, 5, 0] rfl ?_
                exact ih v0 v4 v5 v6 (v7 + (1 : Int32)) μ h hN17 k0
        · refine J.cne (pc := 133) (tgt := 200) dX11_ways_133 (by decide) (fun q => absurd q hc) (fun _ => ?_)
          refine J.iinc (pc := 200) (j := 3) ([(6, .int (v6 + (1 : Int32))), (0, .ref v0), (4, .int v4), (5, .int v5), (7, .int v7)]) dX11_ways_200 rfl (iincv ic_1) (Nat.le_of_ble_eq_true rfl) rfl ?_
          refine J.goto (pc := 203) (tgt := 98) dX11_ways_203 (by decide) ?_
          refine J.pick [1, 2, 3, 0] rfl ?_
          exact hK98 v0 v4 v5 (v6 + (1 : Int32)) μ h hN k0
      · refine J.zle (pc := 121) (tgt := 200) dX11_ways_121 (by decide) (fun q => absurd q hc) (fun _ => ?_)
        refine J.iinc (pc := 200) (j := 3) ([(6, .int (v6 + (1 : Int32))), (0, .ref v0), (4, .int v4), (5, .int v5), (7, .int v7)]) dX11_ways_200 rfl (iincv ic_1) (Nat.le_of_ble_eq_true rfl) rfl ?_
        refine J.goto (pc := 203) (tgt := 98) dX11_ways_203 (by decide) ?_
        refine J.pick [1, 2, 3, 0] rfl ?_
        exact hK98 v0 v4 v5 (v6 + (1 : Int32)) μ h hN k0
    · refine J.cge (pc := 111) (tgt := 200) dX11_ways_111 (by decide) (fun q => absurd q hc) (fun _ => ?_)
      refine J.iinc (pc := 200) (j := 3) ([(6, .int (v6 + (1 : Int32))), (0, .ref v0), (4, .int v4), (5, .int v5), (7, .int v7)]) dX11_ways_200 rfl (iincv ic_1) (Nat.le_of_ble_eq_true rfl) rfl ?_
      refine J.goto (pc := 203) (tgt := 98) dX11_ways_203 (by decide) ?_
      refine J.pick [1, 2, 3, 0] rfl ?_
      exact hK98 v0 v4 v5 (v6 + (1 : Int32)) μ h hN k0
def fX11_ways_98  (K90 : Nat → Int32 → Int32 → Mem → Option (Int32 × Mem)) : Nat → Nat → Int32 → Int32 → Int32 → Mem → Option (Int32 × Mem)
  | 0, _, _, _, _, _ => none
  | n + 1, v0, v4, v5, v6, μ =>
    if v6 < (48 : Int32) then
      (fX11_ways_108 (fX11_ways_98 K90 n) fuel) v0 v4 v5 v6 (0 : Int32) μ
    else
      K90 v0 v4 (v5 + (-1 : Int32)) μ
set_option maxHeartbeats 4000000 in
theorem tX11_ways_98 {ω : Wd} {l : Launch} (d : Nat) {res : Int32 × Mem} (K90 : Nat → Int32 → Int32 → Mem → Option (Int32 × Mem)) (hK90 : ∀ (v0 : Nat) (v4 : Int32) (v5 : Int32) (μ : Mem), K90 v0 v4 v5 μ = some res → μ.1 = NN → (kd v0).1 = 21 → J ω l mX11_ways (d + 3) 90 [(0, .ref v0), (4, .int v4), (5, .int v5)] [] μ 0 0 (PE (.inl (some (.int res.1))) res.2 True)) : ∀ n : Nat, ∀ (v0 : Nat) (v4 : Int32) (v5 : Int32) (v6 : Int32) (μ : Mem), fX11_ways_98 K90 n v0 v4 v5 v6 μ = some res → μ.1 = NN → (kd v0).1 = 21 → J ω l mX11_ways (d + 3) 98 [(0, .ref v0), (4, .int v4), (5, .int v5), (6, .int v6)] [] μ 0 0 (PE (.inl (some (.int res.1))) res.2 True) := by
  intro n
  induction n with
  | zero =>
    intro v0 v4 v5 v6 μ h hN k0
    have h9 : (none : Option (Int32 × Mem)) = some res := h
    cases h9
  | succ n ih =>
    intro v0 v4 v5 v6 μ h hN k0
    unfold fX11_ways_98 at h
    refine J.iload (pc := 98) dX11_ways_98 3 rfl ?_
    refine J.bipush (pc := 100) dX11_ways_100 ib_48 ?_
    rcases ifc h with ⟨hc, h⟩ | ⟨hc, h⟩
    · refine J.cge (pc := 102) (tgt := 206) dX11_ways_102 (by decide) (fun _ => ?_) (fun q => absurd hc q)
      refine J.iconst (pc := 105) dX11_ways_105 ic_0 ?_
      refine J.istore (pc := 106) ([(7, .int (0 : Int32)), (0, .ref v0), (4, .int v4), (5, .int v5), (6, .int v6)]) dX11_ways_106 (Nat.le_of_ble_eq_true rfl) rfl ?_
      refine J.pick [1, 2, 3, 4, 0] rfl ?_
      exact (tX11_ways_108 d (fX11_ways_98 K90 n) ih fuel) v0 v4 v5 v6 (0 : Int32) μ h hN k0
    · refine J.cge (pc := 102) (tgt := 206) dX11_ways_102 (by decide) (fun q => absurd q hc) (fun _ => ?_)
      refine J.iinc (pc := 206) (j := 2) ([(5, .int (v5 + (-1 : Int32))), (0, .ref v0), (4, .int v4), (6, .int v6)]) dX11_ways_206 rfl (iincv ic_m1) (Nat.le_of_ble_eq_true rfl) rfl ?_
      refine J.goto (pc := 209) (tgt := 90) dX11_ways_209 (by decide) ?_
      refine J.pick [1, 2, 0] rfl ?_
      exact hK90 v0 v4 (v5 + (-1 : Int32)) μ h hN k0
def fX11_ways_90  : Nat → Nat → Int32 → Int32 → Mem → Option (Int32 × Mem)
  | 0, _, _, _, _ => none
  | n + 1, v0, v4, v5, μ =>
    if 0 < v5 then
      (fX11_ways_98 (fX11_ways_90 n) fuel) v0 v4 v5 (0 : Int32) μ
    else
      (gR μ v0 46 0).bind fun a1 =>
      (ldI μ a1 v4).bind fun x4 =>
      some (x4, μ)
set_option maxHeartbeats 4000000 in
theorem tX11_ways_90 {ω : Wd} {l : Launch} (d : Nat) {res : Int32 × Mem} : ∀ n : Nat, ∀ (v0 : Nat) (v4 : Int32) (v5 : Int32) (μ : Mem), fX11_ways_90 n v0 v4 v5 μ = some res → μ.1 = NN → (kd v0).1 = 21 → J ω l mX11_ways (d + 3) 90 [(0, .ref v0), (4, .int v4), (5, .int v5)] [] μ 0 0 (PE (.inl (some (.int res.1))) res.2 True) := by
  intro n
  induction n with
  | zero =>
    intro v0 v4 v5 μ h hN k0
    have h9 : (none : Option (Int32 × Mem)) = some res := h
    cases h9
  | succ n ih =>
    intro v0 v4 v5 μ h hN k0
    unfold fX11_ways_90 at h
    refine J.iload (pc := 90) dX11_ways_90 2 rfl ?_
    rcases ifc h with ⟨hc, h⟩ | ⟨hc, h⟩
    · refine J.zle (pc := 92) (tgt := 212) dX11_ways_92 (by decide) (fun _ => ?_) (fun q => absurd hc q)
      refine J.iconst (pc := 95) dX11_ways_95 ic_0 ?_
      refine J.istore (pc := 96) ([(6, .int (0 : Int32)), (0, .ref v0), (4, .int v4), (5, .int v5)]) dX11_ways_96 (Nat.le_of_ble_eq_true rfl) rfl ?_
      refine J.pick [1, 2, 3, 0] rfl ?_
      exact (tX11_ways_98 d (fX11_ways_90 n) ih fuel) v0 v4 v5 (0 : Int32) μ h hN k0
    · refine J.zle (pc := 92) (tgt := 212) dX11_ways_92 (by decide) (fun q => absurd q hc) (fun _ => ?_)
      refine J.aload_n (pc := 212) dX11_ways_212 rfl 0 rfl ?_
      obtain ⟨a1, e2, h⟩ := bnd h
      have k3 : (kd a1).1 = 0 := gR_k e2
      refine J.fR (pc := 213) dX11_ways_213 fl_RX11_72 k0 (okN hN k0 (by decide)) rfl e2 ?_
      refine J.iload (pc := 216) dX11_ways_216 1 rfl ?_
      obtain ⟨x4, e5, h⟩ := bnd h
      refine J.aI (pc := 218) dX11_ways_218 k3 (okN hN k3 (by decide)) e5 ?_
      cases h
      exact J.iret (pc := 219) dX11_ways_219 rfl ⟨rfl, rfl, hN, trivial⟩
def fX11_ways_51  : Nat → Nat → Int32 → Int32 → Int32 → Mem → Option (Int32 × Mem)
  | 0, _, _, _, _, _ => none
  | n + 1, v0, v3, v4, v5, μ =>
    if v5 < (48 : Int32) then
      (gR μ v0 46 0).bind fun a1 =>
      if v5 = v3 then
        (stI μ a1 v5 (1 : Int32)).bind fun μ4 =>
        (fX11_ways_51 n) v0 v3 v4 (v5 + (1 : Int32)) μ4
      else
        (stI μ a1 v5 (0 : Int32)).bind fun μ7 =>
        (fX11_ways_51 n) v0 v3 v4 (v5 + (1 : Int32)) μ7
    else
      (gR μ v0 39 0).bind fun a10 =>
      (ldI μ a10 v3).bind fun x13 =>
      (fX11_ways_90 fuel) v0 v4 x13 μ
set_option maxHeartbeats 4000000 in
theorem tX11_ways_51 {ω : Wd} {l : Launch} (d : Nat) {res : Int32 × Mem} : ∀ n : Nat, ∀ (v0 : Nat) (v3 : Int32) (v4 : Int32) (v5 : Int32) (μ : Mem), fX11_ways_51 n v0 v3 v4 v5 μ = some res → μ.1 = NN → (kd v0).1 = 21 → J ω l mX11_ways (d + 3) 51 [(0, .ref v0), (3, .int v3), (4, .int v4), (5, .int v5)] [] μ 0 0 (PE (.inl (some (.int res.1))) res.2 True) := by
  intro n
  induction n with
  | zero =>
    intro v0 v3 v4 v5 μ h hN k0
    have h9 : (none : Option (Int32 × Mem)) = some res := h
    cases h9
  | succ n ih =>
    intro v0 v3 v4 v5 μ h hN k0
    unfold fX11_ways_51 at h
    refine J.iload (pc := 51) dX11_ways_51 3 rfl ?_
    refine J.bipush (pc := 53) dX11_ways_53 ib_48 ?_
    rcases ifc h with ⟨hc, h⟩ | ⟨hc, h⟩
    · refine J.cge (pc := 55) (tgt := 82) dX11_ways_55 (by decide) (fun _ => ?_) (fun q => absurd hc q)
      refine J.aload_n (pc := 58) dX11_ways_58 rfl 0 rfl ?_
      obtain ⟨a1, e2, h⟩ := bnd h
      have k3 : (kd a1).1 = 0 := gR_k e2
      refine J.fR (pc := 59) dX11_ways_59 fl_RX11_72 k0 (okN hN k0 (by decide)) rfl e2 ?_
      refine J.iload (pc := 62) dX11_ways_62 3 rfl ?_
      refine J.iload (pc := 64) dX11_ways_64 3 rfl ?_
      refine J.iload_n (pc := 66) dX11_ways_66 rfl 1 rfl ?_
      rcases ifc h with ⟨hc, h⟩ | ⟨hc, h⟩
      · refine J.cne (pc := 67) (tgt := 74) dX11_ways_67 (by decide) (fun _ => ?_) (fun q => absurd hc q)
        refine J.iconst (pc := 70) dX11_ways_70 ic_1 ?_
        refine J.goto (pc := 71) (tgt := 75) dX11_ways_71 (by decide) ?_
        obtain ⟨μ4, e5, h⟩ := bnd h
        have hN6 : μ4.1 = NN := stI_N e5 hN
        refine J.wI (pc := 75) dX11_ways_75 k3 (okN hN k3 (by decide)) e5 ?_
        refine J.iinc (pc := 76) (j := 3) ([(5, .int (v5 + (1 : Int32))), (0, .ref v0), (3, .int v3), (4, .int v4)]) dX11_ways_76 rfl (iincv ic_1) (Nat.le_of_ble_eq_true rfl) rfl ?_
        refine J.goto (pc := 79) (tgt := 51) dX11_ways_79 (by decide) ?_
        refine J.pick [1, 2, 3, 0] rfl ?_
        exact ih v0 v3 v4 (v5 + (1 : Int32)) μ4 h hN6 k0
      · refine J.cne (pc := 67) (tgt := 74) dX11_ways_67 (by decide) (fun q => absurd q hc) (fun _ => ?_)
        refine J.iconst (pc := 74) dX11_ways_74 ic_0 ?_
        obtain ⟨μ7, e8, h⟩ := bnd h
        have hN9 : μ7.1 = NN := stI_N e8 hN
        refine J.wI (pc := 75) dX11_ways_75 k3 (okN hN k3 (by decide)) e8 ?_
        refine J.iinc (pc := 76) (j := 3) ([(5, .int (v5 + (1 : Int32))), (0, .ref v0), (3, .int v3), (4, .int v4)]) dX11_ways_76 rfl (iincv ic_1) (Nat.le_of_ble_eq_true rfl) rfl ?_
        refine J.goto (pc := 79) (tgt := 51) dX11_ways_79 (by decide) ?_
        refine J.pick [1, 2, 3, 0] rfl ?_
        exact ih v0 v3 v4 (v5 + (1 : Int32)) μ7 h hN9 k0
    · refine J.cge (pc := 55) (tgt := 82) dX11_ways_55 (by decide) (fun q => absurd q hc) (fun _ => ?_)
      refine J.aload_n (pc := 82) dX11_ways_82 rfl 0 rfl ?_
      obtain ⟨a10, e11, h⟩ := bnd h
      have k12 : (kd a10).1 = 0 := gR_k e11
      refine J.fR (pc := 83) dX11_ways_83 fl_RX11_60 k0 (okN hN k0 (by decide)) rfl e11 ?_
      refine J.iload_n (pc := 86) dX11_ways_86 rfl 1 rfl ?_
      obtain ⟨x13, e14, h⟩ := bnd h
      refine J.aI (pc := 87) dX11_ways_87 k12 (okN hN k12 (by decide)) e14 ?_
      refine J.istore (pc := 88) ([(5, .int x13), (0, .ref v0), (3, .int v3), (4, .int v4)]) dX11_ways_88 (Nat.le_of_ble_eq_true rfl) rfl ?_
      refine J.pick [1, 3, 0] rfl ?_
      exact (tX11_ways_90 d fuel) v0 v4 x13 μ h hN k0
def fX11_ways (v0 : Nat) (v1 : Int32) (v2 : Int32) (μ : Mem) : Option (Int32 × Mem) :=
  (some (sI μ v0 0 (0 : Int32))).bind fun μ1 =>
  (fX11_placeOf v0 v1 μ1).bind fun (r6, μ5) =>
  if r6 = (-1 : Int32) then
    if (-1 : Int32) = (-1 : Int32) then
      some ((0 : Int32), μ5)
    else
      (fX11_howFar v0 r6 (-1 : Int32) μ5).bind fun (r11, μ10) =>
      if r11 < (9999 : Int32) then
        (fX11_ways_51 fuel) v0 r6 (-1 : Int32) (0 : Int32) μ10
      else
        some ((0 : Int32), μ10)
  else
    (fX11_placeOf v0 v2 μ5).bind fun (r16, μ15) =>
    if r16 = (-1 : Int32) then
      some ((0 : Int32), μ15)
    else
      (fX11_howFar v0 r6 r16 μ15).bind fun (r21, μ20) =>
      if r21 < (9999 : Int32) then
        (fX11_ways_51 fuel) v0 r6 r16 (0 : Int32) μ20
      else
        some ((0 : Int32), μ20)
set_option maxHeartbeats 4000000 in
theorem tX11_ways {ω : Wd} {l : Launch} (d : Nat) {v0 : Nat} {v1 : Int32} {v2 : Int32} {μ : Mem} {res : Int32 × Mem} (h : fX11_ways v0 v1 v2 μ = some res) (hN : μ.1 = NN) (k0 : (kd v0).1 = 21) : Ct ω l mX11_ways (d + 3) [.ref v0, .int v1, .int v2] μ 0 0 (PE (.inl (some (.int res.1))) res.2 True) := by
  refine Ct.of pn_RX11 (Nat.le_of_ble_eq_true rfl) ?_
  show J ω l mX11_ways (d + 3) 0 [(0, .ref v0), (1, .int v1), (2, .int v2)] [] μ 0 0 _
  unfold fX11_ways at h
  refine J.aload_n (pc := 0) dX11_ways_0 rfl 0 rfl ?_
  refine J.iconst (pc := 1) dX11_ways_1 ic_0 ?_
  obtain ⟨μ1, e2, h⟩ := bnd h
  have hN3 : μ1.1 = NN := smN e2 hN
  refine J.qI (pc := 2) dX11_ways_2 fl_RX11_99 k0 (okN hN k0 (by decide)) rfl rfl e2 ?_
  refine J.aload_n (pc := 5) dX11_ways_5 rfl 0 rfl ?_
  refine J.iload_n (pc := 6) dX11_ways_6 rfl 1 rfl ?_
  obtain ⟨⟨r6, μ5⟩, e4, h⟩ := bnd h
  try dsimp only at h
  refine J.callV (Y := mX11_ways) (Z := mX11_placeOf) (pc := 7) (st := []) (k2 := 0) (n2 := 0) dX11_ways_7 ml_RX11_380 mo_X11_placeOf mv_X11_placeOf rfl (tX11_placeOf (d + 1) e4 hN3 k0) k0 (okN hN3 k0 (by decide)).1 (okN hN3 k0 (by decide)).2 cq_11 (by decide) rfl rfl (Nat.le_of_ble_eq_true rfl) (by decide) (by decide) (fun v ν hp => ?_) (fun i ν hp => nrm hp.1)
  obtain ⟨rfl, rfl, hN7, hb8⟩ := QEl hp
  show J _ _ _ _ 10 _ ([.int r6]) _ _ _ _
  refine J.istore_n (pc := 10) ([(3, .int r6), (0, .ref v0), (1, .int v1), (2, .int v2)]) dX11_ways_10 rfl (Nat.le_of_ble_eq_true rfl) rfl ?_
  refine J.iload_n (pc := 11) dX11_ways_11 rfl 0 rfl ?_
  refine J.iconst (pc := 12) dX11_ways_12 ic_m1 ?_
  rcases ifc h with ⟨hc, h⟩ | ⟨hc, h⟩
  · refine J.cne (pc := 13) (tgt := 20) dX11_ways_13 (by decide) (fun _ => ?_) (fun q => absurd hc q)
    refine J.iconst (pc := 16) dX11_ways_16 ic_m1 ?_
    refine J.goto (pc := 17) (tgt := 25) dX11_ways_17 (by decide) ?_
    refine J.istore (pc := 25) ([(4, .int (-1 : Int32)), (3, .int r6), (0, .ref v0), (1, .int v1), (2, .int v2)]) dX11_ways_25 (Nat.le_of_ble_eq_true rfl) rfl ?_
    refine J.iload (pc := 27) dX11_ways_27 0 rfl ?_
    refine J.iconst (pc := 29) dX11_ways_29 ic_m1 ?_
    rcases ifc h with ⟨hc, h⟩ | ⟨hc, h⟩
    · refine J.ceq (pc := 30) (tgt := 46) dX11_ways_30 (by decide) (fun _ => ?_) (fun q => absurd hc q)
      refine J.iconst (pc := 46) dX11_ways_46 ic_0 ?_
      cases h
      exact J.iret (pc := 47) dX11_ways_47 rfl ⟨rfl, rfl, hN7, trivial⟩
    · refine J.ceq (pc := 30) (tgt := 46) dX11_ways_30 (by decide) (fun q => absurd q hc) (fun _ => ?_)
      refine J.aload_n (pc := 33) dX11_ways_33 rfl 2 rfl ?_
      refine J.iload_n (pc := 34) dX11_ways_34 rfl 1 rfl ?_
      refine J.iload (pc := 35) dX11_ways_35 0 rfl ?_
      obtain ⟨⟨r11, μ10⟩, e9, h⟩ := bnd h
      try dsimp only at h
      refine J.callV (Y := mX11_ways) (Z := mX11_howFar) (pc := 37) (st := []) (k2 := 0) (n2 := 0) dX11_ways_37 ml_RX11_374 mo_X11_howFar mv_X11_howFar rfl (tX11_howFar d e9 hN7 k0) k0 (okN hN7 k0 (by decide)).1 (okN hN7 k0 (by decide)).2 cq_11 (by decide) rfl rfl (Nat.le_of_ble_eq_true rfl) (by decide) (by decide) (fun v ν hp => ?_) (fun i ν hp => nrm hp.1)
      obtain ⟨rfl, rfl, hN12, hb13⟩ := QEl hp
      show J _ _ _ _ 40 _ ([.int r11]) _ _ _ _
      refine J.sipush (pc := 40) dX11_ways_40 is_9999 ?_
      rcases ifc h with ⟨hc, h⟩ | ⟨hc, h⟩
      · refine J.clt (pc := 43) (tgt := 48) dX11_ways_43 (by decide) (fun _ => ?_) (fun q => absurd hc q)
        refine J.iconst (pc := 48) dX11_ways_48 ic_0 ?_
        refine J.istore (pc := 49) ([(5, .int (0 : Int32)), (4, .int (-1 : Int32)), (3, .int r6), (0, .ref v0), (1, .int v1), (2, .int v2)]) dX11_ways_49 (Nat.le_of_ble_eq_true rfl) rfl ?_
        refine J.pick [3, 2, 1, 0] rfl ?_
        exact (tX11_ways_51 d fuel) v0 r6 (-1 : Int32) (0 : Int32) μ10 h hN12 k0
      · refine J.clt (pc := 43) (tgt := 48) dX11_ways_43 (by decide) (fun q => absurd q hc) (fun _ => ?_)
        refine J.iconst (pc := 46) dX11_ways_46 ic_0 ?_
        cases h
        exact J.iret (pc := 47) dX11_ways_47 rfl ⟨rfl, rfl, hN12, trivial⟩
  · refine J.cne (pc := 13) (tgt := 20) dX11_ways_13 (by decide) (fun q => absurd q hc) (fun _ => ?_)
    refine J.aload_n (pc := 20) dX11_ways_20 rfl 1 rfl ?_
    refine J.iload_n (pc := 21) dX11_ways_21 rfl 3 rfl ?_
    obtain ⟨⟨r16, μ15⟩, e14, h⟩ := bnd h
    try dsimp only at h
    refine J.callV (Y := mX11_ways) (Z := mX11_placeOf) (pc := 22) (st := []) (k2 := 0) (n2 := 0) dX11_ways_22 ml_RX11_380 mo_X11_placeOf mv_X11_placeOf rfl (tX11_placeOf (d + 1) e14 hN7 k0) k0 (okN hN7 k0 (by decide)).1 (okN hN7 k0 (by decide)).2 cq_11 (by decide) rfl rfl (Nat.le_of_ble_eq_true rfl) (by decide) (by decide) (fun v ν hp => ?_) (fun i ν hp => nrm hp.1)
    obtain ⟨rfl, rfl, hN17, hb18⟩ := QEl hp
    show J _ _ _ _ 25 _ ([.int r16]) _ _ _ _
    refine J.istore (pc := 25) ([(4, .int r16), (3, .int r6), (0, .ref v0), (1, .int v1), (2, .int v2)]) dX11_ways_25 (Nat.le_of_ble_eq_true rfl) rfl ?_
    refine J.iload (pc := 27) dX11_ways_27 0 rfl ?_
    refine J.iconst (pc := 29) dX11_ways_29 ic_m1 ?_
    rcases ifc h with ⟨hc, h⟩ | ⟨hc, h⟩
    · refine J.ceq (pc := 30) (tgt := 46) dX11_ways_30 (by decide) (fun _ => ?_) (fun q => absurd hc q)
      refine J.iconst (pc := 46) dX11_ways_46 ic_0 ?_
      cases h
      exact J.iret (pc := 47) dX11_ways_47 rfl ⟨rfl, rfl, hN17, trivial⟩
    · refine J.ceq (pc := 30) (tgt := 46) dX11_ways_30 (by decide) (fun q => absurd q hc) (fun _ => ?_)
      refine J.aload_n (pc := 33) dX11_ways_33 rfl 2 rfl ?_
      refine J.iload_n (pc := 34) dX11_ways_34 rfl 1 rfl ?_
      refine J.iload (pc := 35) dX11_ways_35 0 rfl ?_
      obtain ⟨⟨r21, μ20⟩, e19, h⟩ := bnd h
      try dsimp only at h
      refine J.callV (Y := mX11_ways) (Z := mX11_howFar) (pc := 37) (st := []) (k2 := 0) (n2 := 0) dX11_ways_37 ml_RX11_374 mo_X11_howFar mv_X11_howFar rfl (tX11_howFar d e19 hN17 k0) k0 (okN hN17 k0 (by decide)).1 (okN hN17 k0 (by decide)).2 cq_11 (by decide) rfl rfl (Nat.le_of_ble_eq_true rfl) (by decide) (by decide) (fun v ν hp => ?_) (fun i ν hp => nrm hp.1)
      obtain ⟨rfl, rfl, hN22, hb23⟩ := QEl hp
      show J _ _ _ _ 40 _ ([.int r21]) _ _ _ _
      refine J.sipush (pc := 40) dX11_ways_40 is_9999 ?_
      rcases ifc h with ⟨hc, h⟩ | ⟨hc, h⟩
      · refine J.clt (pc := 43) (tgt := 48) dX11_ways_43 (by decide) (fun _ => ?_) (fun q => absurd hc q)
        refine J.iconst (pc := 48) dX11_ways_48 ic_0 ?_
        refine J.istore (pc := 49) ([(5, .int (0 : Int32)), (4, .int r16), (3, .int r6), (0, .ref v0), (1, .int v1), (2, .int v2)]) dX11_ways_49 (Nat.le_of_ble_eq_true rfl) rfl ?_
        refine J.pick [3, 2, 1, 0] rfl ?_
        exact (tX11_ways_51 d fuel) v0 r6 r16 (0 : Int32) μ20 h hN22 k0
      · refine J.clt (pc := 43) (tgt := 48) dX11_ways_43 (by decide) (fun q => absurd q hc) (fun _ => ?_)
        refine J.iconst (pc := 46) dX11_ways_46 ic_0 ?_
        cases h
        exact J.iret (pc := 47) dX11_ways_47 rfl ⟨rfl, rfl, hN22, trivial⟩
def fX11_years_41  : Nat → Nat → Int32 → Int32 → Int32 → Int32 → Mem → Option (Int32 × Mem)
  | 0, _, _, _, _, _, _ => none
  | n + 1, v0, v2, v3, v4, v5, μ =>
    if v5 < v2 then
      (fX11_happens v0 μ).bind fun μ2 =>
      (fX11_dayGoes v0 (79 : Int32) μ2).bind fun μ6 =>
      (fX11_bits (μ6.2.1 v0 42)).bind fun r10 =>
      (fX11_years_41 n) v0 v2 v3 (v4 + r10) (v5 + (1 : Int32)) μ6
    else
      if v3 = 0 then
        some (v4, μ)
      else
        if v3 = (1 : Int32) then
          (fX11_metAll v0 (79 : Int32) μ).bind fun r14 =>
          (fX11_metAll v0 (0 : Int32) μ).bind fun r18 =>
          some ((r14 - r18), μ)
        else
          (fX11_inked v0 (79 : Int32) μ).bind fun r22 =>
          some (r22, μ)
set_option maxHeartbeats 4000000 in
theorem tX11_years_41 {ω : Wd} {l : Launch} (d : Nat) {res : Int32 × Mem} : ∀ n : Nat, ∀ (v0 : Nat) (v2 : Int32) (v3 : Int32) (v4 : Int32) (v5 : Int32) (μ : Mem), fX11_years_41 n v0 v2 v3 v4 v5 μ = some res → μ.1 = NN → (kd v0).1 = 21 → J ω l mX11_years (d + 5) 41 [(0, .ref v0), (2, .int v2), (3, .int v3), (4, .int v4), (5, .int v5)] [] μ 0 0 (PE (.inl (some (.int res.1))) res.2 True) := by
  intro n
  induction n with
  | zero =>
    intro v0 v2 v3 v4 v5 μ h hN k0
    have h9 : (none : Option (Int32 × Mem)) = some res := h
    cases h9
  | succ n ih =>
    intro v0 v2 v3 v4 v5 μ h hN k0
    unfold fX11_years_41 at h
    refine J.iload (pc := 41) dX11_years_41 4 rfl ?_
    refine J.iload_n (pc := 43) dX11_years_43 rfl 1 rfl ?_
    rcases ifc h with ⟨hc, h⟩ | ⟨hc, h⟩
    · refine J.cge (pc := 44) (tgt := 75) dX11_years_44 (by decide) (fun _ => ?_) (fun q => absurd hc q)
      refine J.aload_n (pc := 47) dX11_years_47 rfl 0 rfl ?_
      obtain ⟨μ2, e1, h⟩ := bnd h
      refine J.callV (Y := mX11_years) (Z := mX11_happens) (pc := 48) (st := []) (k2 := 0) (n2 := 0) dX11_years_48 ml_RX11_439 mo_X11_happens mv_X11_happens rfl (tX11_happens (d + 2) e1 hN k0) k0 (okN hN k0 (by decide)).1 (okN hN k0 (by decide)).2 cq_11 (by decide) rfl rfl (Nat.le_of_ble_eq_true rfl) (by decide) (by decide) (fun v ν hp => ?_) (fun i ν hp => nrm hp.1)
      obtain ⟨rfl, rfl, hN3, hb4⟩ := QEl hp
      show J _ _ _ _ 51 _ ([]) _ _ _ _
      refine J.aload_n (pc := 51) dX11_years_51 rfl 0 rfl ?_
      refine J.bipush (pc := 52) dX11_years_52 ib_79 ?_
      obtain ⟨μ6, e5, h⟩ := bnd h
      refine J.callV (Y := mX11_years) (Z := mX11_dayGoes) (pc := 54) (st := []) (k2 := 0) (n2 := 0) dX11_years_54 ml_RX11_341 mo_X11_dayGoes mv_X11_dayGoes rfl (tX11_dayGoes d e5 hN3 k0) k0 (okN hN3 k0 (by decide)).1 (okN hN3 k0 (by decide)).2 cq_11 (by decide) rfl rfl (Nat.le_of_ble_eq_true rfl) (by decide) (by decide) (fun v ν hp => ?_) (fun i ν hp => nrm hp.1)
      obtain ⟨rfl, rfl, hN7, hb8⟩ := QEl hp
      show J _ _ _ _ 57 _ ([]) _ _ _ _
      refine J.iload (pc := 57) dX11_years_57 3 rfl ?_
      refine J.aload_n (pc := 59) dX11_years_59 rfl 0 rfl ?_
      refine J.fI (pc := 60) dX11_years_60 fl_RX11_323 k0 (okN hN7 k0 (by decide)) (Or.inl rfl) ?_
      obtain ⟨r10, e9, h⟩ := bnd h
      refine J.callS (Y := mX11_years) (Z := mX11_bits) (pc := 63) (st := [.int v4]) (k2 := 0) (n2 := 0) dX11_years_63 ml_RX11_442 mo_X11_bits ms_X11_bits rfl (tX11_bits (d + 4) e9 hN7 ) rfl rfl (Nat.le_of_ble_eq_true rfl) (by decide) (by decide) (fun v ν hp => ?_) (fun i ν hp => nrm hp.1)
      obtain ⟨rfl, rfl, hN11, hb12⟩ := QEl hp
      show J _ _ _ _ 66 _ ([.int r10, .int v4]) _ _ _ _
      refine J.iadd (pc := 66) dX11_years_66 ?_
      refine J.istore (pc := 67) ([(4, .int (v4 + r10)), (0, .ref v0), (2, .int v2), (3, .int v3), (5, .int v5)]) dX11_years_67 (Nat.le_of_ble_eq_true rfl) rfl ?_
      refine J.iinc (pc := 69) (j := 4) ([(5, .int (v5 + (1 : Int32))), (4, .int (v4 + r10)), (0, .ref v0), (2, .int v2), (3, .int v3)]) dX11_years_69 rfl (iincv ic_1) (Nat.le_of_ble_eq_true rfl) rfl ?_
      refine J.goto (pc := 72) (tgt := 41) dX11_years_72 (by decide) ?_
      refine J.pick [2, 3, 4, 1, 0] rfl ?_
      exact ih v0 v2 v3 (v4 + r10) (v5 + (1 : Int32)) μ6 h hN11 k0
    · refine J.cge (pc := 44) (tgt := 75) dX11_years_44 (by decide) (fun q => absurd q hc) (fun _ => ?_)
      refine J.iload_n (pc := 75) dX11_years_75 rfl 2 rfl ?_
      rcases ifc h with ⟨hc, h⟩ | ⟨hc, h⟩
      · refine J.zne (pc := 76) (tgt := 84) dX11_years_76 (by decide) (fun _ => ?_) (fun q => absurd hc q)
        refine J.iload (pc := 79) dX11_years_79 3 rfl ?_
        refine J.goto (pc := 81) (tgt := 110) dX11_years_81 (by decide) ?_
        cases h
        exact J.iret (pc := 110) dX11_years_110 rfl ⟨rfl, rfl, hN, trivial⟩
      · refine J.zne (pc := 76) (tgt := 84) dX11_years_76 (by decide) (fun q => absurd q hc) (fun _ => ?_)
        refine J.iload_n (pc := 84) dX11_years_84 rfl 2 rfl ?_
        refine J.iconst (pc := 85) dX11_years_85 ic_1 ?_
        rcases ifc h with ⟨hc, h⟩ | ⟨hc, h⟩
        · refine J.cne (pc := 86) (tgt := 104) dX11_years_86 (by decide) (fun _ => ?_) (fun q => absurd hc q)
          refine J.aload_n (pc := 89) dX11_years_89 rfl 0 rfl ?_
          refine J.bipush (pc := 90) dX11_years_90 ib_79 ?_
          obtain ⟨r14, e13, h⟩ := bnd h
          refine J.callV (Y := mX11_years) (Z := mX11_metAll) (pc := 92) (st := []) (k2 := 0) (n2 := 0) dX11_years_92 ml_RX11_359 mo_X11_metAll mv_X11_metAll rfl (tX11_metAll (d + 4) e13 hN k0) k0 (okN hN k0 (by decide)).1 (okN hN k0 (by decide)).2 cq_11 (by decide) rfl rfl (Nat.le_of_ble_eq_true rfl) (by decide) (by decide) (fun v ν hp => ?_) (fun i ν hp => nrm hp.1)
          obtain ⟨rfl, rfl, hN15, hb16⟩ := QEl hp
          show J _ _ _ _ 95 _ ([.int r14]) _ _ _ _
          refine J.aload_n (pc := 95) dX11_years_95 rfl 0 rfl ?_
          refine J.iconst (pc := 96) dX11_years_96 ic_0 ?_
          obtain ⟨r18, e17, h⟩ := bnd h
          refine J.callV (Y := mX11_years) (Z := mX11_metAll) (pc := 97) (st := [.int r14]) (k2 := 0) (n2 := 0) dX11_years_97 ml_RX11_359 mo_X11_metAll mv_X11_metAll rfl (tX11_metAll (d + 4) e17 hN15 k0) k0 (okN hN15 k0 (by decide)).1 (okN hN15 k0 (by decide)).2 cq_11 (by decide) rfl rfl (Nat.le_of_ble_eq_true rfl) (by decide) (by decide) (fun v ν hp => ?_) (fun i ν hp => nrm hp.1)
          obtain ⟨rfl, rfl, hN19, hb20⟩ := QEl hp
          show J _ _ _ _ 100 _ ([.int r18, .int r14]) _ _ _ _
          refine J.isub (pc := 100) dX11_years_100 ?_
          refine J.goto (pc := 101) (tgt := 110) dX11_years_101 (by decide) ?_
          cases h
          exact J.iret (pc := 110) dX11_years_110 rfl ⟨rfl, rfl, hN19, trivial⟩
        · refine J.cne (pc := 86) (tgt := 104) dX11_years_86 (by decide) (fun q => absurd q hc) (fun _ => ?_)
          refine J.aload_n (pc := 104) dX11_years_104 rfl 0 rfl ?_
          refine J.bipush (pc := 105) dX11_years_105 ib_79 ?_
          obtain ⟨r22, e21, h⟩ := bnd h
          refine J.callV (Y := mX11_years) (Z := mX11_inked) (pc := 107) (st := []) (k2 := 0) (n2 := 0) dX11_years_107 ml_RX11_353 mo_X11_inked mv_X11_inked rfl (tX11_inked (d + 3) e21 hN k0) k0 (okN hN k0 (by decide)).1 (okN hN k0 (by decide)).2 cq_11 (by decide) rfl rfl (Nat.le_of_ble_eq_true rfl) (by decide) (by decide) (fun v ν hp => ?_) (fun i ν hp => nrm hp.1)
          obtain ⟨rfl, rfl, hN23, hb24⟩ := QEl hp
          show J _ _ _ _ 110 _ ([.int r22]) _ _ _ _
          cases h
          exact J.iret (pc := 110) dX11_years_110 rfl ⟨rfl, rfl, hN23, trivial⟩
def fX11_years (v0 : Nat) (v1 : Int32) (v2 : Int32) (v3 : Int32) (μ : Mem) : Option (Int32 × Mem) :=
  (some (sI μ v0 0 (0 : Int32))).bind fun μ1 =>
  (fX11_isWhat v0 v3 (2 : Int32) μ1).bind fun (r6, μ5) =>
  if r6 = 0 then
    some ((0 : Int32), μ5)
  else
    (fX11_isSoon v0 v2 (0 : Int32) (2 : Int32) μ5).bind fun (r11, μ10) =>
    if r11 = 0 then
      some ((0 : Int32), μ10)
    else
      (fX11_tries v0 μ10).bind fun μ15 =>
      (some (sI μ15 v0 53 v1)).bind fun μ18 =>
      (fX11_years_41 fuel) v0 v2 v3 (0 : Int32) (0 : Int32) μ18
set_option maxHeartbeats 4000000 in
theorem tX11_years {ω : Wd} {l : Launch} (d : Nat) {v0 : Nat} {v1 : Int32} {v2 : Int32} {v3 : Int32} {μ : Mem} {res : Int32 × Mem} (h : fX11_years v0 v1 v2 v3 μ = some res) (hN : μ.1 = NN) (k0 : (kd v0).1 = 21) : Ct ω l mX11_years (d + 5) [.ref v0, .int v1, .int v2, .int v3] μ 0 0 (PE (.inl (some (.int res.1))) res.2 True) := by
  refine Ct.of pn_RX11 (Nat.le_of_ble_eq_true rfl) ?_
  show J ω l mX11_years (d + 5) 0 [(0, .ref v0), (1, .int v1), (2, .int v2), (3, .int v3)] [] μ 0 0 _
  unfold fX11_years at h
  refine J.aload_n (pc := 0) dX11_years_0 rfl 0 rfl ?_
  refine J.iconst (pc := 1) dX11_years_1 ic_0 ?_
  obtain ⟨μ1, e2, h⟩ := bnd h
  have hN3 : μ1.1 = NN := smN e2 hN
  refine J.qI (pc := 2) dX11_years_2 fl_RX11_99 k0 (okN hN k0 (by decide)) rfl rfl e2 ?_
  refine J.aload_n (pc := 5) dX11_years_5 rfl 0 rfl ?_
  refine J.iload_n (pc := 6) dX11_years_6 rfl 3 rfl ?_
  refine J.iconst (pc := 7) dX11_years_7 ic_2 ?_
  obtain ⟨⟨r6, μ5⟩, e4, h⟩ := bnd h
  try dsimp only at h
  refine J.callV (Y := mX11_years) (Z := mX11_isWhat) (pc := 8) (st := []) (k2 := 0) (n2 := 0) dX11_years_8 ml_RX11_365 mo_X11_isWhat mv_X11_isWhat rfl (tX11_isWhat (d + 3) e4 hN3 k0) k0 (okN hN3 k0 (by decide)).1 (okN hN3 k0 (by decide)).2 cq_11 (by decide) rfl rfl (Nat.le_of_ble_eq_true rfl) (by decide) (by decide) (fun v ν hp => ?_) (fun i ν hp => nrm hp.1)
  obtain ⟨rfl, rfl, hN7, hb8⟩ := QEl hp
  show J _ _ _ _ 11 _ ([.int r6]) _ _ _ _
  rcases ifc h with ⟨hc, h⟩ | ⟨hc, h⟩
  · refine J.zeq (pc := 11) (tgt := 24) dX11_years_11 (by decide) (fun _ => ?_) (fun q => absurd hc q)
    refine J.iconst (pc := 24) dX11_years_24 ic_0 ?_
    cases h
    exact J.iret (pc := 25) dX11_years_25 rfl ⟨rfl, rfl, hN7, trivial⟩
  · refine J.zeq (pc := 11) (tgt := 24) dX11_years_11 (by decide) (fun q => absurd q hc) (fun _ => ?_)
    refine J.aload_n (pc := 14) dX11_years_14 rfl 0 rfl ?_
    refine J.iload_n (pc := 15) dX11_years_15 rfl 2 rfl ?_
    refine J.iconst (pc := 16) dX11_years_16 ic_0 ?_
    refine J.iconst (pc := 17) dX11_years_17 ic_2 ?_
    obtain ⟨⟨r11, μ10⟩, e9, h⟩ := bnd h
    try dsimp only at h
    refine J.callV (Y := mX11_years) (Z := mX11_isSoon) (pc := 18) (st := []) (k2 := 0) (n2 := 0) dX11_years_18 ml_RX11_395 mo_X11_isSoon mv_X11_isSoon rfl (tX11_isSoon (d + 3) e9 hN7 k0) k0 (okN hN7 k0 (by decide)).1 (okN hN7 k0 (by decide)).2 cq_11 (by decide) rfl rfl (Nat.le_of_ble_eq_true rfl) (by decide) (by decide) (fun v ν hp => ?_) (fun i ν hp => nrm hp.1)
    obtain ⟨rfl, rfl, hN12, hb13⟩ := QEl hp
    show J _ _ _ _ 21 _ ([.int r11]) _ _ _ _
    rcases ifc h with ⟨hc, h⟩ | ⟨hc, h⟩
    · refine J.zne (pc := 21) (tgt := 26) dX11_years_21 (by decide) (fun _ => ?_) (fun q => absurd hc q)
      refine J.iconst (pc := 24) dX11_years_24 ic_0 ?_
      cases h
      exact J.iret (pc := 25) dX11_years_25 rfl ⟨rfl, rfl, hN12, trivial⟩
    · refine J.zne (pc := 21) (tgt := 26) dX11_years_21 (by decide) (fun q => absurd q hc) (fun _ => ?_)
      refine J.aload_n (pc := 26) dX11_years_26 rfl 0 rfl ?_
      obtain ⟨μ15, e14, h⟩ := bnd h
      refine J.callV (Y := mX11_years) (Z := mX11_tries) (pc := 27) (st := []) (k2 := 0) (n2 := 0) dX11_years_27 ml_RX11_389 mo_X11_tries mv_X11_tries rfl (tX11_tries (d + 4) e14 hN12 k0) k0 (okN hN12 k0 (by decide)).1 (okN hN12 k0 (by decide)).2 cq_11 (by decide) rfl rfl (Nat.le_of_ble_eq_true rfl) (by decide) (by decide) (fun v ν hp => ?_) (fun i ν hp => nrm hp.1)
      obtain ⟨rfl, rfl, hN16, hb17⟩ := QEl hp
      show J _ _ _ _ 30 _ ([]) _ _ _ _
      refine J.aload_n (pc := 30) dX11_years_30 rfl 0 rfl ?_
      refine J.iload_n (pc := 31) dX11_years_31 rfl 1 rfl ?_
      obtain ⟨μ18, e19, h⟩ := bnd h
      have hN20 : μ18.1 = NN := smN e19 hN16
      refine J.qI (pc := 32) dX11_years_32 fl_RX11_429 k0 (okN hN16 k0 (by decide)) rfl rfl e19 ?_
      refine J.iconst (pc := 35) dX11_years_35 ic_0 ?_
      refine J.istore (pc := 36) ([(4, .int (0 : Int32)), (0, .ref v0), (1, .int v1), (2, .int v2), (3, .int v3)]) dX11_years_36 (Nat.le_of_ble_eq_true rfl) rfl ?_
      refine J.iconst (pc := 38) dX11_years_38 ic_0 ?_
      refine J.istore (pc := 39) ([(5, .int (0 : Int32)), (4, .int (0 : Int32)), (0, .ref v0), (1, .int v1), (2, .int v2), (3, .int v3)]) dX11_years_39 (Nat.le_of_ble_eq_true rfl) rfl ?_
      refine J.pick [2, 4, 5, 1, 0] rfl ?_
      exact (tX11_years_41 d fuel) v0 v2 v3 (0 : Int32) (0 : Int32) μ18 h hN20 k0
