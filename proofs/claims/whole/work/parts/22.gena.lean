def fX10_deed (v0 : Nat) (v1 : Int32) (v2 : Int32) (μ : Mem) : Option ((Int32 ⊕ Nat)) :=
  (fX10_needDeed v0 v1 μ).bind fun
  | .inl _ =>
    (fX10_needWhat v0 v2 (5 : Int32)).bind fun
    | .inl _ =>
      if v2 = (0 : Int32) then
        (gR μ v0 4 11).bind fun a7 =>
        (gR μ a7 3 0).bind fun a10 =>
        (ldI μ a10 v1).bind fun x13 =>
        some (.inl x13)
      else
      if v2 = (1 : Int32) then
        (gR μ v0 7 19).bind fun a15 =>
        some (.inl (fX10_bitsOfDeed (μ.2.2.1 a15 1) v1))
      else
      if v2 = (2 : Int32) then
        (gR μ v0 7 19).bind fun a21 =>
        some (.inl (fX10_bitsOfDeed (μ.2.2.1 a21 2) v1))
      else
      if v2 = (3 : Int32) then
        (fX10_inkOfDeed v0 v1 μ).bind fun r28 =>
        some (.inl r28)
      else
      (fX10_peopleOfDeed v0 v1 μ).bind fun r32 =>
      some (.inl r32)
    | .inr i35 =>
      some (.inr i35)
  | .inr i36 =>
    some (.inr i36)
set_option maxHeartbeats 4000000 in
theorem tX10_deed {ω : Wd} {l : Launch} (d : Nat) {v0 : Nat} {v1 : Int32} {v2 : Int32} {μ : Mem} {res : (Int32 ⊕ Nat)} (h : fX10_deed v0 v1 v2 μ = some res) (hN : μ.1 = NN) (k0 : (kd v0).1 = 20) : Ct ω l mX10_deed (d + 9) [.ref v0, .int v1, .int v2] μ 2 12 (PE (oI res) μ True) := by
  refine Ct.of pn_RX10 (Nat.le_of_ble_eq_true rfl) ?_
  show J ω l mX10_deed (d + 9) 0 [(0, .ref v0), (1, .int v1), (2, .int v2)] [] μ 2 12 _
  unfold fX10_deed at h
  refine J.aload_n (pc := 0) dX10_deed_0 rfl 0 rfl ?_
  refine J.iload_n (pc := 1) dX10_deed_1 rfl 1 rfl ?_
  obtain ⟨q, e1, h⟩ := bnd h
  rcases q with u | i36
  · try dsimp only at h
    refine J.callV (Y := mX10_deed) (Z := mX10_needDeed) (pc := 2) (st := []) (k2 := 1) (n2 := 6) dX10_deed_2 ml_RX10_185 mo_X10_needDeed mv_X10_needDeed rfl (tX10_needDeed d e1 hN k0) k0 (okN hN k0 (by decide)).1 (okN hN k0 (by decide)).2 cq_10 (by decide) rfl rfl (Nat.le_of_ble_eq_true rfl) (by decide) (by decide) (fun v ν hp => ?_) (fun i ν hp => nrm hp.1)
    obtain ⟨rfl, rfl, hN2, hb3⟩ := QEl hp
    show J _ _ _ _ 5 _ ([]) _ _ _ _
    refine J.aload_n (pc := 5) dX10_deed_5 rfl 0 rfl ?_
    refine J.iload_n (pc := 6) dX10_deed_6 rfl 2 rfl ?_
    refine J.iconst (pc := 7) dX10_deed_7 ic_5 ?_
    obtain ⟨q, e4, h⟩ := bnd h
    rcases q with u | i35
    · try dsimp only at h
      refine J.callV (Y := mX10_deed) (Z := mX10_needWhat) (pc := 8) (st := []) (k2 := 0) (n2 := 0) dX10_deed_8 ml_RX10_140 mo_X10_needWhat mv_X10_needWhat rfl (tX10_needWhat d e4 hN2 k0) k0 (okN hN2 k0 (by decide)).1 (okN hN2 k0 (by decide)).2 cq_10 (by decide) rfl rfl (Nat.le_of_ble_eq_true rfl) (by decide) (by decide) (fun v ν hp => ?_) (fun i ν hp => nrm hp.1)
      obtain ⟨rfl, rfl, hN5, hb6⟩ := QEl hp
      show J _ _ _ _ 11 _ ([]) _ _ _ _
      refine J.iload_n (pc := 11) dX10_deed_11 rfl 2 rfl ?_
      rcases ifc h with ⟨hc, h⟩ | ⟨ns37, h⟩
      · refine J.tableIn (pc := 12) (off := 32) (tgt := 44) dX10_deed_12 (by rw [hc]; decide) (by rw [hc]; decide) (by rw [hc]; decide) (by decide) ?_
        refine J.aload_n (pc := 44) dX10_deed_44 rfl 0 rfl ?_
        obtain ⟨a7, e8, h⟩ := bnd h
        have k9 : (kd a7).1 = 11 := gR_k e8
        refine J.fR (pc := 45) dX10_deed_45 fl_RX10_26 k0 (okN hN5 k0 (by decide)) rfl e8 ?_
        obtain ⟨a10, e11, h⟩ := bnd h
        have k12 : (kd a10).1 = 0 := gR_k e11
        refine J.fR (pc := 48) dX10_deed_48 fl_RX10_188 k9 (okN hN5 k9 (by decide)) rfl e11 ?_
        refine J.iload_n (pc := 51) dX10_deed_51 rfl 1 rfl ?_
        obtain ⟨x13, e14, h⟩ := bnd h
        refine J.aI (pc := 52) dX10_deed_52 k12 (okN hN5 k12 (by decide)) e14 ?_
        cases h
        exact J.iret (pc := 53) dX10_deed_53 rfl ⟨rfl, rfl, hN5, trivial⟩
      rcases ifc h with ⟨hc, h⟩ | ⟨ns38, h⟩
      · refine J.tableIn (pc := 12) (off := 42) (tgt := 54) dX10_deed_12 (by rw [hc]; decide) (by rw [hc]; decide) (by rw [hc]; decide) (by decide) ?_
        refine J.aload_n (pc := 54) dX10_deed_54 rfl 0 rfl ?_
        obtain ⟨a15, e16, h⟩ := bnd h
        have k17 : (kd a15).1 = 19 := gR_k e16
        refine J.fR (pc := 55) dX10_deed_55 fl_RX10_45 k0 (okN hN5 k0 (by decide)) rfl e16 ?_
        refine J.fL (pc := 58) dX10_deed_58 fl_RX10_191 k17 (okN hN5 k17 (by decide)) rfl ?_
        refine J.iload_n (pc := 61) dX10_deed_61 rfl 1 rfl ?_
        refine J.callS (Y := mX10_deed) (Z := mX10_bitsOfDeed) (pc := 62) (st := []) (k2 := 0) (n2 := 0) dX10_deed_62 ml_RX10_194 mo_X10_bitsOfDeed ms_X10_bitsOfDeed rfl (tX10_bitsOfDeed (d + 8) (μ.2.2.1 a15 1) v1 μ hN5 ) rfl rfl (Nat.le_of_ble_eq_true rfl) (by decide) (by decide) (fun v ν hp => ?_) (fun i ν hp => nrm hp.1)
        obtain ⟨rfl, rfl, hN19, hb20⟩ := QEl hp
        show J _ _ _ _ 65 _ ([.int (fX10_bitsOfDeed (μ.2.2.1 a15 1) v1)]) _ _ _ _
        cases h
        exact J.iret (pc := 65) dX10_deed_65 rfl ⟨rfl, rfl, hN19, trivial⟩
      rcases ifc h with ⟨hc, h⟩ | ⟨ns39, h⟩
      · refine J.tableIn (pc := 12) (off := 54) (tgt := 66) dX10_deed_12 (by rw [hc]; decide) (by rw [hc]; decide) (by rw [hc]; decide) (by decide) ?_
        refine J.aload_n (pc := 66) dX10_deed_66 rfl 0 rfl ?_
        obtain ⟨a21, e22, h⟩ := bnd h
        have k23 : (kd a21).1 = 19 := gR_k e22
        refine J.fR (pc := 67) dX10_deed_67 fl_RX10_45 k0 (okN hN5 k0 (by decide)) rfl e22 ?_
        refine J.fL (pc := 70) dX10_deed_70 fl_RX10_161 k23 (okN hN5 k23 (by decide)) rfl ?_
        refine J.iload_n (pc := 73) dX10_deed_73 rfl 1 rfl ?_
        refine J.callS (Y := mX10_deed) (Z := mX10_bitsOfDeed) (pc := 74) (st := []) (k2 := 0) (n2 := 0) dX10_deed_74 ml_RX10_194 mo_X10_bitsOfDeed ms_X10_bitsOfDeed rfl (tX10_bitsOfDeed (d + 8) (μ.2.2.1 a21 2) v1 μ hN5 ) rfl rfl (Nat.le_of_ble_eq_true rfl) (by decide) (by decide) (fun v ν hp => ?_) (fun i ν hp => nrm hp.1)
        obtain ⟨rfl, rfl, hN25, hb26⟩ := QEl hp
        show J _ _ _ _ 77 _ ([.int (fX10_bitsOfDeed (μ.2.2.1 a21 2) v1)]) _ _ _ _
        cases h
        exact J.iret (pc := 77) dX10_deed_77 rfl ⟨rfl, rfl, hN25, trivial⟩
      rcases ifc h with ⟨hc, h⟩ | ⟨ns40, h⟩
      · refine J.tableIn (pc := 12) (off := 66) (tgt := 78) dX10_deed_12 (by rw [hc]; decide) (by rw [hc]; decide) (by rw [hc]; decide) (by decide) ?_
        refine J.aload_n (pc := 78) dX10_deed_78 rfl 0 rfl ?_
        refine J.iload_n (pc := 79) dX10_deed_79 rfl 1 rfl ?_
        obtain ⟨r28, e27, h⟩ := bnd h
        refine J.callV (Y := mX10_deed) (Z := mX10_inkOfDeed) (pc := 80) (st := []) (k2 := 0) (n2 := 0) dX10_deed_80 ml_RX10_198 mo_X10_inkOfDeed mv_X10_inkOfDeed rfl (tX10_inkOfDeed (d + 8) e27 hN5 k0) k0 (okN hN5 k0 (by decide)).1 (okN hN5 k0 (by decide)).2 cq_10 (by decide) rfl rfl (Nat.le_of_ble_eq_true rfl) (by decide) (by decide) (fun v ν hp => ?_) (fun i ν hp => nrm hp.1)
        obtain ⟨rfl, rfl, hN29, hb30⟩ := QEl hp
        show J _ _ _ _ 83 _ ([.int r28]) _ _ _ _
        cases h
        exact J.iret (pc := 83) dX10_deed_83 rfl ⟨rfl, rfl, hN29, trivial⟩
      refine J.tableOut (pc := 12) (tgt := 84) dX10_deed_12 (sw_out (vs := [(0 : Int32), (1 : Int32), (2 : Int32), (3 : Int32)]) (List.forall_mem_cons.mpr ⟨ns37, (List.forall_mem_cons.mpr ⟨ns38, (List.forall_mem_cons.mpr ⟨ns39, (List.forall_mem_cons.mpr ⟨ns40, (fun _ q => nomatch q)⟩)⟩)⟩)⟩) (sw_hv (by decide))) (by decide) ?_
      refine J.aload_n (pc := 84) dX10_deed_84 rfl 0 rfl ?_
      refine J.iload_n (pc := 85) dX10_deed_85 rfl 1 rfl ?_
      obtain ⟨r32, e31, h⟩ := bnd h
      refine J.callV (Y := mX10_deed) (Z := mX10_peopleOfDeed) (pc := 86) (st := []) (k2 := 0) (n2 := 0) dX10_deed_86 ml_RX10_202 mo_X10_peopleOfDeed mv_X10_peopleOfDeed rfl (tX10_peopleOfDeed (d + 8) e31 hN5 k0) k0 (okN hN5 k0 (by decide)).1 (okN hN5 k0 (by decide)).2 cq_10 (by decide) rfl rfl (Nat.le_of_ble_eq_true rfl) (by decide) (by decide) (fun v ν hp => ?_) (fun i ν hp => nrm hp.1)
      obtain ⟨rfl, rfl, hN33, hb34⟩ := QEl hp
      show J _ _ _ _ 89 _ ([.int r32]) _ _ _ _
      cases h
      exact J.iret (pc := 89) dX10_deed_89 rfl ⟨rfl, rfl, hN33, trivial⟩
    · try dsimp only at h
      refine J.callV (Y := mX10_deed) (Z := mX10_needWhat) (pc := 8) (st := []) (k2 := 0) (n2 := 0) dX10_deed_8 ml_RX10_140 mo_X10_needWhat mv_X10_needWhat rfl (tX10_needWhat d e4 hN2 k0) k0 (okN hN2 k0 (by decide)).1 (okN hN2 k0 (by decide)).2 cq_10 (by decide) rfl rfl (Nat.le_of_ble_eq_true rfl) (by decide) (by decide) (fun v ν hp => nlm hp.1) (fun i ν hp => ?_)
      obtain ⟨rfl, rfl, hN9, -⟩ := QEr hp
      cases h
      exact JX.out rfl ⟨rfl, rfl, hN9, trivial⟩
  · try dsimp only at h
    refine J.callV (Y := mX10_deed) (Z := mX10_needDeed) (pc := 2) (st := []) (k2 := 1) (n2 := 6) dX10_deed_2 ml_RX10_185 mo_X10_needDeed mv_X10_needDeed rfl (tX10_needDeed d e1 hN k0) k0 (okN hN k0 (by decide)).1 (okN hN k0 (by decide)).2 cq_10 (by decide) rfl rfl (Nat.le_of_ble_eq_true rfl) (by decide) (by decide) (fun v ν hp => nlm hp.1) (fun i ν hp => ?_)
    obtain ⟨rfl, rfl, hN9, -⟩ := QEr hp
    cases h
    exact JX.out rfl ⟨rfl, rfl, hN9, trivial⟩
def fL_deed (v0 : Nat) (v1 : Int32) (v2 : Int32) (v3 : Nat) (μ : Mem) : Option (Int32 × Mem) :=
  (fX10_deed v0 v1 v2 μ).bind fun
  | .inl r2 =>
    (stL μ v3 (0 : Int32) (r2.toInt64)).bind fun μ5 =>
    some ((0 : Int32), μ5)
  | .inr i8 =>
    if i8 = 0 then some ((1 : Int32), μ) else
    none
set_option maxHeartbeats 4000000 in
theorem tL_deed {ω : Wd} {l : Launch} (d : Nat) {v0 : Nat} {v1 : Int32} {v2 : Int32} {v3 : Nat} {μ : Mem} {res : Int32 × Mem} (h : fL_deed v0 v1 v2 v3 μ = some res) (hN : μ.1 = NN) (k0 : (kd v0).1 = 20) (k3 : (kd v3).1 = 1) : Ct ω l mL_deed (d + 10) [.ref v0, .int v1, .int v2, .ref v3] μ 2 12 (PE (.inl (some (.int res.1))) res.2 True) := by
  refine Ct.of pn_RL (Nat.le_of_ble_eq_true rfl) ?_
  show J ω l mL_deed (d + 10) 0 [(0, .ref v0), (1, .int v1), (2, .int v2), (3, .ref v3)] [] μ 2 12 _
  unfold fL_deed at h
  refine J.aload_n (pc := 0) dL_deed_0 rfl 3 rfl ?_
  refine J.iconst (pc := 1) dL_deed_1 ic_0 ?_
  refine J.aload_n (pc := 2) dL_deed_2 rfl 0 rfl ?_
  refine J.iload_n (pc := 3) dL_deed_3 rfl 1 rfl ?_
  refine J.iload_n (pc := 4) dL_deed_4 rfl 2 rfl ?_
  obtain ⟨q, e1, h⟩ := bnd h
  rcases q with r2 | i8
  · try dsimp only at h
    refine J.callV (Y := mL_deed) (Z := mX10_deed) (pc := 5) (st := [.int (0 : Int32), .ref v3]) (k2 := 0) (n2 := 0) dL_deed_5 ml_RL_20 mo_X10_deed mv_X10_deed rfl (tX10_deed d e1 hN k0) k0 (okN hN k0 (by decide)).1 (okN hN k0 (by decide)).2 cq_10 (by decide) rfl rfl (Nat.le_of_ble_eq_true rfl) (by decide) (by decide) (fun v ν hp => ?_) (fun i ν hp => nrm hp.1)
    obtain ⟨rfl, rfl, hN3, hb4⟩ := QEl hp
    show J _ _ _ _ 8 _ ([.int r2, .int (0 : Int32), .ref v3]) _ _ _ _
    refine J.i2l (pc := 8) dL_deed_8 ?_
    obtain ⟨μ5, e6, h⟩ := bnd h
    have hN7 : μ5.1 = NN := stL_N e6 hN3
    refine J.wL (pc := 9) dL_deed_9 k3 (okN hN3 k3 (by decide)) e6 ?_
    refine J.goto (pc := 10) (tgt := 17) dL_deed_10 (by decide) ?_
    refine J.iconst (pc := 17) dL_deed_17 ic_0 ?_
    cases h
    exact J.iret (pc := 18) dL_deed_18 rfl ⟨rfl, rfl, hN7, trivial⟩
  · try dsimp only at h
    refine J.callV (Y := mL_deed) (Z := mX10_deed) (pc := 5) (st := [.int (0 : Int32), .ref v3]) (k2 := 0) (n2 := 0) dL_deed_5 ml_RL_20 mo_X10_deed mv_X10_deed rfl (tX10_deed d e1 hN k0) k0 (okN hN k0 (by decide)).1 (okN hN k0 (by decide)).2 cq_10 (by decide) rfl rfl (Nat.le_of_ble_eq_true rfl) (by decide) (by decide) (fun v ν hp => nlm hp.1) (fun i ν hp => ?_)
    obtain ⟨rfl, rfl, hN9, -⟩ := QEr hp
    rcases ifc h with ⟨hc, h⟩ | ⟨hc, h⟩
    · subst hc
      cases h
      exact JX.catch1 (i := 0) (by decide) rfl rfl (Nat.le_of_ble_eq_true rfl) (Nat.le_of_ble_eq_true rfl) (Or.inl ⟨4, Nat.le_of_ble_eq_true rfl, rfl, dL_deed_13⟩) dL_deed_15 ic_1 dL_deed_16 rfl ⟨rfl, rfl, hN9, trivial⟩
    cases h
def fX4_isFree (v0 : Nat) (v1 : Int32) (v2 : Int32) (v3 : Int32) (μ : Mem) : Option (Int32) :=
  (gR μ v0 1 3).bind fun a1 =>
  (ldR μ a1 v1 0).bind fun a4 =>
  (ldI μ a4 v2).bind fun x7 =>
  if x7 = (-1 : Int32) then
    some (0 : Int32)
  else
    if (((v3.toUInt32 >>> (v2.toUInt32 &&& Int32.toUInt32 31)).toInt32) &&& (1 : Int32)) = 0 then
      some (1 : Int32)
    else
      some (0 : Int32)
set_option maxHeartbeats 4000000 in
theorem tX4_isFree {ω : Wd} {l : Launch} (d : Nat) {v0 : Nat} {v1 : Int32} {v2 : Int32} {v3 : Int32} {μ : Mem} {res : Int32} (h : fX4_isFree v0 v1 v2 v3 μ = some res) (hN : μ.1 = NN) (k0 : (kd v0).1 = 14) : Ct ω l mX4_isFree d [.ref v0, .int v1, .int v2, .int v3] μ 0 0 (PE (.inl (some (.int res))) μ (isB res)) := by
  refine Ct.of pn_RX4 (Nat.le_of_ble_eq_true rfl) ?_
  show J ω l mX4_isFree d 0 [(0, .ref v0), (1, .int v1), (2, .int v2), (3, .int v3)] [] μ 0 0 _
  unfold fX4_isFree at h
  refine J.aload_n (pc := 0) dX4_isFree_0 rfl 0 rfl ?_
  obtain ⟨a1, e2, h⟩ := bnd h
  have k3 : (kd a1).1 = 3 := gR_k e2
  refine J.fR (pc := 1) dX4_isFree_1 fl_RX4_17 k0 (okN hN k0 (by decide)) rfl e2 ?_
  refine J.iload_n (pc := 4) dX4_isFree_4 rfl 1 rfl ?_
  obtain ⟨a4, e5, h⟩ := bnd h
  have k6 : (kd a4).1 = 0 := ldR_k e5
  refine J.aR (pc := 5) dX4_isFree_5 (Or.inl k3) (okN hN k3 (by decide)) e5 ?_
  refine J.iload_n (pc := 6) dX4_isFree_6 rfl 2 rfl ?_
  obtain ⟨x7, e8, h⟩ := bnd h
  refine J.aI (pc := 7) dX4_isFree_7 k6 (okN hN k6 (by decide)) e8 ?_
  refine J.iconst (pc := 8) dX4_isFree_8 ic_m1 ?_
  rcases ifc h with ⟨hc, h⟩ | ⟨hc, h⟩
  · refine J.ceq (pc := 9) (tgt := 24) dX4_isFree_9 (by decide) (fun _ => ?_) (fun q => absurd hc q)
    refine J.iconst (pc := 24) dX4_isFree_24 ic_0 ?_
    cases h
    exact J.zret (pc := 25) dX4_isFree_25 rfl (narB (Or.inl rfl)) ⟨rfl, rfl, hN, (Or.inl rfl)⟩
  · refine J.ceq (pc := 9) (tgt := 24) dX4_isFree_9 (by decide) (fun q => absurd q hc) (fun _ => ?_)
    refine J.iload_n (pc := 12) dX4_isFree_12 rfl 3 rfl ?_
    refine J.iload_n (pc := 13) dX4_isFree_13 rfl 2 rfl ?_
    refine J.iushr (pc := 14) dX4_isFree_14 ?_
    refine J.iconst (pc := 15) dX4_isFree_15 ic_1 ?_
    refine J.iand (pc := 16) dX4_isFree_16 ?_
    rcases ifc h with ⟨hc, h⟩ | ⟨hc, h⟩
    · refine J.zne (pc := 17) (tgt := 24) dX4_isFree_17 (by decide) (fun _ => ?_) (fun q => absurd hc q)
      refine J.iconst (pc := 20) dX4_isFree_20 ic_1 ?_
      refine J.goto (pc := 21) (tgt := 25) dX4_isFree_21 (by decide) ?_
      cases h
      exact J.zret (pc := 25) dX4_isFree_25 rfl (narB (Or.inr rfl)) ⟨rfl, rfl, hN, (Or.inr rfl)⟩
    · refine J.zne (pc := 17) (tgt := 24) dX4_isFree_17 (by decide) (fun q => absurd q hc) (fun _ => ?_)
      refine J.iconst (pc := 24) dX4_isFree_24 ic_0 ?_
      cases h
      exact J.zret (pc := 25) dX4_isFree_25 rfl (narB (Or.inl rfl)) ⟨rfl, rfl, hN, (Or.inl rfl)⟩
def fX4_worthOf (v0 : Nat) (v1 : Int32) (v2 : Int32) (v3 : Int32) (μ : Mem) : Option (Int32) :=
  (gR μ v0 1 3).bind fun a1 =>
  (ldR μ a1 v1 0).bind fun a4 =>
  (ldI μ a4 v2).bind fun x7 =>
  (gR μ v0 2 3).bind fun a9 =>
  (ldR μ a9 (v1 + (1 : Int32)) 0).bind fun a12 =>
  (ldI μ a12 (v3 ||| ((1 : Int32) <<< (v2 &&& 31)))).bind fun x15 =>
  some (((1000 : Int32) - x7) + x15)
set_option maxHeartbeats 4000000 in
theorem tX4_worthOf {ω : Wd} {l : Launch} (d : Nat) {v0 : Nat} {v1 : Int32} {v2 : Int32} {v3 : Int32} {μ : Mem} {res : Int32} (h : fX4_worthOf v0 v1 v2 v3 μ = some res) (hN : μ.1 = NN) (k0 : (kd v0).1 = 14) : Ct ω l mX4_worthOf d [.ref v0, .int v1, .int v2, .int v3] μ 0 0 (PE (.inl (some (.int res))) μ True) := by
  refine Ct.of pn_RX4 (Nat.le_of_ble_eq_true rfl) ?_
  show J ω l mX4_worthOf d 0 [(0, .ref v0), (1, .int v1), (2, .int v2), (3, .int v3)] [] μ 0 0 _
  unfold fX4_worthOf at h
  refine J.sipush (pc := 0) dX4_worthOf_0 is_1000 ?_
  refine J.aload_n (pc := 3) dX4_worthOf_3 rfl 0 rfl ?_
  obtain ⟨a1, e2, h⟩ := bnd h
  have k3 : (kd a1).1 = 3 := gR_k e2
  refine J.fR (pc := 4) dX4_worthOf_4 fl_RX4_17 k0 (okN hN k0 (by decide)) rfl e2 ?_
  refine J.iload_n (pc := 7) dX4_worthOf_7 rfl 1 rfl ?_
  obtain ⟨a4, e5, h⟩ := bnd h
  have k6 : (kd a4).1 = 0 := ldR_k e5
  refine J.aR (pc := 8) dX4_worthOf_8 (Or.inl k3) (okN hN k3 (by decide)) e5 ?_
  refine J.iload_n (pc := 9) dX4_worthOf_9 rfl 2 rfl ?_
  obtain ⟨x7, e8, h⟩ := bnd h
  refine J.aI (pc := 10) dX4_worthOf_10 k6 (okN hN k6 (by decide)) e8 ?_
  refine J.isub (pc := 11) dX4_worthOf_11 ?_
  refine J.aload_n (pc := 12) dX4_worthOf_12 rfl 0 rfl ?_
  obtain ⟨a9, e10, h⟩ := bnd h
  have k11 : (kd a9).1 = 3 := gR_k e10
  refine J.fR (pc := 13) dX4_worthOf_13 fl_RX4_20 k0 (okN hN k0 (by decide)) rfl e10 ?_
  refine J.iload_n (pc := 16) dX4_worthOf_16 rfl 1 rfl ?_
  refine J.iconst (pc := 17) dX4_worthOf_17 ic_1 ?_
  refine J.iadd (pc := 18) dX4_worthOf_18 ?_
  obtain ⟨a12, e13, h⟩ := bnd h
  have k14 : (kd a12).1 = 0 := ldR_k e13
  refine J.aR (pc := 19) dX4_worthOf_19 (Or.inl k11) (okN hN k11 (by decide)) e13 ?_
  refine J.iload_n (pc := 20) dX4_worthOf_20 rfl 3 rfl ?_
  refine J.iconst (pc := 21) dX4_worthOf_21 ic_1 ?_
  refine J.iload_n (pc := 22) dX4_worthOf_22 rfl 2 rfl ?_
  refine J.ishl (pc := 23) dX4_worthOf_23 ?_
  refine J.ior (pc := 24) dX4_worthOf_24 ?_
  obtain ⟨x15, e16, h⟩ := bnd h
  refine J.aI (pc := 25) dX4_worthOf_25 k14 (okN hN k14 (by decide)) e16 ?_
  refine J.iadd (pc := 26) dX4_worthOf_26 ?_
  cases h
  exact J.iret (pc := 27) dX4_worthOf_27 rfl ⟨rfl, rfl, hN, trivial⟩
def fX4_firstChoice_2 (μ : Mem) : Nat → Nat → Int32 → Int32 → Int32 → Option (Int32)
  | 0, _, _, _, _ => none
  | n + 1, v0, v1, v2, v3 =>
    if v3 < (μ.2.1 v0 0) then
      (fX4_isFree v0 v1 v3 v2 μ).bind fun r2 =>
      if r2 = 0 then
        (fX4_firstChoice_2 μ n) v0 v1 v2 (v3 + (1 : Int32))
      else
        (fX4_worthOf v0 v1 v3 v2 μ).bind fun r6 =>
        (gR μ v0 2 3).bind fun a9 =>
        (ldR μ a9 v1 0).bind fun a12 =>
        (ldI μ a12 v2).bind fun x15 =>
        if r6 = x15 then
          some v3
        else
          (fX4_firstChoice_2 μ n) v0 v1 v2 (v3 + (1 : Int32))
    else
      some (-1 : Int32)
set_option maxHeartbeats 4000000 in
theorem tX4_firstChoice_2 {ω : Wd} {l : Launch} (d : Nat) {μ : Mem} (hN : μ.1 = NN) {res : Int32} : ∀ n : Nat, ∀ (v0 : Nat) (v1 : Int32) (v2 : Int32) (v3 : Int32), fX4_firstChoice_2 μ n v0 v1 v2 v3 = some res → (kd v0).1 = 14 → J ω l mX4_firstChoice (d + 1) 2 [(0, .ref v0), (1, .int v1), (2, .int v2), (3, .int v3)] [] μ 0 0 (PE (.inl (some (.int res))) μ True) := by
  intro n
  induction n with
  | zero =>
    intro v0 v1 v2 v3 h k0
    have h9 : (none : Option (Int32)) = some res := h
    cases h9
  | succ n ih =>
    intro v0 v1 v2 v3 h k0
    unfold fX4_firstChoice_2 at h
    refine J.iload_n (pc := 2) dX4_firstChoice_2 rfl 3 rfl ?_
    refine J.aload_n (pc := 3) dX4_firstChoice_3 rfl 0 rfl ?_
    refine J.fI (pc := 4) dX4_firstChoice_4 fl_RX4_9 k0 (okN hN k0 (by decide)) (Or.inl rfl) ?_
    rcases ifc h with ⟨hc, h⟩ | ⟨hc, h⟩
    · refine J.cge (pc := 7) (tgt := 46) dX4_firstChoice_7 (by decide) (fun _ => ?_) (fun q => absurd hc q)
      refine J.aload_n (pc := 10) dX4_firstChoice_10 rfl 0 rfl ?_
      refine J.iload_n (pc := 11) dX4_firstChoice_11 rfl 1 rfl ?_
      refine J.iload_n (pc := 12) dX4_firstChoice_12 rfl 3 rfl ?_
      refine J.iload_n (pc := 13) dX4_firstChoice_13 rfl 2 rfl ?_
      obtain ⟨r2, e1, h⟩ := bnd h
      refine J.callV (Y := mX4_firstChoice) (Z := mX4_isFree) (pc := 14) (st := []) (k2 := 0) (n2 := 0) dX4_firstChoice_14 ml_RX4_45 mo_X4_isFree mv_X4_isFree rfl (tX4_isFree d e1 hN k0) k0 (okN hN k0 (by decide)).1 (okN hN k0 (by decide)).2 cq_4 (by decide) rfl rfl (Nat.le_of_ble_eq_true rfl) (by decide) (by decide) (fun v ν hp => ?_) (fun i ν hp => nrm hp.1)
      obtain ⟨rfl, rfl, hN3, hb4⟩ := QEl hp
      show J _ _ _ _ 17 _ ([.int r2]) _ _ _ _
      rcases ifc h with ⟨hc, h⟩ | ⟨hc, h⟩
      · refine J.zeq (pc := 17) (tgt := 40) dX4_firstChoice_17 (by decide) (fun _ => ?_) (fun q => absurd hc q)
        refine J.iinc (pc := 40) (j := 3) ([(3, .int (v3 + (1 : Int32))), (0, .ref v0), (1, .int v1), (2, .int v2)]) dX4_firstChoice_40 rfl (iincv ic_1) (Nat.le_of_ble_eq_true rfl) rfl ?_
        refine J.goto (pc := 43) (tgt := 2) dX4_firstChoice_43 (by decide) ?_
        refine J.pick [1, 2, 3, 0] rfl ?_
        exact ih v0 v1 v2 (v3 + (1 : Int32)) h k0
      · refine J.zeq (pc := 17) (tgt := 40) dX4_firstChoice_17 (by decide) (fun q => absurd q hc) (fun _ => ?_)
        refine J.aload_n (pc := 20) dX4_firstChoice_20 rfl 0 rfl ?_
        refine J.iload_n (pc := 21) dX4_firstChoice_21 rfl 1 rfl ?_
        refine J.iload_n (pc := 22) dX4_firstChoice_22 rfl 3 rfl ?_
        refine J.iload_n (pc := 23) dX4_firstChoice_23 rfl 2 rfl ?_
        obtain ⟨r6, e5, h⟩ := bnd h
        refine J.callV (Y := mX4_firstChoice) (Z := mX4_worthOf) (pc := 24) (st := []) (k2 := 0) (n2 := 0) dX4_firstChoice_24 ml_RX4_49 mo_X4_worthOf mv_X4_worthOf rfl (tX4_worthOf d e5 hN3 k0) k0 (okN hN3 k0 (by decide)).1 (okN hN3 k0 (by decide)).2 cq_4 (by decide) rfl rfl (Nat.le_of_ble_eq_true rfl) (by decide) (by decide) (fun v ν hp => ?_) (fun i ν hp => nrm hp.1)
        obtain ⟨rfl, rfl, hN7, hb8⟩ := QEl hp
        show J _ _ _ _ 27 _ ([.int r6]) _ _ _ _
        refine J.aload_n (pc := 27) dX4_firstChoice_27 rfl 0 rfl ?_
        obtain ⟨a9, e10, h⟩ := bnd h
        have k11 : (kd a9).1 = 3 := gR_k e10
        refine J.fR (pc := 28) dX4_firstChoice_28 fl_RX4_20 k0 (okN hN7 k0 (by decide)) rfl e10 ?_
        refine J.iload_n (pc := 31) dX4_firstChoice_31 rfl 1 rfl ?_
        obtain ⟨a12, e13, h⟩ := bnd h
        have k14 : (kd a12).1 = 0 := ldR_k e13
        refine J.aR (pc := 32) dX4_firstChoice_32 (Or.inl k11) (okN hN7 k11 (by decide)) e13 ?_
        refine J.iload_n (pc := 33) dX4_firstChoice_33 rfl 2 rfl ?_
        obtain ⟨x15, e16, h⟩ := bnd h
        refine J.aI (pc := 34) dX4_firstChoice_34 k14 (okN hN7 k14 (by decide)) e16 ?_
        rcases ifc h with ⟨hc, h⟩ | ⟨hc, h⟩
        · refine J.cne (pc := 35) (tgt := 40) dX4_firstChoice_35 (by decide) (fun _ => ?_) (fun q => absurd hc q)
          refine J.iload_n (pc := 38) dX4_firstChoice_38 rfl 3 rfl ?_
          cases h
          exact J.iret (pc := 39) dX4_firstChoice_39 rfl ⟨rfl, rfl, hN7, trivial⟩
        · refine J.cne (pc := 35) (tgt := 40) dX4_firstChoice_35 (by decide) (fun q => absurd q hc) (fun _ => ?_)
          refine J.iinc (pc := 40) (j := 3) ([(3, .int (v3 + (1 : Int32))), (0, .ref v0), (1, .int v1), (2, .int v2)]) dX4_firstChoice_40 rfl (iincv ic_1) (Nat.le_of_ble_eq_true rfl) rfl ?_
          refine J.goto (pc := 43) (tgt := 2) dX4_firstChoice_43 (by decide) ?_
          refine J.pick [1, 2, 3, 0] rfl ?_
          exact ih v0 v1 v2 (v3 + (1 : Int32)) h k0
    · refine J.cge (pc := 7) (tgt := 46) dX4_firstChoice_7 (by decide) (fun q => absurd q hc) (fun _ => ?_)
      refine J.iconst (pc := 46) dX4_firstChoice_46 ic_m1 ?_
      cases h
      exact J.iret (pc := 47) dX4_firstChoice_47 rfl ⟨rfl, rfl, hN, trivial⟩
def fX4_firstChoice (v0 : Nat) (v1 : Int32) (v2 : Int32) (μ : Mem) : Option (Int32) :=
  (fX4_firstChoice_2 μ fuel) v0 v1 v2 (0 : Int32)
set_option maxHeartbeats 4000000 in
theorem tX4_firstChoice {ω : Wd} {l : Launch} (d : Nat) {v0 : Nat} {v1 : Int32} {v2 : Int32} {μ : Mem} {res : Int32} (h : fX4_firstChoice v0 v1 v2 μ = some res) (hN : μ.1 = NN) (k0 : (kd v0).1 = 14) : Ct ω l mX4_firstChoice (d + 1) [.ref v0, .int v1, .int v2] μ 0 0 (PE (.inl (some (.int res))) μ True) := by
  refine Ct.of pn_RX4 (Nat.le_of_ble_eq_true rfl) ?_
  show J ω l mX4_firstChoice (d + 1) 0 [(0, .ref v0), (1, .int v1), (2, .int v2)] [] μ 0 0 _
  unfold fX4_firstChoice at h
  refine J.iconst (pc := 0) dX4_firstChoice_0 ic_0 ?_
  refine J.istore_n (pc := 1) ([(3, .int (0 : Int32)), (0, .ref v0), (1, .int v1), (2, .int v2)]) dX4_firstChoice_1 rfl (Nat.le_of_ble_eq_true rfl) rfl ?_
  refine J.pick [1, 2, 3, 0] rfl ?_
  exact (tX4_firstChoice_2 d hN fuel) v0 v1 v2 (0 : Int32) h k0
def fX4_takenBy_7 (μ : Mem) : Nat → Nat → Int32 → Int32 → Int32 → Int32 → Option (Int32)
  | 0, _, _, _, _, _ => none
  | n + 1, v0, v1, v2, v3, v4 =>
    if v1 < v4 then
      some v3
    else
      if v4 < (μ.2.1 v0 0) then
        (fX4_firstChoice v0 v4 v2 μ).bind fun r2 =>
        if r2 = (-1 : Int32) then
          (fX4_takenBy_7 μ n) v0 v1 (v2 ||| (0 : Int32)) r2 (v4 + (1 : Int32))
        else
          (fX4_takenBy_7 μ n) v0 v1 (v2 ||| ((1 : Int32) <<< (r2 &&& 31))) r2 (v4 + (1 : Int32))
      else
        some v3
set_option maxHeartbeats 4000000 in
theorem tX4_takenBy_7 {ω : Wd} {l : Launch} (d : Nat) {μ : Mem} (hN : μ.1 = NN) {res : Int32} : ∀ n : Nat, ∀ (v0 : Nat) (v1 : Int32) (v2 : Int32) (v3 : Int32) (v4 : Int32), fX4_takenBy_7 μ n v0 v1 v2 v3 v4 = some res → (kd v0).1 = 14 → J ω l mX4_takenBy (d + 2) 7 [(0, .ref v0), (1, .int v1), (2, .int v2), (3, .int v3), (4, .int v4)] [] μ 0 0 (PE (.inl (some (.int res))) μ True) := by
  intro n
  induction n with
  | zero =>
    intro v0 v1 v2 v3 v4 h k0
    have h9 : (none : Option (Int32)) = some res := h
    cases h9
  | succ n ih =>
    intro v0 v1 v2 v3 v4 h k0
    unfold fX4_takenBy_7 at h
    refine J.iload (pc := 7) dX4_takenBy_7 4 rfl ?_
    refine J.iload_n (pc := 9) dX4_takenBy_9 rfl 1 rfl ?_
    rcases ifc h with ⟨hc, h⟩ | ⟨hc, h⟩
    · refine J.cgt (pc := 10) (tgt := 51) dX4_takenBy_10 (by decide) (fun _ => ?_) (fun q => absurd hc q)
      refine J.iload_n (pc := 51) dX4_takenBy_51 rfl 3 rfl ?_
      cases h
      exact J.iret (pc := 52) dX4_takenBy_52 rfl ⟨rfl, rfl, hN, trivial⟩
    · refine J.cgt (pc := 10) (tgt := 51) dX4_takenBy_10 (by decide) (fun q => absurd q hc) (fun _ => ?_)
      refine J.iload (pc := 13) dX4_takenBy_13 4 rfl ?_
      refine J.aload_n (pc := 15) dX4_takenBy_15 rfl 0 rfl ?_
      refine J.fI (pc := 16) dX4_takenBy_16 fl_RX4_9 k0 (okN hN k0 (by decide)) (Or.inl rfl) ?_
      rcases ifc h with ⟨hc, h⟩ | ⟨hc, h⟩
      · refine J.cge (pc := 19) (tgt := 51) dX4_takenBy_19 (by decide) (fun _ => ?_) (fun q => absurd hc q)
        refine J.aload_n (pc := 22) dX4_takenBy_22 rfl 0 rfl ?_
        refine J.iload (pc := 23) dX4_takenBy_23 4 rfl ?_
        refine J.iload_n (pc := 25) dX4_takenBy_25 rfl 2 rfl ?_
        obtain ⟨r2, e1, h⟩ := bnd h
        refine J.callV (Y := mX4_takenBy) (Z := mX4_firstChoice) (pc := 26) (st := []) (k2 := 0) (n2 := 0) dX4_takenBy_26 ml_RX4_60 mo_X4_firstChoice mv_X4_firstChoice rfl (tX4_firstChoice d e1 hN k0) k0 (okN hN k0 (by decide)).1 (okN hN k0 (by decide)).2 cq_4 (by decide) rfl rfl (Nat.le_of_ble_eq_true rfl) (by decide) (by decide) (fun v ν hp => ?_) (fun i ν hp => nrm hp.1)
        obtain ⟨rfl, rfl, hN3, hb4⟩ := QEl hp
        show J _ _ _ _ 29 _ ([.int r2]) _ _ _ _
        refine J.istore_n (pc := 29) ([(3, .int r2), (0, .ref v0), (1, .int v1), (2, .int v2), (4, .int v4)]) dX4_takenBy_29 rfl (Nat.le_of_ble_eq_true rfl) rfl ?_
        refine J.iload_n (pc := 30) dX4_takenBy_30 rfl 3 rfl ?_
        refine J.iload_n (pc := 31) dX4_takenBy_31 rfl 0 rfl ?_
        refine J.iconst (pc := 32) dX4_takenBy_32 ic_m1 ?_
        rcases ifc h with ⟨hc, h⟩ | ⟨hc, h⟩
        · refine J.cne (pc := 33) (tgt := 40) dX4_takenBy_33 (by decide) (fun _ => ?_) (fun q => absurd hc q)
          refine J.iconst (pc := 36) dX4_takenBy_36 ic_0 ?_
          refine J.goto (pc := 37) (tgt := 43) dX4_takenBy_37 (by decide) ?_
          refine J.ior (pc := 43) dX4_takenBy_43 ?_
          refine J.istore_n (pc := 44) ([(2, .int (v2 ||| (0 : Int32))), (3, .int r2), (0, .ref v0), (1, .int v1), (4, .int v4)]) dX4_takenBy_44 rfl (Nat.le_of_ble_eq_true rfl) rfl ?_
          refine J.iinc (pc := 45) (j := 4) ([(4, .int (v4 + (1 : Int32))), (2, .int (v2 ||| (0 : Int32))), (3, .int r2), (0, .ref v0), (1, .int v1)]) dX4_takenBy_45 rfl (iincv ic_1) (Nat.le_of_ble_eq_true rfl) rfl ?_
          refine J.goto (pc := 48) (tgt := 7) dX4_takenBy_48 (by decide) ?_
          refine J.pick [3, 4, 1, 2, 0] rfl ?_
          exact ih v0 v1 (v2 ||| (0 : Int32)) r2 (v4 + (1 : Int32)) h k0
        · refine J.cne (pc := 33) (tgt := 40) dX4_takenBy_33 (by decide) (fun q => absurd q hc) (fun _ => ?_)
          refine J.iconst (pc := 40) dX4_takenBy_40 ic_1 ?_
          refine J.iload_n (pc := 41) dX4_takenBy_41 rfl 0 rfl ?_
          refine J.ishl (pc := 42) dX4_takenBy_42 ?_
          refine J.ior (pc := 43) dX4_takenBy_43 ?_
          refine J.istore_n (pc := 44) ([(2, .int (v2 ||| ((1 : Int32) <<< (r2 &&& 31)))), (3, .int r2), (0, .ref v0), (1, .int v1), (4, .int v4)]) dX4_takenBy_44 rfl (Nat.le_of_ble_eq_true rfl) rfl ?_
          refine J.iinc (pc := 45) (j := 4) ([(4, .int (v4 + (1 : Int32))), (2, .int (v2 ||| ((1 : Int32) <<< (r2 &&& 31)))), (3, .int r2), (0, .ref v0), (1, .int v1)]) dX4_takenBy_45 rfl (iincv ic_1) (Nat.le_of_ble_eq_true rfl) rfl ?_
          refine J.goto (pc := 48) (tgt := 7) dX4_takenBy_48 (by decide) ?_
          refine J.pick [3, 4, 1, 2, 0] rfl ?_
          exact ih v0 v1 (v2 ||| ((1 : Int32) <<< (r2 &&& 31))) r2 (v4 + (1 : Int32)) h k0
      · refine J.cge (pc := 19) (tgt := 51) dX4_takenBy_19 (by decide) (fun q => absurd q hc) (fun _ => ?_)
        refine J.iload_n (pc := 51) dX4_takenBy_51 rfl 3 rfl ?_
        cases h
        exact J.iret (pc := 52) dX4_takenBy_52 rfl ⟨rfl, rfl, hN, trivial⟩
def fX4_takenBy (v0 : Nat) (v1 : Int32) (μ : Mem) : Option (Int32) :=
  (fX4_takenBy_7 μ fuel) v0 v1 (0 : Int32) (-1 : Int32) (0 : Int32)
set_option maxHeartbeats 4000000 in
theorem tX4_takenBy {ω : Wd} {l : Launch} (d : Nat) {v0 : Nat} {v1 : Int32} {μ : Mem} {res : Int32} (h : fX4_takenBy v0 v1 μ = some res) (hN : μ.1 = NN) (k0 : (kd v0).1 = 14) : Ct ω l mX4_takenBy (d + 2) [.ref v0, .int v1] μ 0 0 (PE (.inl (some (.int res))) μ True) := by
  refine Ct.of pn_RX4 (Nat.le_of_ble_eq_true rfl) ?_
  show J ω l mX4_takenBy (d + 2) 0 [(0, .ref v0), (1, .int v1)] [] μ 0 0 _
  unfold fX4_takenBy at h
  refine J.iconst (pc := 0) dX4_takenBy_0 ic_0 ?_
  refine J.istore_n (pc := 1) ([(2, .int (0 : Int32)), (0, .ref v0), (1, .int v1)]) dX4_takenBy_1 rfl (Nat.le_of_ble_eq_true rfl) rfl ?_
  refine J.iconst (pc := 2) dX4_takenBy_2 ic_m1 ?_
  refine J.istore_n (pc := 3) ([(3, .int (-1 : Int32)), (2, .int (0 : Int32)), (0, .ref v0), (1, .int v1)]) dX4_takenBy_3 rfl (Nat.le_of_ble_eq_true rfl) rfl ?_
  refine J.iconst (pc := 4) dX4_takenBy_4 ic_0 ?_
  refine J.istore (pc := 5) ([(4, .int (0 : Int32)), (3, .int (-1 : Int32)), (2, .int (0 : Int32)), (0, .ref v0), (1, .int v1)]) dX4_takenBy_5 (Nat.le_of_ble_eq_true rfl) rfl ?_
  refine J.pick [3, 4, 2, 1, 0] rfl ?_
  exact (tX4_takenBy_7 d hN fuel) v0 v1 (0 : Int32) (-1 : Int32) (0 : Int32) h k0
def fX4_bestOf_14 (μ : Mem) : Nat → Nat → Int32 → Int32 → Int32 → Int32 → Option (Int32)
  | 0, _, _, _, _, _ => none
  | n + 1, v0, v1, v2, v3, v4 =>
    if v4 < (μ.2.1 v0 0) then
      (fX4_isFree v0 v1 v4 v2 μ).bind fun r2 =>
      if r2 = 0 then
        (fX4_bestOf_14 μ n) v0 v1 v2 v3 (v4 + (1 : Int32))
      else
        (fX4_worthOf v0 v1 v4 v2 μ).bind fun r6 =>
        (fX4_bestOf_14 μ n) v0 v1 v2 (mxI v3 r6) (v4 + (1 : Int32))
    else
      some v3
set_option maxHeartbeats 4000000 in
theorem tX4_bestOf_14 {ω : Wd} {l : Launch} (d : Nat) {μ : Mem} (hN : μ.1 = NN) {res : Int32} : ∀ n : Nat, ∀ (v0 : Nat) (v1 : Int32) (v2 : Int32) (v3 : Int32) (v4 : Int32), fX4_bestOf_14 μ n v0 v1 v2 v3 v4 = some res → (kd v0).1 = 14 → J ω l mX4_bestOf (d + 1) 14 [(0, .ref v0), (1, .int v1), (2, .int v2), (3, .int v3), (4, .int v4)] [] μ 0 0 (PE (.inl (some (.int res))) μ True) := by
  intro n
  induction n with
  | zero =>
    intro v0 v1 v2 v3 v4 h k0
    have h9 : (none : Option (Int32)) = some res := h
    cases h9
  | succ n ih =>
    intro v0 v1 v2 v3 v4 h k0
    unfold fX4_bestOf_14 at h
    refine J.iload (pc := 14) dX4_bestOf_14 4 rfl ?_
    refine J.aload_n (pc := 16) dX4_bestOf_16 rfl 0 rfl ?_
    refine J.fI (pc := 17) dX4_bestOf_17 fl_RX4_9 k0 (okN hN k0 (by decide)) (Or.inl rfl) ?_
    rcases ifc h with ⟨hc, h⟩ | ⟨hc, h⟩
    · refine J.cge (pc := 20) (tgt := 53) dX4_bestOf_20 (by decide) (fun _ => ?_) (fun q => absurd hc q)
      refine J.aload_n (pc := 23) dX4_bestOf_23 rfl 0 rfl ?_
      refine J.iload_n (pc := 24) dX4_bestOf_24 rfl 1 rfl ?_
      refine J.iload (pc := 25) dX4_bestOf_25 4 rfl ?_
      refine J.iload_n (pc := 27) dX4_bestOf_27 rfl 2 rfl ?_
      obtain ⟨r2, e1, h⟩ := bnd h
      refine J.callV (Y := mX4_bestOf) (Z := mX4_isFree) (pc := 28) (st := []) (k2 := 0) (n2 := 0) dX4_bestOf_28 ml_RX4_45 mo_X4_isFree mv_X4_isFree rfl (tX4_isFree d e1 hN k0) k0 (okN hN k0 (by decide)).1 (okN hN k0 (by decide)).2 cq_4 (by decide) rfl rfl (Nat.le_of_ble_eq_true rfl) (by decide) (by decide) (fun v ν hp => ?_) (fun i ν hp => nrm hp.1)
      obtain ⟨rfl, rfl, hN3, hb4⟩ := QEl hp
      show J _ _ _ _ 31 _ ([.int r2]) _ _ _ _
      rcases ifc h with ⟨hc, h⟩ | ⟨hc, h⟩
      · refine J.zeq (pc := 31) (tgt := 47) dX4_bestOf_31 (by decide) (fun _ => ?_) (fun q => absurd hc q)
        refine J.iinc (pc := 47) (j := 4) ([(4, .int (v4 + (1 : Int32))), (0, .ref v0), (1, .int v1), (2, .int v2), (3, .int v3)]) dX4_bestOf_47 rfl (iincv ic_1) (Nat.le_of_ble_eq_true rfl) rfl ?_
        refine J.goto (pc := 50) (tgt := 14) dX4_bestOf_50 (by decide) ?_
        refine J.pick [1, 2, 3, 4, 0] rfl ?_
        exact ih v0 v1 v2 v3 (v4 + (1 : Int32)) h k0
      · refine J.zeq (pc := 31) (tgt := 47) dX4_bestOf_31 (by decide) (fun q => absurd q hc) (fun _ => ?_)
        refine J.iload_n (pc := 34) dX4_bestOf_34 rfl 3 rfl ?_
        refine J.aload_n (pc := 35) dX4_bestOf_35 rfl 0 rfl ?_
        refine J.iload_n (pc := 36) dX4_bestOf_36 rfl 1 rfl ?_
        refine J.iload (pc := 37) dX4_bestOf_37 4 rfl ?_
        refine J.iload_n (pc := 39) dX4_bestOf_39 rfl 2 rfl ?_
        obtain ⟨r6, e5, h⟩ := bnd h
        refine J.callV (Y := mX4_bestOf) (Z := mX4_worthOf) (pc := 40) (st := [.int v3]) (k2 := 0) (n2 := 0) dX4_bestOf_40 ml_RX4_49 mo_X4_worthOf mv_X4_worthOf rfl (tX4_worthOf d e5 hN3 k0) k0 (okN hN3 k0 (by decide)).1 (okN hN3 k0 (by decide)).2 cq_4 (by decide) rfl rfl (Nat.le_of_ble_eq_true rfl) (by decide) (by decide) (fun v ν hp => ?_) (fun i ν hp => nrm hp.1)
        obtain ⟨rfl, rfl, hN7, hb8⟩ := QEl hp
        show J _ _ _ _ 43 _ ([.int r6, .int v3]) _ _ _ _
        refine J.mmax (pc := 43) dX4_bestOf_43 ml_RX4_53 (Nat.le_of_ble_eq_true rfl) ?_
        refine J.istore_n (pc := 46) ([(3, .int (mxI v3 r6)), (0, .ref v0), (1, .int v1), (2, .int v2), (4, .int v4)]) dX4_bestOf_46 rfl (Nat.le_of_ble_eq_true rfl) rfl ?_
        refine J.iinc (pc := 47) (j := 4) ([(4, .int (v4 + (1 : Int32))), (3, .int (mxI v3 r6)), (0, .ref v0), (1, .int v1), (2, .int v2)]) dX4_bestOf_47 rfl (iincv ic_1) (Nat.le_of_ble_eq_true rfl) rfl ?_
        refine J.goto (pc := 50) (tgt := 14) dX4_bestOf_50 (by decide) ?_
        refine J.pick [2, 3, 4, 1, 0] rfl ?_
        exact ih v0 v1 v2 (mxI v3 r6) (v4 + (1 : Int32)) h k0
    · refine J.cge (pc := 20) (tgt := 53) dX4_bestOf_20 (by decide) (fun q => absurd q hc) (fun _ => ?_)
      refine J.iload_n (pc := 53) dX4_bestOf_53 rfl 3 rfl ?_
      cases h
      exact J.iret (pc := 54) dX4_bestOf_54 rfl ⟨rfl, rfl, hN, trivial⟩
def fX4_bestOf (v0 : Nat) (v1 : Int32) (v2 : Int32) (μ : Mem) : Option (Int32) :=
  (gR μ v0 2 3).bind fun a1 =>
  (ldR μ a1 (v1 + (1 : Int32)) 0).bind fun a4 =>
  (ldI μ a4 v2).bind fun x7 =>
  (fX4_bestOf_14 μ fuel) v0 v1 v2 x7 (0 : Int32)
set_option maxHeartbeats 4000000 in
theorem tX4_bestOf {ω : Wd} {l : Launch} (d : Nat) {v0 : Nat} {v1 : Int32} {v2 : Int32} {μ : Mem} {res : Int32} (h : fX4_bestOf v0 v1 v2 μ = some res) (hN : μ.1 = NN) (k0 : (kd v0).1 = 14) : Ct ω l mX4_bestOf (d + 1) [.ref v0, .int v1, .int v2] μ 0 0 (PE (.inl (some (.int res))) μ True) := by
  refine Ct.of pn_RX4 (Nat.le_of_ble_eq_true rfl) ?_
  show J ω l mX4_bestOf (d + 1) 0 [(0, .ref v0), (1, .int v1), (2, .int v2)] [] μ 0 0 _
  unfold fX4_bestOf at h
  refine J.aload_n (pc := 0) dX4_bestOf_0 rfl 0 rfl ?_
  obtain ⟨a1, e2, h⟩ := bnd h
  have k3 : (kd a1).1 = 3 := gR_k e2
  refine J.fR (pc := 1) dX4_bestOf_1 fl_RX4_20 k0 (okN hN k0 (by decide)) rfl e2 ?_
  refine J.iload_n (pc := 4) dX4_bestOf_4 rfl 1 rfl ?_
  refine J.iconst (pc := 5) dX4_bestOf_5 ic_1 ?_
  refine J.iadd (pc := 6) dX4_bestOf_6 ?_
  obtain ⟨a4, e5, h⟩ := bnd h
  have k6 : (kd a4).1 = 0 := ldR_k e5
  refine J.aR (pc := 7) dX4_bestOf_7 (Or.inl k3) (okN hN k3 (by decide)) e5 ?_
  refine J.iload_n (pc := 8) dX4_bestOf_8 rfl 2 rfl ?_
  obtain ⟨x7, e8, h⟩ := bnd h
  refine J.aI (pc := 9) dX4_bestOf_9 k6 (okN hN k6 (by decide)) e8 ?_
  refine J.istore_n (pc := 10) ([(3, .int x7), (0, .ref v0), (1, .int v1), (2, .int v2)]) dX4_bestOf_10 rfl (Nat.le_of_ble_eq_true rfl) rfl ?_
  refine J.iconst (pc := 11) dX4_bestOf_11 ic_0 ?_
  refine J.istore (pc := 12) ([(4, .int (0 : Int32)), (3, .int x7), (0, .ref v0), (1, .int v1), (2, .int v2)]) dX4_bestOf_12 (Nat.le_of_ble_eq_true rfl) rfl ?_
  refine J.pick [2, 3, 4, 1, 0] rfl ?_
  exact (tX4_bestOf_14 d hN fuel) v0 v1 v2 x7 (0 : Int32) h k0
def fX4_weigh_137  (K129 : Nat → Int32 → Mem → Option (Mem)) : Nat → Nat → Int32 → Int32 → Mem → Option (Mem)
  | 0, _, _, _, _ => none
  | n + 1, v0, v4, v5, μ =>
    if v5 < ((1 : Int32) <<< ((μ.2.1 v0 0) &&& 31)) then
      (gR μ v0 2 3).bind fun a1 =>
      (ldR μ a1 v4 0).bind fun a4 =>
      (fX4_bestOf v0 v4 v5 μ).bind fun r8 =>
      (stI μ a4 v5 r8).bind fun μ11 =>
      (fX4_weigh_137 K129 n) v0 v4 (v5 + (1 : Int32)) μ11
    else
      K129 v0 (v4 + (-1 : Int32)) μ
set_option maxHeartbeats 4000000 in
theorem tX4_weigh_137 {ω : Wd} {l : Launch} (d : Nat) {res : Mem} (K129 : Nat → Int32 → Mem → Option (Mem)) (hK129 : ∀ (v0 : Nat) (v4 : Int32) (μ : Mem), K129 v0 v4 μ = some res → μ.1 = NN → (kd v0).1 = 14 → J ω l mX4_weigh (d + 2) 129 [(0, .ref v0), (4, .int v4)] [] μ 0 0 (PE (.inl none) res True)) : ∀ n : Nat, ∀ (v0 : Nat) (v4 : Int32) (v5 : Int32) (μ : Mem), fX4_weigh_137 K129 n v0 v4 v5 μ = some res → μ.1 = NN → (kd v0).1 = 14 → J ω l mX4_weigh (d + 2) 137 [(0, .ref v0), (4, .int v4), (5, .int v5)] [] μ 0 0 (PE (.inl none) res True) := by
  intro n
  induction n with
  | zero =>
    intro v0 v4 v5 μ h hN k0
    have h9 : (none : Option (Mem)) = some res := h
    cases h9
  | succ n ih =>
    intro v0 v4 v5 μ h hN k0
    unfold fX4_weigh_137 at h
    refine J.iload (pc := 137) dX4_weigh_137 2 rfl ?_
    refine J.iconst (pc := 139) dX4_weigh_139 ic_1 ?_
    refine J.aload_n (pc := 140) dX4_weigh_140 rfl 0 rfl ?_
    refine J.fI (pc := 141) dX4_weigh_141 fl_RX4_9 k0 (okN hN k0 (by decide)) (Or.inl rfl) ?_
    refine J.ishl (pc := 144) dX4_weigh_144 ?_
    rcases ifc h with ⟨hc, h⟩ | ⟨hc, h⟩
    · refine J.cge (pc := 145) (tgt := 172) dX4_weigh_145 (by decide) (fun _ => ?_) (fun q => absurd hc q)
      refine J.aload_n (pc := 148) dX4_weigh_148 rfl 0 rfl ?_
      obtain ⟨a1, e2, h⟩ := bnd h
      have k3 : (kd a1).1 = 3 := gR_k e2
      refine J.fR (pc := 149) dX4_weigh_149 fl_RX4_20 k0 (okN hN k0 (by decide)) rfl e2 ?_
      refine J.iload (pc := 152) dX4_weigh_152 1 rfl ?_
      obtain ⟨a4, e5, h⟩ := bnd h
      have k6 : (kd a4).1 = 0 := ldR_k e5
      refine J.aR (pc := 154) dX4_weigh_154 (Or.inl k3) (okN hN k3 (by decide)) e5 ?_
      refine J.iload (pc := 155) dX4_weigh_155 2 rfl ?_
      refine J.aload_n (pc := 157) dX4_weigh_157 rfl 0 rfl ?_
      refine J.iload (pc := 158) dX4_weigh_158 1 rfl ?_
      refine J.iload (pc := 160) dX4_weigh_160 2 rfl ?_
      obtain ⟨r8, e7, h⟩ := bnd h
      refine J.callV (Y := mX4_weigh) (Z := mX4_bestOf) (pc := 162) (st := [.int v5, .ref a4]) (k2 := 0) (n2 := 0) dX4_weigh_162 ml_RX4_42 mo_X4_bestOf mv_X4_bestOf rfl (tX4_bestOf d e7 hN k0) k0 (okN hN k0 (by decide)).1 (okN hN k0 (by decide)).2 cq_4 (by decide) rfl rfl (Nat.le_of_ble_eq_true rfl) (by decide) (by decide) (fun v ν hp => ?_) (fun i ν hp => nrm hp.1)
      obtain ⟨rfl, rfl, hN9, hb10⟩ := QEl hp
      show J _ _ _ _ 165 _ ([.int r8, .int v5, .ref a4]) _ _ _ _
      obtain ⟨μ11, e12, h⟩ := bnd h
      have hN13 : μ11.1 = NN := stI_N e12 hN9
      refine J.wI (pc := 165) dX4_weigh_165 k6 (okN hN9 k6 (by decide)) e12 ?_
      refine J.iinc (pc := 166) (j := 2) ([(5, .int (v5 + (1 : Int32))), (0, .ref v0), (4, .int v4)]) dX4_weigh_166 rfl (iincv ic_1) (Nat.le_of_ble_eq_true rfl) rfl ?_
      refine J.goto (pc := 169) (tgt := 137) dX4_weigh_169 (by decide) ?_
      refine J.pick [1, 2, 0] rfl ?_
      exact ih v0 v4 (v5 + (1 : Int32)) μ11 h hN13 k0
    · refine J.cge (pc := 145) (tgt := 172) dX4_weigh_145 (by decide) (fun q => absurd q hc) (fun _ => ?_)
      refine J.iinc (pc := 172) (j := 1) ([(4, .int (v4 + (-1 : Int32))), (0, .ref v0), (5, .int v5)]) dX4_weigh_172 rfl (iincv ic_m1) (Nat.le_of_ble_eq_true rfl) rfl ?_
      refine J.goto (pc := 175) (tgt := 129) dX4_weigh_175 (by decide) ?_
      refine J.pick [1, 0] rfl ?_
      exact hK129 v0 (v4 + (-1 : Int32)) μ h hN k0
def fX4_weigh_129  : Nat → Nat → Int32 → Mem → Option (Mem)
  | 0, _, _, _ => none
  | n + 1, v0, v4, μ =>
    if v4 < 0 then
      some μ
    else
      (fX4_weigh_137 (fX4_weigh_129 n) fuel) v0 v4 (0 : Int32) μ
set_option maxHeartbeats 4000000 in
theorem tX4_weigh_129 {ω : Wd} {l : Launch} (d : Nat) {res : Mem} : ∀ n : Nat, ∀ (v0 : Nat) (v4 : Int32) (μ : Mem), fX4_weigh_129 n v0 v4 μ = some res → μ.1 = NN → (kd v0).1 = 14 → J ω l mX4_weigh (d + 2) 129 [(0, .ref v0), (4, .int v4)] [] μ 0 0 (PE (.inl none) res True) := by
  intro n
  induction n with
  | zero =>
    intro v0 v4 μ h hN k0
    have h9 : (none : Option (Mem)) = some res := h
    cases h9
  | succ n ih =>
    intro v0 v4 μ h hN k0
    unfold fX4_weigh_129 at h
    refine J.iload (pc := 129) dX4_weigh_129 1 rfl ?_
    rcases ifc h with ⟨hc, h⟩ | ⟨hc, h⟩
    · refine J.zlt (pc := 131) (tgt := 178) dX4_weigh_131 (by decide) (fun _ => ?_) (fun q => absurd hc q)
      cases h
      exact J.vret (pc := 178) dX4_weigh_178 rfl ⟨rfl, rfl, hN, trivial⟩
    · refine J.zlt (pc := 131) (tgt := 178) dX4_weigh_131 (by decide) (fun q => absurd q hc) (fun _ => ?_)
      refine J.iconst (pc := 134) dX4_weigh_134 ic_0 ?_
      refine J.istore (pc := 135) ([(5, .int (0 : Int32)), (0, .ref v0), (4, .int v4)]) dX4_weigh_135 (Nat.le_of_ble_eq_true rfl) rfl ?_
      refine J.pick [1, 2, 0] rfl ?_
      exact (tX4_weigh_137 d (fX4_weigh_129 n) ih fuel) v0 v4 (0 : Int32) μ h hN k0
def fX4_weigh_91  : Nat → Nat → Int32 → Mem → Option (Mem)
  | 0, _, _, _ => none
  | n + 1, v0, v4, μ =>
    if v4 < ((1 : Int32) <<< ((μ.2.1 v0 0) &&& 31)) then
      (gR μ v0 2 3).bind fun a1 =>
      (ldR μ a1 (μ.2.1 v0 0) 0).bind fun a4 =>
      (stI μ a4 v4 (0 : Int32)).bind fun μ7 =>
      (fX4_weigh_91 n) v0 (v4 + (1 : Int32)) μ7
    else
      (fX4_weigh_129 fuel) v0 ((μ.2.1 v0 0) - (1 : Int32)) μ
set_option maxHeartbeats 4000000 in
theorem tX4_weigh_91 {ω : Wd} {l : Launch} (d : Nat) {res : Mem} : ∀ n : Nat, ∀ (v0 : Nat) (v4 : Int32) (μ : Mem), fX4_weigh_91 n v0 v4 μ = some res → μ.1 = NN → (kd v0).1 = 14 → J ω l mX4_weigh (d + 2) 91 [(0, .ref v0), (4, .int v4)] [] μ 0 0 (PE (.inl none) res True) := by
  intro n
  induction n with
  | zero =>
    intro v0 v4 μ h hN k0
    have h9 : (none : Option (Mem)) = some res := h
    cases h9
  | succ n ih =>
    intro v0 v4 μ h hN k0
    unfold fX4_weigh_91 at h
    refine J.iload (pc := 91) dX4_weigh_91 1 rfl ?_
    refine J.iconst (pc := 93) dX4_weigh_93 ic_1 ?_
    refine J.aload_n (pc := 94) dX4_weigh_94 rfl 0 rfl ?_
    refine J.fI (pc := 95) dX4_weigh_95 fl_RX4_9 k0 (okN hN k0 (by decide)) (Or.inl rfl) ?_
    refine J.ishl (pc := 98) dX4_weigh_98 ?_
    rcases ifc h with ⟨hc, h⟩ | ⟨hc, h⟩
    · refine J.cge (pc := 99) (tgt := 121) dX4_weigh_99 (by decide) (fun _ => ?_) (fun q => absurd hc q)
      refine J.aload_n (pc := 102) dX4_weigh_102 rfl 0 rfl ?_
      obtain ⟨a1, e2, h⟩ := bnd h
      have k3 : (kd a1).1 = 3 := gR_k e2
      refine J.fR (pc := 103) dX4_weigh_103 fl_RX4_20 k0 (okN hN k0 (by decide)) rfl e2 ?_
      refine J.aload_n (pc := 106) dX4_weigh_106 rfl 0 rfl ?_
      refine J.fI (pc := 107) dX4_weigh_107 fl_RX4_9 k0 (okN hN k0 (by decide)) (Or.inl rfl) ?_
      obtain ⟨a4, e5, h⟩ := bnd h
      have k6 : (kd a4).1 = 0 := ldR_k e5
      refine J.aR (pc := 110) dX4_weigh_110 (Or.inl k3) (okN hN k3 (by decide)) e5 ?_
      refine J.iload (pc := 111) dX4_weigh_111 1 rfl ?_
      refine J.iconst (pc := 113) dX4_weigh_113 ic_0 ?_
      obtain ⟨μ7, e8, h⟩ := bnd h
      have hN9 : μ7.1 = NN := stI_N e8 hN
      refine J.wI (pc := 114) dX4_weigh_114 k6 (okN hN k6 (by decide)) e8 ?_
      refine J.iinc (pc := 115) (j := 1) ([(4, .int (v4 + (1 : Int32))), (0, .ref v0)]) dX4_weigh_115 rfl (iincv ic_1) (Nat.le_of_ble_eq_true rfl) rfl ?_
      refine J.goto (pc := 118) (tgt := 91) dX4_weigh_118 (by decide) ?_
      refine J.pick [1, 0] rfl ?_
      exact ih v0 (v4 + (1 : Int32)) μ7 h hN9 k0
    · refine J.cge (pc := 99) (tgt := 121) dX4_weigh_99 (by decide) (fun q => absurd q hc) (fun _ => ?_)
      refine J.aload_n (pc := 121) dX4_weigh_121 rfl 0 rfl ?_
      refine J.fI (pc := 122) dX4_weigh_122 fl_RX4_9 k0 (okN hN k0 (by decide)) (Or.inl rfl) ?_
      refine J.iconst (pc := 125) dX4_weigh_125 ic_1 ?_
      refine J.isub (pc := 126) dX4_weigh_126 ?_
      refine J.istore (pc := 127) ([(4, .int ((μ.2.1 v0 0) - (1 : Int32))), (0, .ref v0)]) dX4_weigh_127 (Nat.le_of_ble_eq_true rfl) rfl ?_
      refine J.pick [1, 0] rfl ?_
      exact (tX4_weigh_129 d fuel) v0 ((μ.2.1 v0 0) - (1 : Int32)) μ h hN k0
def fX4_weigh_25  (K13 : Nat → Nat → Nat → Int32 → Mem → Option (Mem)) : Nat → Nat → Nat → Nat → Int32 → Int32 → Mem → Option (Mem)
  | 0, _, _, _, _, _, _ => none
  | n + 1, v0, v1, v2, v4, v5, μ =>
    if v5 < (μ.2.1 v0 0) then
      (gR μ v2 5 0).bind fun a1 =>
      (ldI μ a1 v5).bind fun x4 =>
      (gR μ v0 1 3).bind fun a6 =>
      (ldR μ a6 v4 0).bind fun a9 =>
      if x4 = (-1 : Int32) then
        (stI μ a9 v5 (-1 : Int32)).bind fun μ12 =>
        (fX4_weigh_25 K13 n) v0 v1 v2 v4 (v5 + (1 : Int32)) μ12
      else
        (gR μ v2 4 0).bind fun a15 =>
        (ldI μ a15 v4).bind fun x18 =>
        (fX5_far v1 x18 x4 μ).bind fun (r22, μ21) =>
        (stI μ21 a9 v5 r22).bind fun μ25 =>
        (fX4_weigh_25 K13 n) v0 v1 v2 v4 (v5 + (1 : Int32)) μ25
    else
      K13 v0 v1 v2 (v4 + (1 : Int32)) μ
set_option maxHeartbeats 4000000 in
theorem tX4_weigh_25 {ω : Wd} {l : Launch} (d : Nat) {res : Mem} (K13 : Nat → Nat → Nat → Int32 → Mem → Option (Mem)) (hK13 : ∀ (v0 : Nat) (v1 : Nat) (v2 : Nat) (v4 : Int32) (μ : Mem), K13 v0 v1 v2 v4 μ = some res → μ.1 = NN → (kd v0).1 = 14 → (kd v1).1 = 15 → (kd v2).1 = 19 → J ω l mX4_weigh (d + 2) 13 [(0, .ref v0), (1, .ref v1), (2, .ref v2), (4, .int v4)] [] μ 0 0 (PE (.inl none) res True)) : ∀ n : Nat, ∀ (v0 : Nat) (v1 : Nat) (v2 : Nat) (v4 : Int32) (v5 : Int32) (μ : Mem), fX4_weigh_25 K13 n v0 v1 v2 v4 v5 μ = some res → μ.1 = NN → (kd v0).1 = 14 → (kd v1).1 = 15 → (kd v2).1 = 19 → J ω l mX4_weigh (d + 2) 25 [(0, .ref v0), (1, .ref v1), (2, .ref v2), (4, .int v4), (5, .int v5)] [] μ 0 0 (PE (.inl none) res True) := by
  intro n
  induction n with
  | zero =>
    intro v0 v1 v2 v4 v5 μ h hN k0 k1 k2
    have h9 : (none : Option (Mem)) = some res := h
    cases h9
  | succ n ih =>
    intro v0 v1 v2 v4 v5 μ h hN k0 k1 k2
    unfold fX4_weigh_25 at h
    refine J.iload (pc := 25) dX4_weigh_25 4 rfl ?_
    refine J.aload_n (pc := 27) dX4_weigh_27 rfl 0 rfl ?_
    refine J.fI (pc := 28) dX4_weigh_28 fl_RX4_9 k0 (okN hN k0 (by decide)) (Or.inl rfl) ?_
    rcases ifc h with ⟨hc, h⟩ | ⟨hc, h⟩
    · refine J.cge (pc := 31) (tgt := 82) dX4_weigh_31 (by decide) (fun _ => ?_) (fun q => absurd hc q)
      refine J.aload_n (pc := 34) dX4_weigh_34 rfl 2 rfl ?_
      obtain ⟨a1, e2, h⟩ := bnd h
      have k3 : (kd a1).1 = 0 := gR_k e2
      refine J.fR (pc := 35) dX4_weigh_35 fl_RX4_29 k2 (okN hN k2 (by decide)) rfl e2 ?_
      refine J.iload (pc := 38) dX4_weigh_38 4 rfl ?_
      obtain ⟨x4, e5, h⟩ := bnd h
      refine J.aI (pc := 40) dX4_weigh_40 k3 (okN hN k3 (by decide)) e5 ?_
      refine J.istore (pc := 41) ([(6, .int x4), (0, .ref v0), (1, .ref v1), (2, .ref v2), (4, .int v4), (5, .int v5)]) dX4_weigh_41 (Nat.le_of_ble_eq_true rfl) rfl ?_
      refine J.aload_n (pc := 43) dX4_weigh_43 rfl 1 rfl ?_
      obtain ⟨a6, e7, h⟩ := bnd h
      have k8 : (kd a6).1 = 3 := gR_k e7
      refine J.fR (pc := 44) dX4_weigh_44 fl_RX4_17 k0 (okN hN k0 (by decide)) rfl e7 ?_
      refine J.iload (pc := 47) dX4_weigh_47 4 rfl ?_
      obtain ⟨a9, e10, h⟩ := bnd h
      have k11 : (kd a9).1 = 0 := ldR_k e10
      refine J.aR (pc := 49) dX4_weigh_49 (Or.inl k8) (okN hN k8 (by decide)) e10 ?_
      refine J.iload (pc := 50) dX4_weigh_50 5 rfl ?_
      refine J.iload (pc := 52) dX4_weigh_52 0 rfl ?_
      refine J.iconst (pc := 54) dX4_weigh_54 ic_m1 ?_
      rcases ifc h with ⟨hc, h⟩ | ⟨hc, h⟩
      · refine J.cne (pc := 55) (tgt := 62) dX4_weigh_55 (by decide) (fun _ => ?_) (fun q => absurd hc q)
        refine J.iconst (pc := 58) dX4_weigh_58 ic_m1 ?_
        refine J.goto (pc := 59) (tgt := 75) dX4_weigh_59 (by decide) ?_
        obtain ⟨μ12, e13, h⟩ := bnd h
        have hN14 : μ12.1 = NN := stI_N e13 hN
        refine J.wI (pc := 75) dX4_weigh_75 k11 (okN hN k11 (by decide)) e13 ?_
        refine J.iinc (pc := 76) (j := 5) ([(5, .int (v5 + (1 : Int32))), (6, .int x4), (0, .ref v0), (1, .ref v1), (2, .ref v2), (4, .int v4)]) dX4_weigh_76 rfl (iincv ic_1) (Nat.le_of_ble_eq_true rfl) rfl ?_
        refine J.goto (pc := 79) (tgt := 25) dX4_weigh_79 (by decide) ?_
        refine J.pick [2, 3, 4, 5, 0] rfl ?_
        exact ih v0 v1 v2 v4 (v5 + (1 : Int32)) μ12 h hN14 k0 k1 k2
      · refine J.cne (pc := 55) (tgt := 62) dX4_weigh_55 (by decide) (fun q => absurd q hc) (fun _ => ?_)
        refine J.aload_n (pc := 62) dX4_weigh_62 rfl 2 rfl ?_
        refine J.aload_n (pc := 63) dX4_weigh_63 rfl 3 rfl ?_
        obtain ⟨a15, e16, h⟩ := bnd h
        have k17 : (kd a15).1 = 0 := gR_k e16
        refine J.fR (pc := 64) dX4_weigh_64 fl_RX4_35 k2 (okN hN k2 (by decide)) rfl e16 ?_
        refine J.iload (pc := 67) dX4_weigh_67 4 rfl ?_
        obtain ⟨x18, e19, h⟩ := bnd h
        refine J.aI (pc := 69) dX4_weigh_69 k17 (okN hN k17 (by decide)) e19 ?_
        refine J.iload (pc := 70) dX4_weigh_70 0 rfl ?_
        obtain ⟨⟨r22, μ21⟩, e20, h⟩ := bnd h
        try dsimp only at h
        refine J.callV (Y := mX4_weigh) (Z := mX5_far) (pc := 72) (st := [.int v5, .ref a9]) (k2 := 0) (n2 := 0) dX4_weigh_72 ml_RX4_38 mo_X5_far mv_X5_far rfl (tX5_far d e20 hN k1) k1 (okN hN k1 (by decide)).1 (okN hN k1 (by decide)).2 cq_5 (by decide) rfl rfl (Nat.le_of_ble_eq_true rfl) (by decide) (by decide) (fun v ν hp => ?_) (fun i ν hp => nrm hp.1)
        obtain ⟨rfl, rfl, hN23, hb24⟩ := QEl hp
        show J _ _ _ _ 75 _ ([.int r22, .int v5, .ref a9]) _ _ _ _
        obtain ⟨μ25, e26, h⟩ := bnd h
        have hN27 : μ25.1 = NN := stI_N e26 hN23
        refine J.wI (pc := 75) dX4_weigh_75 k11 (okN hN23 k11 (by decide)) e26 ?_
        refine J.iinc (pc := 76) (j := 5) ([(5, .int (v5 + (1 : Int32))), (6, .int x4), (0, .ref v0), (1, .ref v1), (2, .ref v2), (4, .int v4)]) dX4_weigh_76 rfl (iincv ic_1) (Nat.le_of_ble_eq_true rfl) rfl ?_
        refine J.goto (pc := 79) (tgt := 25) dX4_weigh_79 (by decide) ?_
        refine J.pick [2, 3, 4, 5, 0] rfl ?_
        exact ih v0 v1 v2 v4 (v5 + (1 : Int32)) μ25 h hN27 k0 k1 k2
    · refine J.cge (pc := 31) (tgt := 82) dX4_weigh_31 (by decide) (fun q => absurd q hc) (fun _ => ?_)
      refine J.iinc (pc := 82) (j := 3) ([(4, .int (v4 + (1 : Int32))), (0, .ref v0), (1, .ref v1), (2, .ref v2), (5, .int v5)]) dX4_weigh_82 rfl (iincv ic_1) (Nat.le_of_ble_eq_true rfl) rfl ?_
      refine J.goto (pc := 85) (tgt := 13) dX4_weigh_85 (by decide) ?_
      refine J.pick [1, 2, 3, 0] rfl ?_
      exact hK13 v0 v1 v2 (v4 + (1 : Int32)) μ h hN k0 k1 k2
def fX4_weigh_13  : Nat → Nat → Nat → Nat → Int32 → Mem → Option (Mem)
  | 0, _, _, _, _, _ => none
  | n + 1, v0, v1, v2, v4, μ =>
    if v4 < (μ.2.1 v0 0) then
      (fX4_weigh_25 (fX4_weigh_13 n) fuel) v0 v1 v2 v4 (0 : Int32) μ
    else
      (fX4_weigh_91 fuel) v0 (0 : Int32) μ
set_option maxHeartbeats 4000000 in
theorem tX4_weigh_13 {ω : Wd} {l : Launch} (d : Nat) {res : Mem} : ∀ n : Nat, ∀ (v0 : Nat) (v1 : Nat) (v2 : Nat) (v4 : Int32) (μ : Mem), fX4_weigh_13 n v0 v1 v2 v4 μ = some res → μ.1 = NN → (kd v0).1 = 14 → (kd v1).1 = 15 → (kd v2).1 = 19 → J ω l mX4_weigh (d + 2) 13 [(0, .ref v0), (1, .ref v1), (2, .ref v2), (4, .int v4)] [] μ 0 0 (PE (.inl none) res True) := by
  intro n
  induction n with
  | zero =>
    intro v0 v1 v2 v4 μ h hN k0 k1 k2
    have h9 : (none : Option (Mem)) = some res := h
    cases h9
  | succ n ih =>
    intro v0 v1 v2 v4 μ h hN k0 k1 k2
    unfold fX4_weigh_13 at h
    refine J.iload (pc := 13) dX4_weigh_13 3 rfl ?_
    refine J.aload_n (pc := 15) dX4_weigh_15 rfl 0 rfl ?_
    refine J.fI (pc := 16) dX4_weigh_16 fl_RX4_9 k0 (okN hN k0 (by decide)) (Or.inl rfl) ?_
    rcases ifc h with ⟨hc, h⟩ | ⟨hc, h⟩
    · refine J.cge (pc := 19) (tgt := 88) dX4_weigh_19 (by decide) (fun _ => ?_) (fun q => absurd hc q)
      refine J.iconst (pc := 22) dX4_weigh_22 ic_0 ?_
      refine J.istore (pc := 23) ([(5, .int (0 : Int32)), (0, .ref v0), (1, .ref v1), (2, .ref v2), (4, .int v4)]) dX4_weigh_23 (Nat.le_of_ble_eq_true rfl) rfl ?_
      refine J.pick [1, 2, 3, 4, 0] rfl ?_
      exact (tX4_weigh_25 d (fX4_weigh_13 n) ih fuel) v0 v1 v2 v4 (0 : Int32) μ h hN k0 k1 k2
    · refine J.cge (pc := 19) (tgt := 88) dX4_weigh_19 (by decide) (fun q => absurd q hc) (fun _ => ?_)
      refine J.iconst (pc := 88) dX4_weigh_88 ic_0 ?_
      refine J.istore (pc := 89) ([(4, .int (0 : Int32)), (0, .ref v0), (1, .ref v1), (2, .ref v2)]) dX4_weigh_89 (Nat.le_of_ble_eq_true rfl) rfl ?_
      refine J.pick [1, 0] rfl ?_
      exact (tX4_weigh_91 d fuel) v0 (0 : Int32) μ h hN k0
def fX4_weigh (v0 : Nat) (v1 : Nat) (v2 : Nat) (v3 : Int32) (μ : Mem) : Option (Mem) :=
  (some (sI μ v0 0 (mnI v3 (6 : Int32)))).bind fun μ1 =>
  (fX4_weigh_13 fuel) v0 v1 v2 (0 : Int32) μ1
set_option maxHeartbeats 4000000 in
theorem tX4_weigh {ω : Wd} {l : Launch} (d : Nat) {v0 : Nat} {v1 : Nat} {v2 : Nat} {v3 : Int32} {μ : Mem} {res : Mem} (h : fX4_weigh v0 v1 v2 v3 μ = some res) (hN : μ.1 = NN) (k0 : (kd v0).1 = 14) (k1 : (kd v1).1 = 15) (k2 : (kd v2).1 = 19) : Ct ω l mX4_weigh (d + 2) [.ref v0, .ref v1, .ref v2, .int v3] μ 0 0 (PE (.inl none) res True) := by
  refine Ct.of pn_RX4 (Nat.le_of_ble_eq_true rfl) ?_
  show J ω l mX4_weigh (d + 2) 0 [(0, .ref v0), (1, .ref v1), (2, .ref v2), (3, .int v3)] [] μ 0 0 _
  unfold fX4_weigh at h
  refine J.aload_n (pc := 0) dX4_weigh_0 rfl 0 rfl ?_
  refine J.iload_n (pc := 1) dX4_weigh_1 rfl 3 rfl ?_
  refine J.bipush (pc := 2) dX4_weigh_2 ib_6 ?_
  refine J.mmin (pc := 4) dX4_weigh_4 ml_RX4_23 (Nat.le_of_ble_eq_true rfl) ?_
  obtain ⟨μ1, e2, h⟩ := bnd h
  have hN3 : μ1.1 = NN := smN e2 hN
  refine J.qI (pc := 7) dX4_weigh_7 fl_RX4_9 k0 (okN hN k0 (by decide)) rfl rfl e2 ?_
  refine J.iconst (pc := 10) dX4_weigh_10 ic_0 ?_
  refine J.istore (pc := 11) ([(4, .int (0 : Int32)), (0, .ref v0), (1, .ref v1), (2, .ref v2), (3, .int v3)]) dX4_weigh_11 (Nat.le_of_ble_eq_true rfl) rfl ?_
  refine J.pick [1, 2, 3, 0] rfl ?_
  exact (tX4_weigh_13 d fuel) v0 v1 v2 (0 : Int32) μ1 h hN3 k0 k1 k2
def fX10_errand (v0 : Nat) (v1 : Int32) (μ : Mem) : Option ((Int32 ⊕ Nat) × Mem) :=
  (fX10_needPerson v0 v1 μ).bind fun
  | .inl _ =>
    (gR μ v0 16 14).bind fun a4 =>
    (fX10_here v0 μ).bind fun (a9, μ8) =>
    (gR μ8 v0 7 19).bind fun a12 =>
    (gR μ8 v0 4 11).bind fun a15 =>
    (fX4_weigh a4 a9 a12 (μ8.2.1 a15 1) μ8).bind fun μ19 =>
    (gR μ19 v0 16 14).bind fun a22 =>
    (fX4_takenBy a22 v1 μ19).bind fun r26 =>
    some (.inl r26, μ19)
  | .inr i29 =>
    some (.inr i29, μ)
set_option maxHeartbeats 4000000 in
theorem tX10_errand {ω : Wd} {l : Launch} (d : Nat) {v0 : Nat} {v1 : Int32} {μ : Mem} {res : (Int32 ⊕ Nat) × Mem} (h : fX10_errand v0 v1 μ = some res) (hN : μ.1 = NN) (k0 : (kd v0).1 = 20) : Ct ω l mX10_errand (d + 9) [.ref v0, .int v1] μ 1 6 (PE (oI res.1) res.2 True) := by
  refine Ct.of pn_RX10 (Nat.le_of_ble_eq_true rfl) ?_
  show J ω l mX10_errand (d + 9) 0 [(0, .ref v0), (1, .int v1)] [] μ 1 6 _
  unfold fX10_errand at h
  refine J.aload_n (pc := 0) dX10_errand_0 rfl 0 rfl ?_
  refine J.iload_n (pc := 1) dX10_errand_1 rfl 1 rfl ?_
  obtain ⟨q, e1, h⟩ := bnd h
  rcases q with u | i29
  · try dsimp only at h
    refine J.callV (Y := mX10_errand) (Z := mX10_needPerson) (pc := 2) (st := []) (k2 := 0) (n2 := 0) dX10_errand_2 ml_RX10_211 mo_X10_needPerson mv_X10_needPerson rfl (tX10_needPerson d e1 hN k0) k0 (okN hN k0 (by decide)).1 (okN hN k0 (by decide)).2 cq_10 (by decide) rfl rfl (Nat.le_of_ble_eq_true rfl) (by decide) (by decide) (fun v ν hp => ?_) (fun i ν hp => nrm hp.1)
    obtain ⟨rfl, rfl, hN2, hb3⟩ := QEl hp
    show J _ _ _ _ 5 _ ([]) _ _ _ _
    refine J.aload_n (pc := 5) dX10_errand_5 rfl 0 rfl ?_
    obtain ⟨a4, e5, h⟩ := bnd h
    have k6 : (kd a4).1 = 14 := gR_k e5
    refine J.fR (pc := 6) dX10_errand_6 fl_RX10_93 k0 (okN hN2 k0 (by decide)) rfl e5 ?_
    refine J.aload_n (pc := 9) dX10_errand_9 rfl 0 rfl ?_
    obtain ⟨⟨a9, μ8⟩, e7, h⟩ := bnd h
    try dsimp only at h
    refine J.callV (Y := mX10_errand) (Z := mX10_here) (pc := 10) (st := [.ref a4]) (k2 := 0) (n2 := 0) dX10_errand_10 ml_RX10_153 mo_X10_here mv_X10_here rfl (tX10_here (d + 7) e7 hN2 k0) k0 (okN hN2 k0 (by decide)).1 (okN hN2 k0 (by decide)).2 cq_10 (by decide) rfl rfl (Nat.le_of_ble_eq_true rfl) (by decide) (by decide) (fun v ν hp => ?_) (fun i ν hp => nrm hp.1)
    obtain ⟨rfl, rfl, hN10, hb11⟩ := QEl hp
    show J _ _ _ _ 13 _ ([.ref a9, .ref a4]) _ _ _ _
    refine J.aload_n (pc := 13) dX10_errand_13 rfl 0 rfl ?_
    obtain ⟨a12, e13, h⟩ := bnd h
    have k14 : (kd a12).1 = 19 := gR_k e13
    refine J.fR (pc := 14) dX10_errand_14 fl_RX10_45 k0 (okN hN10 k0 (by decide)) rfl e13 ?_
    refine J.aload_n (pc := 17) dX10_errand_17 rfl 0 rfl ?_
    obtain ⟨a15, e16, h⟩ := bnd h
    have k17 : (kd a15).1 = 11 := gR_k e16
    refine J.fR (pc := 18) dX10_errand_18 fl_RX10_26 k0 (okN hN10 k0 (by decide)) rfl e16 ?_
    refine J.fI (pc := 21) dX10_errand_21 fl_RX10_147 k17 (okN hN10 k17 (by decide)) (Or.inl rfl) ?_
    obtain ⟨μ19, e18, h⟩ := bnd h
    refine J.callV (Y := mX10_errand) (Z := mX4_weigh) (pc := 24) (st := []) (k2 := 0) (n2 := 0) dX10_errand_24 ml_RX10_322 mo_X4_weigh mv_X4_weigh rfl (tX4_weigh (d + 6) e18 hN10 k6 hb11 k14) k6 (okN hN10 k6 (by decide)).1 (okN hN10 k6 (by decide)).2 cq_4 (by decide) rfl rfl (Nat.le_of_ble_eq_true rfl) (by decide) (by decide) (fun v ν hp => ?_) (fun i ν hp => nrm hp.1)
    obtain ⟨rfl, rfl, hN20, hb21⟩ := QEl hp
    show J _ _ _ _ 27 _ ([]) _ _ _ _
    refine J.aload_n (pc := 27) dX10_errand_27 rfl 0 rfl ?_
    obtain ⟨a22, e23, h⟩ := bnd h
    have k24 : (kd a22).1 = 14 := gR_k e23
    refine J.fR (pc := 28) dX10_errand_28 fl_RX10_93 k0 (okN hN20 k0 (by decide)) rfl e23 ?_
    refine J.iload_n (pc := 31) dX10_errand_31 rfl 1 rfl ?_
    obtain ⟨r26, e25, h⟩ := bnd h
    refine J.callV (Y := mX10_errand) (Z := mX4_takenBy) (pc := 32) (st := []) (k2 := 0) (n2 := 0) dX10_errand_32 ml_RX10_332 mo_X4_takenBy mv_X4_takenBy rfl (tX4_takenBy (d + 6) e25 hN20 k24) k24 (okN hN20 k24 (by decide)).1 (okN hN20 k24 (by decide)).2 cq_4 (by decide) rfl rfl (Nat.le_of_ble_eq_true rfl) (by decide) (by decide) (fun v ν hp => ?_) (fun i ν hp => nrm hp.1)
    obtain ⟨rfl, rfl, hN27, hb28⟩ := QEl hp
    show J _ _ _ _ 35 _ ([.int r26]) _ _ _ _
    cases h
    exact J.iret (pc := 35) dX10_errand_35 rfl ⟨rfl, rfl, hN27, trivial⟩
  · try dsimp only at h
    refine J.callV (Y := mX10_errand) (Z := mX10_needPerson) (pc := 2) (st := []) (k2 := 0) (n2 := 0) dX10_errand_2 ml_RX10_211 mo_X10_needPerson mv_X10_needPerson rfl (tX10_needPerson d e1 hN k0) k0 (okN hN k0 (by decide)).1 (okN hN k0 (by decide)).2 cq_10 (by decide) rfl rfl (Nat.le_of_ble_eq_true rfl) (by decide) (by decide) (fun v ν hp => nlm hp.1) (fun i ν hp => ?_)
    obtain ⟨rfl, rfl, hN9, -⟩ := QEr hp
    cases h
    exact JX.out rfl ⟨rfl, rfl, hN9, trivial⟩
def fL_errand (v0 : Nat) (v1 : Int32) (v2 : Nat) (μ : Mem) : Option (Int32 × Mem) :=
  (fX10_errand v0 v1 μ).bind fun
  | (.inl r3, μ2) =>
    (stL μ2 v2 (0 : Int32) (r3.toInt64)).bind fun μ6 =>
    some ((0 : Int32), μ6)
  | (.inr i9, μ2) =>
    if i9 = 0 then some ((1 : Int32), μ2) else
    none
set_option maxHeartbeats 4000000 in
theorem tL_errand {ω : Wd} {l : Launch} (d : Nat) {v0 : Nat} {v1 : Int32} {v2 : Nat} {μ : Mem} {res : Int32 × Mem} (h : fL_errand v0 v1 v2 μ = some res) (hN : μ.1 = NN) (k0 : (kd v0).1 = 20) (k2 : (kd v2).1 = 1) : Ct ω l mL_errand (d + 10) [.ref v0, .int v1, .ref v2] μ 1 6 (PE (.inl (some (.int res.1))) res.2 True) := by
  refine Ct.of pn_RL (Nat.le_of_ble_eq_true rfl) ?_
  show J ω l mL_errand (d + 10) 0 [(0, .ref v0), (1, .int v1), (2, .ref v2)] [] μ 1 6 _
  unfold fL_errand at h
  refine J.aload_n (pc := 0) dL_errand_0 rfl 2 rfl ?_
  refine J.iconst (pc := 1) dL_errand_1 ic_0 ?_
  refine J.aload_n (pc := 2) dL_errand_2 rfl 0 rfl ?_
  refine J.iload_n (pc := 3) dL_errand_3 rfl 1 rfl ?_
  obtain ⟨⟨q, μ2⟩, e1, h⟩ := bnd h
  rcases q with r3 | i9
  · try dsimp only at h
    refine J.callV (Y := mL_errand) (Z := mX10_errand) (pc := 4) (st := [.int (0 : Int32), .ref v2]) (k2 := 0) (n2 := 0) dL_errand_4 ml_RL_74 mo_X10_errand mv_X10_errand rfl (tX10_errand d e1 hN k0) k0 (okN hN k0 (by decide)).1 (okN hN k0 (by decide)).2 cq_10 (by decide) rfl rfl (Nat.le_of_ble_eq_true rfl) (by decide) (by decide) (fun v ν hp => ?_) (fun i ν hp => nrm hp.1)
    obtain ⟨rfl, rfl, hN4, hb5⟩ := QEl hp
    show J _ _ _ _ 7 _ ([.int r3, .int (0 : Int32), .ref v2]) _ _ _ _
    refine J.i2l (pc := 7) dL_errand_7 ?_
    obtain ⟨μ6, e7, h⟩ := bnd h
    have hN8 : μ6.1 = NN := stL_N e7 hN4
    refine J.wL (pc := 8) dL_errand_8 k2 (okN hN4 k2 (by decide)) e7 ?_
    refine J.goto (pc := 9) (tgt := 15) dL_errand_9 (by decide) ?_
    refine J.iconst (pc := 15) dL_errand_15 ic_0 ?_
    cases h
    exact J.iret (pc := 16) dL_errand_16 rfl ⟨rfl, rfl, hN8, trivial⟩
  · try dsimp only at h
    refine J.callV (Y := mL_errand) (Z := mX10_errand) (pc := 4) (st := [.int (0 : Int32), .ref v2]) (k2 := 0) (n2 := 0) dL_errand_4 ml_RL_74 mo_X10_errand mv_X10_errand rfl (tX10_errand d e1 hN k0) k0 (okN hN k0 (by decide)).1 (okN hN k0 (by decide)).2 cq_10 (by decide) rfl rfl (Nat.le_of_ble_eq_true rfl) (by decide) (by decide) (fun v ν hp => nlm hp.1) (fun i ν hp => ?_)
    obtain ⟨rfl, rfl, hN9, -⟩ := QEr hp
    rcases ifc h with ⟨hc, h⟩ | ⟨hc, h⟩
    · subst hc
      cases h
      exact JX.catch1 (i := 0) (by decide) rfl rfl (Nat.le_of_ble_eq_true rfl) (Nat.le_of_ble_eq_true rfl) (Or.inr ⟨3, Nat.le_of_ble_eq_true rfl, rfl, dL_errand_12⟩) dL_errand_13 ic_1 dL_errand_14 rfl ⟨rfl, rfl, hN9, trivial⟩
    cases h
