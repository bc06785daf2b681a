def fX6_isAt_20 (μ : Mem) : Nat → Nat → Nat → Int32 → Int32 → Int32 → Option (Int32)
  | 0, _, _, _, _, _ => none
  | n + 1, v0, v1, v2, v3, v4 =>
    if v4 < v3 then
      (fJ0_charAt_5068e v1 v4 μ).bind fun r2 =>
      (gR μ v0 2 0).bind fun a5 =>
      (ldI μ a5 (((μ.2.1 v0 4) + v4) - v2)).bind fun x8 =>
      if r2 = x8 then
        (fX6_isAt_20 μ n) v0 v1 v2 v3 (v4 + (1 : Int32))
      else
        some (0 : Int32)
    else
      some (1 : Int32)
set_option maxHeartbeats 4000000 in
theorem tX6_isAt_20 {ω : Wd} {l : Launch} (d : Nat) {μ : Mem} (hN : μ.1 = NN) {res : Int32} : ∀ n : Nat, ∀ (v0 : Nat) (v1 : Nat) (v2 : Int32) (v3 : Int32) (v4 : Int32), fX6_isAt_20 μ n v0 v1 v2 v3 v4 = some res → (kd v0).1 = 16 → v1 < 15 → J ω l mX6_isAt (d + 4) 20 [(0, .ref v0), (1, .ref (10000 + v1)), (2, .int v2), (3, .int v3), (4, .int v4)] [] μ 0 0 (PE (.inl (some (.int res))) μ (isB res)) := by
  intro n
  induction n with
  | zero =>
    intro v0 v1 v2 v3 v4 h k0 k1
    have h9 : (none : Option (Int32)) = some res := h
    cases h9
  | succ n ih =>
    intro v0 v1 v2 v3 v4 h k0 k1
    unfold fX6_isAt_20 at h
    refine J.iload (pc := 20) dX6_isAt_20 4 rfl ?_
    refine J.iload_n (pc := 22) dX6_isAt_22 rfl 3 rfl ?_
    rcases ifc h with ⟨hc, h⟩ | ⟨hc, h⟩
    · refine J.cge (pc := 23) (tgt := 57) dX6_isAt_23 (by decide) (fun _ => ?_) (fun q => absurd hc q)
      refine J.aload_n (pc := 26) dX6_isAt_26 rfl 1 rfl ?_
      refine J.iload (pc := 27) dX6_isAt_27 4 rfl ?_
      obtain ⟨r2, e1, h⟩ := bnd h
      refine J.callT (Y := mX6_isAt) (Z := mJ0_charAt_5068e) (pc := 29) (st := []) (k2 := 0) (n2 := 0) dX6_isAt_29 ml_RX6_105 mo_J0_charAt_5068e mv_J0_charAt_5068e rfl rfl k1 (tJ0_charAt_5068e d e1 hN k1) rfl rfl (Nat.le_of_ble_eq_true rfl) (by decide) (by decide) (fun v ν hp => ?_) (fun i ν hp => nrm hp.1)
      obtain ⟨rfl, rfl, hN3, hb4⟩ := QEl hp
      show J _ _ _ _ 32 _ ([.int r2]) _ _ _ _
      refine J.aload_n (pc := 32) dX6_isAt_32 rfl 0 rfl ?_
      obtain ⟨a5, e6, h⟩ := bnd h
      have k7 : (kd a5).1 = 0 := gR_k e6
      refine J.fR (pc := 33) dX6_isAt_33 fl_RX6_18 k0 (okN hN3 k0 (by decide)) rfl e6 ?_
      refine J.aload_n (pc := 36) dX6_isAt_36 rfl 0 rfl ?_
      refine J.fI (pc := 37) dX6_isAt_37 fl_RX6_25 k0 (okN hN3 k0 (by decide)) (Or.inl rfl) ?_
      refine J.iload (pc := 40) dX6_isAt_40 4 rfl ?_
      refine J.iadd (pc := 42) dX6_isAt_42 ?_
      refine J.iload_n (pc := 43) dX6_isAt_43 rfl 2 rfl ?_
      refine J.isub (pc := 44) dX6_isAt_44 ?_
      obtain ⟨x8, e9, h⟩ := bnd h
      refine J.aI (pc := 45) dX6_isAt_45 k7 (okN hN3 k7 (by decide)) e9 ?_
      rcases ifc h with ⟨hc, h⟩ | ⟨hc, h⟩
      · refine J.ceq (pc := 46) (tgt := 51) dX6_isAt_46 (by decide) (fun _ => ?_) (fun q => absurd hc q)
        refine J.iinc (pc := 51) (j := 4) ([(4, .int (v4 + (1 : Int32))), (0, .ref v0), (1, .ref (10000 + v1)), (2, .int v2), (3, .int v3)]) dX6_isAt_51 rfl (iincv ic_1) (Nat.le_of_ble_eq_true rfl) rfl ?_
        refine J.goto (pc := 54) (tgt := 20) dX6_isAt_54 (by decide) ?_
        refine J.pick [1, 2, 3, 4, 0] rfl ?_
        exact ih v0 v1 v2 v3 (v4 + (1 : Int32)) h k0 k1
      · refine J.ceq (pc := 46) (tgt := 51) dX6_isAt_46 (by decide) (fun q => absurd q hc) (fun _ => ?_)
        refine J.iconst (pc := 49) dX6_isAt_49 ic_0 ?_
        cases h
        exact J.zret (pc := 50) dX6_isAt_50 rfl (narB (Or.inl rfl)) ⟨rfl, rfl, hN3, (Or.inl rfl)⟩
    · refine J.cge (pc := 23) (tgt := 57) dX6_isAt_23 (by decide) (fun q => absurd q hc) (fun _ => ?_)
      refine J.iconst (pc := 57) dX6_isAt_57 ic_1 ?_
      cases h
      exact J.zret (pc := 58) dX6_isAt_58 rfl (narB (Or.inr rfl)) ⟨rfl, rfl, hN, (Or.inr rfl)⟩
def fX6_isAt (v0 : Nat) (v1 : Nat) (v2 : Int32) (v3 : Int32) (μ : Mem) : Option (Int32) :=
  if (v3 - v2) = ((μ.2.1 v0 5) - (μ.2.1 v0 4)) then
    (fX6_isAt_20 μ fuel) v0 v1 v2 v3 v2
  else
    some (0 : Int32)
set_option maxHeartbeats 4000000 in
theorem tX6_isAt {ω : Wd} {l : Launch} (d : Nat) {v0 : Nat} {v1 : Nat} {v2 : Int32} {v3 : Int32} {μ : Mem} {res : Int32} (h : fX6_isAt v0 v1 v2 v3 μ = some res) (hN : μ.1 = NN) (k0 : (kd v0).1 = 16) (k1 : v1 < 15) : Ct ω l mX6_isAt (d + 4) [.ref v0, .ref (10000 + v1), .int v2, .int v3] μ 0 0 (PE (.inl (some (.int res))) μ (isB res)) := by
  refine Ct.of pn_RX6 (Nat.le_of_ble_eq_true rfl) ?_
  show J ω l mX6_isAt (d + 4) 0 [(0, .ref v0), (1, .ref (10000 + v1)), (2, .int v2), (3, .int v3)] [] μ 0 0 _
  unfold fX6_isAt at h
  refine J.iload_n (pc := 0) dX6_isAt_0 rfl 3 rfl ?_
  refine J.iload_n (pc := 1) dX6_isAt_1 rfl 2 rfl ?_
  refine J.isub (pc := 2) dX6_isAt_2 ?_
  refine J.aload_n (pc := 3) dX6_isAt_3 rfl 0 rfl ?_
  refine J.fI (pc := 4) dX6_isAt_4 fl_RX6_28 k0 (okN hN k0 (by decide)) (Or.inl rfl) ?_
  refine J.aload_n (pc := 7) dX6_isAt_7 rfl 0 rfl ?_
  refine J.fI (pc := 8) dX6_isAt_8 fl_RX6_25 k0 (okN hN k0 (by decide)) (Or.inl rfl) ?_
  refine J.isub (pc := 11) dX6_isAt_11 ?_
  rcases ifc h with ⟨hc, h⟩ | ⟨hc, h⟩
  · refine J.ceq (pc := 12) (tgt := 17) dX6_isAt_12 (by decide) (fun _ => ?_) (fun q => absurd hc q)
    refine J.iload_n (pc := 17) dX6_isAt_17 rfl 2 rfl ?_
    refine J.istore (pc := 18) ([(4, .int v2), (0, .ref v0), (1, .ref (10000 + v1)), (2, .int v2), (3, .int v3)]) dX6_isAt_18 (Nat.le_of_ble_eq_true rfl) rfl ?_
    refine J.pick [1, 2, 3, 4, 0] rfl ?_
    exact (tX6_isAt_20 d hN fuel) v0 v1 v2 v3 v2 h k0 k1
  · refine J.ceq (pc := 12) (tgt := 17) dX6_isAt_12 (by decide) (fun q => absurd q hc) (fun _ => ?_)
    refine J.iconst (pc := 15) dX6_isAt_15 ic_0 ?_
    cases h
    exact J.zret (pc := 16) dX6_isAt_16 rfl (narB (Or.inl rfl)) ⟨rfl, rfl, hN, (Or.inl rfl)⟩
def fX6_isWord (v0 : Nat) (v1 : Nat) (μ : Mem) : Option (Int32) :=
  if (μ.2.1 v0 6) = (256 : Int32) then
    (fX6_isAt v0 v1 (0 : Int32) (fJ0_length_8abf5 v1) μ).bind fun r5 =>
    if r5 = 0 then
      some (0 : Int32)
    else
      some (1 : Int32)
  else
    some (0 : Int32)
set_option maxHeartbeats 4000000 in
theorem tX6_isWord {ω : Wd} {l : Launch} (d : Nat) {v0 : Nat} {v1 : Nat} {μ : Mem} {res : Int32} (h : fX6_isWord v0 v1 μ = some res) (hN : μ.1 = NN) (k0 : (kd v0).1 = 16) (k1 : v1 < 15) : Ct ω l mX6_isWord (d + 5) [.ref v0, .ref (10000 + v1)] μ 0 0 (PE (.inl (some (.int res))) μ (isB res)) := by
  refine Ct.of pn_RX6 (Nat.le_of_ble_eq_true rfl) ?_
  show J ω l mX6_isWord (d + 5) 0 [(0, .ref v0), (1, .ref (10000 + v1))] [] μ 0 0 _
  unfold fX6_isWord at h
  refine J.aload_n (pc := 0) dX6_isWord_0 rfl 0 rfl ?_
  refine J.fI (pc := 1) dX6_isWord_1 fl_RX6_31 k0 (okN hN k0 (by decide)) (Or.inl rfl) ?_
  refine J.sipush (pc := 4) dX6_isWord_4 is_256 ?_
  rcases ifc h with ⟨hc, h⟩ | ⟨hc, h⟩
  · refine J.cne (pc := 7) (tgt := 27) dX6_isWord_7 (by decide) (fun _ => ?_) (fun q => absurd hc q)
    refine J.aload_n (pc := 10) dX6_isWord_10 rfl 0 rfl ?_
    refine J.aload_n (pc := 11) dX6_isWord_11 rfl 1 rfl ?_
    refine J.iconst (pc := 12) dX6_isWord_12 ic_0 ?_
    refine J.aload_n (pc := 13) dX6_isWord_13 rfl 1 rfl ?_
    refine J.callT (Y := mX6_isWord) (Z := mJ0_length_8abf5) (pc := 14) (st := [.int (0 : Int32), .ref (10000 + v1), .ref v0]) (k2 := 0) (n2 := 0) dX6_isWord_14 ml_RX6_98 mo_J0_length_8abf5 mv_J0_length_8abf5 rfl rfl k1 (tJ0_length_8abf5 (d + 3) v1 μ hN k1) rfl rfl (Nat.le_of_ble_eq_true rfl) (by decide) (by decide) (fun v ν hp => ?_) (fun i ν hp => nrm hp.1)
    obtain ⟨rfl, rfl, hN2, hb3⟩ := QEl hp
    show J _ _ _ _ 17 _ ([.int (fJ0_length_8abf5 v1), .int (0 : Int32), .ref (10000 + v1), .ref v0]) _ _ _ _
    obtain ⟨r5, e4, h⟩ := bnd h
    refine J.callV (Y := mX6_isWord) (Z := mX6_isAt) (pc := 17) (st := []) (k2 := 0) (n2 := 0) dX6_isWord_17 ml_RX6_101 mo_X6_isAt mv_X6_isAt rfl (tX6_isAt d e4 hN2 k0 k1) k0 (okN hN2 k0 (by decide)).1 (okN hN2 k0 (by decide)).2 cq_6 (by decide) rfl rfl (Nat.le_of_ble_eq_true rfl) (by decide) (by decide) (fun v ν hp => ?_) (fun i ν hp => nrm hp.1)
    obtain ⟨rfl, rfl, hN6, hb7⟩ := QEl hp
    show J _ _ _ _ 20 _ ([.int r5]) _ _ _ _
    rcases ifc h with ⟨hc, h⟩ | ⟨hc, h⟩
    · refine J.zeq (pc := 20) (tgt := 27) dX6_isWord_20 (by decide) (fun _ => ?_) (fun q => absurd hc q)
      refine J.iconst (pc := 27) dX6_isWord_27 ic_0 ?_
      cases h
      exact J.zret (pc := 28) dX6_isWord_28 rfl (narB (Or.inl rfl)) ⟨rfl, rfl, hN6, (Or.inl rfl)⟩
    · refine J.zeq (pc := 20) (tgt := 27) dX6_isWord_20 (by decide) (fun q => absurd q hc) (fun _ => ?_)
      refine J.iconst (pc := 23) dX6_isWord_23 ic_1 ?_
      refine J.goto (pc := 24) (tgt := 28) dX6_isWord_24 (by decide) ?_
      cases h
      exact J.zret (pc := 28) dX6_isWord_28 rfl (narB (Or.inr rfl)) ⟨rfl, rfl, hN6, (Or.inr rfl)⟩
  · refine J.cne (pc := 7) (tgt := 27) dX6_isWord_7 (by decide) (fun q => absurd q hc) (fun _ => ?_)
    refine J.iconst (pc := 27) dX6_isWord_27 ic_0 ?_
    cases h
    exact J.zret (pc := 28) dX6_isWord_28 rfl (narB (Or.inl rfl)) ⟨rfl, rfl, hN, (Or.inl rfl)⟩
def fX6_readPlace (v0 : Nat) (μ : Mem) : Option (Int32 × Mem) :=
  (gR μ v0 8 11).bind fun a1 =>
  (fX6_numberBelow v0 (μ.2.1 a1 0) (3 : Int32) μ).bind fun (r6, μ5) =>
  if (μ5.2.1 v0 0) = 0 then
    (fX6_advance v0 μ5).bind fun μ10 =>
    (gR μ10 v0 8 11).bind fun a13 =>
    (gR μ10 a13 3 0).bind fun a16 =>
    (ldI μ10 a16 r6).bind fun x19 =>
    (fX6_numberBelow v0 x19 (3 : Int32) μ10).bind fun (r23, μ22) =>
    if (μ22.2.1 v0 0) = 0 then
      (fX6_advance v0 μ22).bind fun μ27 =>
      some ((((8 : Int32) * r6) + r23), μ27)
    else
      some ((-1 : Int32), μ22)
  else
    some ((-1 : Int32), μ5)
set_option maxHeartbeats 4000000 in
theorem tX6_readPlace {ω : Wd} {l : Launch} (d : Nat) {v0 : Nat} {μ : Mem} {res : Int32 × Mem} (h : fX6_readPlace v0 μ = some res) (hN : μ.1 = NN) (k0 : (kd v0).1 = 16) : Ct ω l mX6_readPlace (d + 6) [.ref v0] μ 0 0 (PE (.inl (some (.int res.1))) res.2 True) := by
  refine Ct.of pn_RX6 (Nat.le_of_ble_eq_true rfl) ?_
  show J ω l mX6_readPlace (d + 6) 0 [(0, .ref v0)] [] μ 0 0 _
  unfold fX6_readPlace at h
  refine J.aload_n (pc := 0) dX6_readPlace_0 rfl 0 rfl ?_
  refine J.aload_n (pc := 1) dX6_readPlace_1 rfl 0 rfl ?_
  obtain ⟨a1, e2, h⟩ := bnd h
  have k3 : (kd a1).1 = 11 := gR_k e2
  refine J.fR (pc := 2) dX6_readPlace_2 fl_RX6_43 k0 (okN hN k0 (by decide)) rfl e2 ?_
  refine J.fI (pc := 5) dX6_readPlace_5 fl_RX6_140 k3 (okN hN k3 (by decide)) (Or.inl rfl) ?_
  refine J.iconst (pc := 8) dX6_readPlace_8 ic_3 ?_
  obtain ⟨⟨r6, μ5⟩, e4, h⟩ := bnd h
  try dsimp only at h
  refine J.callV (Y := mX6_readPlace) (Z := mX6_numberBelow) (pc := 9) (st := []) (k2 := 0) (n2 := 0) dX6_readPlace_9 ml_RX6_143 mo_X6_numberBelow mv_X6_numberBelow rfl (tX6_numberBelow (d + 4) e4 hN k0) k0 (okN hN k0 (by decide)).1 (okN hN k0 (by decide)).2 cq_6 (by decide) rfl rfl (Nat.le_of_ble_eq_true rfl) (by decide) (by decide) (fun v ν hp => ?_) (fun i ν hp => nrm hp.1)
  obtain ⟨rfl, rfl, hN7, hb8⟩ := QEl hp
  show J _ _ _ _ 12 _ ([.int r6]) _ _ _ _
  refine J.istore_n (pc := 12) ([(1, .int r6), (0, .ref v0)]) dX6_readPlace_12 rfl (Nat.le_of_ble_eq_true rfl) rfl ?_
  refine J.aload_n (pc := 13) dX6_readPlace_13 rfl 1 rfl ?_
  refine J.fI (pc := 14) dX6_readPlace_14 fl_RX6_9 k0 (okN hN7 k0 (by decide)) (Or.inl rfl) ?_
  rcases ifc h with ⟨hc, h⟩ | ⟨hc, h⟩
  · refine J.zeq (pc := 17) (tgt := 22) dX6_readPlace_17 (by decide) (fun _ => ?_) (fun q => absurd hc q)
    refine J.aload_n (pc := 22) dX6_readPlace_22 rfl 1 rfl ?_
    obtain ⟨μ10, e9, h⟩ := bnd h
    refine J.callV (Y := mX6_readPlace) (Z := mX6_advance) (pc := 23) (st := []) (k2 := 0) (n2 := 0) dX6_readPlace_23 ml_RX6_65 mo_X6_advance mv_X6_advance rfl (tX6_advance d e9 hN7 k0) k0 (okN hN7 k0 (by decide)).1 (okN hN7 k0 (by decide)).2 cq_6 (by decide) rfl rfl (Nat.le_of_ble_eq_true rfl) (by decide) (by decide) (fun v ν hp => ?_) (fun i ν hp => nrm hp.1)
    obtain ⟨rfl, rfl, hN11, hb12⟩ := QEl hp
    show J _ _ _ _ 26 _ ([]) _ _ _ _
    refine J.aload_n (pc := 26) dX6_readPlace_26 rfl 1 rfl ?_
    refine J.aload_n (pc := 27) dX6_readPlace_27 rfl 1 rfl ?_
    obtain ⟨a13, e14, h⟩ := bnd h
    have k15 : (kd a13).1 = 11 := gR_k e14
    refine J.fR (pc := 28) dX6_readPlace_28 fl_RX6_43 k0 (okN hN11 k0 (by decide)) rfl e14 ?_
    obtain ⟨a16, e17, h⟩ := bnd h
    have k18 : (kd a16).1 = 0 := gR_k e17
    refine J.fR (pc := 31) dX6_readPlace_31 fl_RX6_150 k15 (okN hN11 k15 (by decide)) rfl e17 ?_
    refine J.iload_n (pc := 34) dX6_readPlace_34 rfl 0 rfl ?_
    obtain ⟨x19, e20, h⟩ := bnd h
    refine J.aI (pc := 35) dX6_readPlace_35 k18 (okN hN11 k18 (by decide)) e20 ?_
    refine J.iconst (pc := 36) dX6_readPlace_36 ic_3 ?_
    obtain ⟨⟨r23, μ22⟩, e21, h⟩ := bnd h
    try dsimp only at h
    refine J.callV (Y := mX6_readPlace) (Z := mX6_numberBelow) (pc := 37) (st := []) (k2 := 0) (n2 := 0) dX6_readPlace_37 ml_RX6_143 mo_X6_numberBelow mv_X6_numberBelow rfl (tX6_numberBelow (d + 4) e21 hN11 k0) k0 (okN hN11 k0 (by decide)).1 (okN hN11 k0 (by decide)).2 cq_6 (by decide) rfl rfl (Nat.le_of_ble_eq_true rfl) (by decide) (by decide) (fun v ν hp => ?_) (fun i ν hp => nrm hp.1)
    obtain ⟨rfl, rfl, hN24, hb25⟩ := QEl hp
    show J _ _ _ _ 40 _ ([.int r23]) _ _ _ _
    refine J.istore_n (pc := 40) ([(2, .int r23), (1, .int r6), (0, .ref v0)]) dX6_readPlace_40 rfl (Nat.le_of_ble_eq_true rfl) rfl ?_
    refine J.aload_n (pc := 41) dX6_readPlace_41 rfl 2 rfl ?_
    refine J.fI (pc := 42) dX6_readPlace_42 fl_RX6_9 k0 (okN hN24 k0 (by decide)) (Or.inl rfl) ?_
    rcases ifc h with ⟨hc, h⟩ | ⟨hc, h⟩
    · refine J.zeq (pc := 45) (tgt := 50) dX6_readPlace_45 (by decide) (fun _ => ?_) (fun q => absurd hc q)
      refine J.aload_n (pc := 50) dX6_readPlace_50 rfl 2 rfl ?_
      obtain ⟨μ27, e26, h⟩ := bnd h
      refine J.callV (Y := mX6_readPlace) (Z := mX6_advance) (pc := 51) (st := []) (k2 := 0) (n2 := 0) dX6_readPlace_51 ml_RX6_65 mo_X6_advance mv_X6_advance rfl (tX6_advance d e26 hN24 k0) k0 (okN hN24 k0 (by decide)).1 (okN hN24 k0 (by decide)).2 cq_6 (by decide) rfl rfl (Nat.le_of_ble_eq_true rfl) (by decide) (by decide) (fun v ν hp => ?_) (fun i ν hp => nrm hp.1)
      obtain ⟨rfl, rfl, hN28, hb29⟩ := QEl hp
      show J _ _ _ _ 54 _ ([]) _ _ _ _
      refine J.bipush (pc := 54) dX6_readPlace_54 ib_8 ?_
      refine J.iload_n (pc := 56) dX6_readPlace_56 rfl 1 rfl ?_
      refine J.imul (pc := 57) dX6_readPlace_57 ?_
      refine J.iload_n (pc := 58) dX6_readPlace_58 rfl 0 rfl ?_
      refine J.iadd (pc := 59) dX6_readPlace_59 ?_
      cases h
      exact J.iret (pc := 60) dX6_readPlace_60 rfl ⟨rfl, rfl, hN28, trivial⟩
    · refine J.zeq (pc := 45) (tgt := 50) dX6_readPlace_45 (by decide) (fun q => absurd q hc) (fun _ => ?_)
      refine J.iconst (pc := 48) dX6_readPlace_48 ic_m1 ?_
      cases h
      exact J.iret (pc := 49) dX6_readPlace_49 rfl ⟨rfl, rfl, hN24, trivial⟩
  · refine J.zeq (pc := 17) (tgt := 22) dX6_readPlace_17 (by decide) (fun q => absurd q hc) (fun _ => ?_)
    refine J.iconst (pc := 20) dX6_readPlace_20 ic_m1 ?_
    cases h
    exact J.iret (pc := 21) dX6_readPlace_21 rfl ⟨rfl, rfl, hN7, trivial⟩
def fX6_readPerson (v0 : Nat) (μ : Mem) : Option (Mem) :=
  (gR μ v0 8 11).bind fun a1 =>
  if (μ.2.1 a1 1) < (6 : Int32) then
    (fX6_advance v0 μ).bind fun μ5 =>
    (gR μ5 v0 8 11).bind fun a8 =>
    (some (sI μ5 a8 1 ((μ5.2.1 a8 1) + (1 : Int32)))).bind fun μ11 =>
    (gR μ11 v0 8 11).bind fun a14 =>
    (gR μ11 a14 7 19).bind fun a17 =>
    (gR μ11 a17 4 0).bind fun a20 =>
    (fX6_readPlace v0 μ11).bind fun (r25, μ24) =>
    (stI μ24 a20 (μ.2.1 a1 1) r25).bind fun μ28 =>
    (gR μ28 v0 8 11).bind fun a31 =>
    (gR μ28 a31 4 0).bind fun a34 =>
    (fX6_numberBelow v0 (10 : Int32) (2 : Int32) μ28).bind fun (r39, μ38) =>
    (stI μ38 a34 (μ.2.1 a1 1) r39).bind fun μ42 =>
    if (μ42.2.1 v0 0) = 0 then
      (fX6_advance v0 μ42).bind fun μ46 =>
      if (μ46.2.1 v0 0) = 0 then
        (fX6_isWord v0 4 μ46).bind fun r50 =>
        if r50 = 0 then
          some μ46
        else
          (fX6_advance v0 μ46).bind fun μ54 =>
          (gR μ54 v0 8 11).bind fun a57 =>
          (gR μ54 a57 7 19).bind fun a60 =>
          (gR μ54 a60 5 0).bind fun a63 =>
          (fX6_readPlace v0 μ54).bind fun (r68, μ67) =>
          (stI μ67 a63 (μ.2.1 a1 1) r68).bind fun μ71 =>
          some μ71
      else
        some μ46
    else
      if (μ42.2.1 v0 0) = 0 then
        (fX6_isWord v0 4 μ42).bind fun r75 =>
        if r75 = 0 then
          some μ42
        else
          (fX6_advance v0 μ42).bind fun μ79 =>
          (gR μ79 v0 8 11).bind fun a82 =>
          (gR μ79 a82 7 19).bind fun a85 =>
          (gR μ79 a85 5 0).bind fun a88 =>
          (fX6_readPlace v0 μ79).bind fun (r93, μ92) =>
          (stI μ92 a88 (μ.2.1 a1 1) r93).bind fun μ96 =>
          some μ96
      else
        some μ42
  else
    (fX6_refuse v0 (2 : Int32) μ).bind fun μ100 =>
    some μ100
set_option maxHeartbeats 4000000 in
theorem tX6_readPerson {ω : Wd} {l : Launch} (d : Nat) {v0 : Nat} {μ : Mem} {res : Mem} (h : fX6_readPerson v0 μ = some res) (hN : μ.1 = NN) (k0 : (kd v0).1 = 16) : Ct ω l mX6_readPerson (d + 7) [.ref v0] μ 0 0 (PE (.inl none) res True) := by
  refine Ct.of pn_RX6 (Nat.le_of_ble_eq_true rfl) ?_
  show J ω l mX6_readPerson (d + 7) 0 [(0, .ref v0)] [] μ 0 0 _
  unfold fX6_readPerson at h
  refine J.aload_n (pc := 0) dX6_readPerson_0 rfl 0 rfl ?_
  obtain ⟨a1, e2, h⟩ := bnd h
  have k3 : (kd a1).1 = 11 := gR_k e2
  refine J.fR (pc := 1) dX6_readPerson_1 fl_RX6_43 k0 (okN hN k0 (by decide)) rfl e2 ?_
  refine J.fI (pc := 4) dX6_readPerson_4 fl_RX6_167 k3 (okN hN k3 (by decide)) (Or.inl rfl) ?_
  refine J.istore_n (pc := 7) ([(1, .int (μ.2.1 a1 1)), (0, .ref v0)]) dX6_readPerson_7 rfl (Nat.le_of_ble_eq_true rfl) rfl ?_
  refine J.iload_n (pc := 8) dX6_readPerson_8 rfl 0 rfl ?_
  refine J.bipush (pc := 9) dX6_readPerson_9 ib_6 ?_
  rcases ifc h with ⟨hc, h⟩ | ⟨hc, h⟩
  · refine J.clt (pc := 11) (tgt := 20) dX6_readPerson_11 (by decide) (fun _ => ?_) (fun q => absurd hc q)
    refine J.aload_n (pc := 20) dX6_readPerson_20 rfl 1 rfl ?_
    obtain ⟨μ5, e4, h⟩ := bnd h
    refine J.callV (Y := mX6_readPerson) (Z := mX6_advance) (pc := 21) (st := []) (k2 := 0) (n2 := 0) dX6_readPerson_21 ml_RX6_65 mo_X6_advance mv_X6_advance rfl (tX6_advance (d + 1) e4 hN k0) k0 (okN hN k0 (by decide)).1 (okN hN k0 (by decide)).2 cq_6 (by decide) rfl rfl (Nat.le_of_ble_eq_true rfl) (by decide) (by decide) (fun v ν hp => ?_) (fun i ν hp => nrm hp.1)
    obtain ⟨rfl, rfl, hN6, hb7⟩ := QEl hp
    show J _ _ _ _ 24 _ ([]) _ _ _ _
    refine J.aload_n (pc := 24) dX6_readPerson_24 rfl 1 rfl ?_
    obtain ⟨a8, e9, h⟩ := bnd h
    have k10 : (kd a8).1 = 11 := gR_k e9
    refine J.fR (pc := 25) dX6_readPerson_25 fl_RX6_43 k0 (okN hN6 k0 (by decide)) rfl e9 ?_
    refine J.dup (pc := 28) dX6_readPerson_28 rfl ?_
    refine J.fI (pc := 29) dX6_readPerson_29 fl_RX6_167 k10 (okN hN6 k10 (by decide)) (Or.inl rfl) ?_
    refine J.iconst (pc := 32) dX6_readPerson_32 ic_1 ?_
    refine J.iadd (pc := 33) dX6_readPerson_33 ?_
    obtain ⟨μ11, e12, h⟩ := bnd h
    have hN13 : μ11.1 = NN := smN e12 hN6
    refine J.qI (pc := 34) dX6_readPerson_34 fl_RX6_167 k10 (okN hN6 k10 (by decide)) rfl rfl e12 ?_
    refine J.aload_n (pc := 37) dX6_readPerson_37 rfl 1 rfl ?_
    obtain ⟨a14, e15, h⟩ := bnd h
    have k16 : (kd a14).1 = 11 := gR_k e15
    refine J.fR (pc := 38) dX6_readPerson_38 fl_RX6_43 k0 (okN hN13 k0 (by decide)) rfl e15 ?_
    obtain ⟨a17, e18, h⟩ := bnd h
    have k19 : (kd a17).1 = 19 := gR_k e18
    refine J.fR (pc := 41) dX6_readPerson_41 fl_RX6_157 k16 (okN hN13 k16 (by decide)) rfl e18 ?_
    obtain ⟨a20, e21, h⟩ := bnd h
    have k22 : (kd a20).1 = 0 := gR_k e21
    refine J.fR (pc := 44) dX6_readPerson_44 fl_RX6_170 k19 (okN hN13 k19 (by decide)) rfl e21 ?_
    refine J.iload_n (pc := 47) dX6_readPerson_47 rfl 0 rfl ?_
    refine J.aload_n (pc := 48) dX6_readPerson_48 rfl 1 rfl ?_
    obtain ⟨⟨r25, μ24⟩, e23, h⟩ := bnd h
    try dsimp only at h
    refine J.callV (Y := mX6_readPerson) (Z := mX6_readPlace) (pc := 49) (st := [.int (μ.2.1 a1 1), .ref a20]) (k2 := 0) (n2 := 0) dX6_readPerson_49 ml_RX6_173 mo_X6_readPlace mv_X6_readPlace rfl (tX6_readPlace d e23 hN13 k0) k0 (okN hN13 k0 (by decide)).1 (okN hN13 k0 (by decide)).2 cq_6 (by decide) rfl rfl (Nat.le_of_ble_eq_true rfl) (by decide) (by decide) (fun v ν hp => ?_) (fun i ν hp => nrm hp.1)
    obtain ⟨rfl, rfl, hN26, hb27⟩ := QEl hp
    show J _ _ _ _ 52 _ ([.int r25, .int (μ.2.1 a1 1), .ref a20]) _ _ _ _
    obtain ⟨μ28, e29, h⟩ := bnd h
    have hN30 : μ28.1 = NN := stI_N e29 hN26
    refine J.wI (pc := 52) dX6_readPerson_52 k22 (okN hN26 k22 (by decide)) e29 ?_
    refine J.aload_n (pc := 53) dX6_readPerson_53 rfl 1 rfl ?_
    obtain ⟨a31, e32, h⟩ := bnd h
    have k33 : (kd a31).1 = 11 := gR_k e32
    refine J.fR (pc := 54) dX6_readPerson_54 fl_RX6_43 k0 (okN hN30 k0 (by decide)) rfl e32 ?_
    obtain ⟨a34, e35, h⟩ := bnd h
    have k36 : (kd a34).1 = 0 := gR_k e35
    refine J.fR (pc := 57) dX6_readPerson_57 fl_RX6_176 k33 (okN hN30 k33 (by decide)) rfl e35 ?_
    refine J.iload_n (pc := 60) dX6_readPerson_60 rfl 0 rfl ?_
    refine J.aload_n (pc := 61) dX6_readPerson_61 rfl 1 rfl ?_
    refine J.bipush (pc := 62) dX6_readPerson_62 ib_10 ?_
    refine J.iconst (pc := 64) dX6_readPerson_64 ic_2 ?_
    obtain ⟨⟨r39, μ38⟩, e37, h⟩ := bnd h
    try dsimp only at h
    refine J.callV (Y := mX6_readPerson) (Z := mX6_numberBelow) (pc := 65) (st := [.int (μ.2.1 a1 1), .ref a34]) (k2 := 0) (n2 := 0) dX6_readPerson_65 ml_RX6_143 mo_X6_numberBelow mv_X6_numberBelow rfl (tX6_numberBelow (d + 5) e37 hN30 k0) k0 (okN hN30 k0 (by decide)).1 (okN hN30 k0 (by decide)).2 cq_6 (by decide) rfl rfl (Nat.le_of_ble_eq_true rfl) (by decide) (by decide) (fun v ν hp => ?_) (fun i ν hp => nrm hp.1)
    obtain ⟨rfl, rfl, hN40, hb41⟩ := QEl hp
    show J _ _ _ _ 68 _ ([.int r39, .int (μ.2.1 a1 1), .ref a34]) _ _ _ _
    obtain ⟨μ42, e43, h⟩ := bnd h
    have hN44 : μ42.1 = NN := stI_N e43 hN40
    refine J.wI (pc := 68) dX6_readPerson_68 k36 (okN hN40 k36 (by decide)) e43 ?_
    refine J.aload_n (pc := 69) dX6_readPerson_69 rfl 1 rfl ?_
    refine J.fI (pc := 70) dX6_readPerson_70 fl_RX6_9 k0 (okN hN44 k0 (by decide)) (Or.inl rfl) ?_
    rcases ifc h with ⟨hc, h⟩ | ⟨hc, h⟩
    · refine J.zne (pc := 73) (tgt := 80) dX6_readPerson_73 (by decide) (fun _ => ?_) (fun q => absurd hc q)
      refine J.aload_n (pc := 76) dX6_readPerson_76 rfl 1 rfl ?_
      obtain ⟨μ46, e45, h⟩ := bnd h
      refine J.callV (Y := mX6_readPerson) (Z := mX6_advance) (pc := 77) (st := []) (k2 := 0) (n2 := 0) dX6_readPerson_77 ml_RX6_65 mo_X6_advance mv_X6_advance rfl (tX6_advance (d + 1) e45 hN44 k0) k0 (okN hN44 k0 (by decide)).1 (okN hN44 k0 (by decide)).2 cq_6 (by decide) rfl rfl (Nat.le_of_ble_eq_true rfl) (by decide) (by decide) (fun v ν hp => ?_) (fun i ν hp => nrm hp.1)
      obtain ⟨rfl, rfl, hN47, hb48⟩ := QEl hp
      show J _ _ _ _ 80 _ ([]) _ _ _ _
      refine J.aload_n (pc := 80) dX6_readPerson_80 rfl 1 rfl ?_
      refine J.fI (pc := 81) dX6_readPerson_81 fl_RX6_9 k0 (okN hN47 k0 (by decide)) (Or.inl rfl) ?_
      rcases ifc h with ⟨hc, h⟩ | ⟨hc, h⟩
      · refine J.zne (pc := 84) (tgt := 116) dX6_readPerson_84 (by decide) (fun _ => ?_) (fun q => absurd hc q)
        refine J.aload_n (pc := 87) dX6_readPerson_87 rfl 1 rfl ?_
        refine J.ldcS (pc := 88) (i := 4) dX6_readPerson_88 rfl ?_
        obtain ⟨r50, e49, h⟩ := bnd h
        refine J.callV (Y := mX6_readPerson) (Z := mX6_isWord) (pc := 90) (st := []) (k2 := 0) (n2 := 0) dX6_readPerson_90 ml_RX6_181 mo_X6_isWord mv_X6_isWord rfl (tX6_isWord (d + 1) e49 hN47 k0 (by decide)) k0 (okN hN47 k0 (by decide)).1 (okN hN47 k0 (by decide)).2 cq_6 (by decide) rfl rfl (Nat.le_of_ble_eq_true rfl) (by decide) (by decide) (fun v ν hp => ?_) (fun i ν hp => nrm hp.1)
        obtain ⟨rfl, rfl, hN51, hb52⟩ := QEl hp
        show J _ _ _ _ 93 _ ([.int r50]) _ _ _ _
        rcases ifc h with ⟨hc, h⟩ | ⟨hc, h⟩
        · refine J.zeq (pc := 93) (tgt := 116) dX6_readPerson_93 (by decide) (fun _ => ?_) (fun q => absurd hc q)
          cases h
          exact J.vret (pc := 116) dX6_readPerson_116 rfl ⟨rfl, rfl, hN51, trivial⟩
        · refine J.zeq (pc := 93) (tgt := 116) dX6_readPerson_93 (by decide) (fun q => absurd q hc) (fun _ => ?_)
          refine J.aload_n (pc := 96) dX6_readPerson_96 rfl 1 rfl ?_
          obtain ⟨μ54, e53, h⟩ := bnd h
          refine J.callV (Y := mX6_readPerson) (Z := mX6_advance) (pc := 97) (st := []) (k2 := 0) (n2 := 0) dX6_readPerson_97 ml_RX6_65 mo_X6_advance mv_X6_advance rfl (tX6_advance (d + 1) e53 hN51 k0) k0 (okN hN51 k0 (by decide)).1 (okN hN51 k0 (by decide)).2 cq_6 (by decide) rfl rfl (Nat.le_of_ble_eq_true rfl) (by decide) (by decide) (fun v ν hp => ?_) (fun i ν hp => nrm hp.1)
          obtain ⟨rfl, rfl, hN55, hb56⟩ := QEl hp
          show J _ _ _ _ 100 _ ([]) _ _ _ _
          refine J.aload_n (pc := 100) dX6_readPerson_100 rfl 1 rfl ?_
          obtain ⟨a57, e58, h⟩ := bnd h
          have k59 : (kd a57).1 = 11 := gR_k e58
          refine J.fR (pc := 101) dX6_readPerson_101 fl_RX6_43 k0 (okN hN55 k0 (by decide)) rfl e58 ?_
          obtain ⟨a60, e61, h⟩ := bnd h
          have k62 : (kd a60).1 = 19 := gR_k e61
          refine J.fR (pc := 104) dX6_readPerson_104 fl_RX6_157 k59 (okN hN55 k59 (by decide)) rfl e61 ?_
          obtain ⟨a63, e64, h⟩ := bnd h
          have k65 : (kd a63).1 = 0 := gR_k e64
          refine J.fR (pc := 107) dX6_readPerson_107 fl_RX6_185 k62 (okN hN55 k62 (by decide)) rfl e64 ?_
          refine J.iload_n (pc := 110) dX6_readPerson_110 rfl 0 rfl ?_
          refine J.aload_n (pc := 111) dX6_readPerson_111 rfl 1 rfl ?_
          obtain ⟨⟨r68, μ67⟩, e66, h⟩ := bnd h
          try dsimp only at h
          refine J.callV (Y := mX6_readPerson) (Z := mX6_readPlace) (pc := 112) (st := [.int (μ.2.1 a1 1), .ref a63]) (k2 := 0) (n2 := 0) dX6_readPerson_112 ml_RX6_173 mo_X6_readPlace mv_X6_readPlace rfl (tX6_readPlace d e66 hN55 k0) k0 (okN hN55 k0 (by decide)).1 (okN hN55 k0 (by decide)).2 cq_6 (by decide) rfl rfl (Nat.le_of_ble_eq_true rfl) (by decide) (by decide) (fun v ν hp => ?_) (fun i ν hp => nrm hp.1)
          obtain ⟨rfl, rfl, hN69, hb70⟩ := QEl hp
          show J _ _ _ _ 115 _ ([.int r68, .int (μ.2.1 a1 1), .ref a63]) _ _ _ _
          obtain ⟨μ71, e72, h⟩ := bnd h
          have hN73 : μ71.1 = NN := stI_N e72 hN69
          refine J.wI (pc := 115) dX6_readPerson_115 k65 (okN hN69 k65 (by decide)) e72 ?_
          cases h
          exact J.vret (pc := 116) dX6_readPerson_116 rfl ⟨rfl, rfl, hN73, trivial⟩
      · refine J.zne (pc := 84) (tgt := 116) dX6_readPerson_84 (by decide) (fun q => absurd q hc) (fun _ => ?_)
        cases h
        exact J.vret (pc := 116) dX6_readPerson_116 rfl ⟨rfl, rfl, hN47, trivial⟩
    · refine J.zne (pc := 73) (tgt := 80) dX6_readPerson_73 (by decide) (fun q => absurd q hc) (fun _ => ?_)
      refine J.aload_n (pc := 80) dX6_readPerson_80 rfl 1 rfl ?_
      refine J.fI (pc := 81) dX6_readPerson_81 fl_RX6_9 k0 (okN hN44 k0 (by decide)) (Or.inl rfl) ?_
      rcases ifc h with ⟨hc, h⟩ | ⟨hc, h⟩
      · refine J.zne (pc := 84) (tgt := 116) dX6_readPerson_84 (by decide) (fun _ => ?_) (fun q => absurd hc q)
        refine J.aload_n (pc := 87) dX6_readPerson_87 rfl 1 rfl ?_
        refine J.ldcS (pc := 88) (i := 4) dX6_readPerson_88 rfl ?_
        obtain ⟨r75, e74, h⟩ := bnd h
        refine J.callV (Y := mX6_readPerson) (Z := mX6_isWord) (pc := 90) (st := []) (k2 := 0) (n2 := 0) dX6_readPerson_90 ml_RX6_181 mo_X6_isWord mv_X6_isWord rfl (tX6_isWord (d + 1) e74 hN44 k0 (by decide)) k0 (okN hN44 k0 (by decide)).1 (okN hN44 k0 (by decide)).2 cq_6 (by decide) rfl rfl (Nat.le_of_ble_eq_true rfl) (by decide) (by decide) (fun v ν hp => ?_) (fun i ν hp => nrm hp.1)
        obtain ⟨rfl, rfl, hN76, hb77⟩ := QEl hp
        show J _ _ _ _ 93 _ ([.int r75]) _ _ _ _
        rcases ifc h with ⟨hc, h⟩ | ⟨hc, h⟩
        · refine J.zeq (pc := 93) (tgt := 116) dX6_readPerson_93 (by decide) (fun _ => ?_) (fun q => absurd hc q)
          cases h
          exact J.vret (pc := 116) dX6_readPerson_116 rfl ⟨rfl, rfl, hN76, trivial⟩
        · refine J.zeq (pc := 93) (tgt := 116) dX6_readPerson_93 (by decide) (fun q => absurd q hc) (fun _ => ?_)
          refine J.aload_n (pc := 96) dX6_readPerson_96 rfl 1 rfl ?_
          obtain ⟨μ79, e78, h⟩ := bnd h
          refine J.callV (Y := mX6_readPerson) (Z := mX6_advance) (pc := 97) (st := []) (k2 := 0) (n2 := 0) dX6_readPerson_97 ml_RX6_65 mo_X6_advance mv_X6_advance rfl (tX6_advance (d + 1) e78 hN76 k0) k0 (okN hN76 k0 (by decide)).1 (okN hN76 k0 (by decide)).2 cq_6 (by decide) rfl rfl (Nat.le_of_ble_eq_true rfl) (by decide) (by decide) (fun v ν hp => ?_) (fun i ν hp => nrm hp.1)
          obtain ⟨rfl, rfl, hN80, hb81⟩ := QEl hp
          show J _ _ _ _ 100 _ ([]) _ _ _ _
          refine J.aload_n (pc := 100) dX6_readPerson_100 rfl 1 rfl ?_
          obtain ⟨a82, e83, h⟩ := bnd h
          have k84 : (kd a82).1 = 11 := gR_k e83
          refine J.fR (pc := 101) dX6_readPerson_101 fl_RX6_43 k0 (okN hN80 k0 (by decide)) rfl e83 ?_
          obtain ⟨a85, e86, h⟩ := bnd h
          have k87 : (kd a85).1 = 19 := gR_k e86
          refine J.fR (pc := 104) dX6_readPerson_104 fl_RX6_157 k84 (okN hN80 k84 (by decide)) rfl e86 ?_
          obtain ⟨a88, e89, h⟩ := bnd h
          have k90 : (kd a88).1 = 0 := gR_k e89
          refine J.fR (pc := 107) dX6_readPerson_107 fl_RX6_185 k87 (okN hN80 k87 (by decide)) rfl e89 ?_
          refine J.iload_n (pc := 110) dX6_readPerson_110 rfl 0 rfl ?_
          refine J.aload_n (pc := 111) dX6_readPerson_111 rfl 1 rfl ?_
          obtain ⟨⟨r93, μ92⟩, e91, h⟩ := bnd h
          try dsimp only at h
          refine J.callV (Y := mX6_readPerson) (Z := mX6_readPlace) (pc := 112) (st := [.int (μ.2.1 a1 1), .ref a88]) (k2 := 0) (n2 := 0) dX6_readPerson_112 ml_RX6_173 mo_X6_readPlace mv_X6_readPlace rfl (tX6_readPlace d e91 hN80 k0) k0 (okN hN80 k0 (by decide)).1 (okN hN80 k0 (by decide)).2 cq_6 (by decide) rfl rfl (Nat.le_of_ble_eq_true rfl) (by decide) (by decide) (fun v ν hp => ?_) (fun i ν hp => nrm hp.1)
          obtain ⟨rfl, rfl, hN94, hb95⟩ := QEl hp
          show J _ _ _ _ 115 _ ([.int r93, .int (μ.2.1 a1 1), .ref a88]) _ _ _ _
          obtain ⟨μ96, e97, h⟩ := bnd h
          have hN98 : μ96.1 = NN := stI_N e97 hN94
          refine J.wI (pc := 115) dX6_readPerson_115 k90 (okN hN94 k90 (by decide)) e97 ?_
          cases h
          exact J.vret (pc := 116) dX6_readPerson_116 rfl ⟨rfl, rfl, hN98, trivial⟩
      · refine J.zne (pc := 84) (tgt := 116) dX6_readPerson_84 (by decide) (fun q => absurd q hc) (fun _ => ?_)
        cases h
        exact J.vret (pc := 116) dX6_readPerson_116 rfl ⟨rfl, rfl, hN44, trivial⟩
  · refine J.clt (pc := 11) (tgt := 20) dX6_readPerson_11 (by decide) (fun q => absurd q hc) (fun _ => ?_)
    refine J.aload_n (pc := 14) dX6_readPerson_14 rfl 1 rfl ?_
    refine J.iconst (pc := 15) dX6_readPerson_15 ic_2 ?_
    obtain ⟨μ100, e99, h⟩ := bnd h
    refine J.callV (Y := mX6_readPerson) (Z := mX6_refuse) (pc := 16) (st := []) (k2 := 0) (n2 := 0) dX6_readPerson_16 ml_RX6_109 mo_X6_refuse mv_X6_refuse rfl (tX6_refuse (d + 6) e99 hN k0) k0 (okN hN k0 (by decide)).1 (okN hN k0 (by decide)).2 cq_6 (by decide) rfl rfl (Nat.le_of_ble_eq_true rfl) (by decide) (by decide) (fun v ν hp => ?_) (fun i ν hp => nrm hp.1)
    obtain ⟨rfl, rfl, hN101, hb102⟩ := QEl hp
    show J _ _ _ _ 19 _ ([]) _ _ _ _
    cases h
    exact J.vret (pc := 19) dX6_readPerson_19 rfl ⟨rfl, rfl, hN101, trivial⟩
def fX7_add (v0 : Nat) (v1 : Int32) (μ : Mem) : Option (Mem) :=
  (gR μ v0 0 0).bind fun a1 =>
  if (μ.2.1 v0 1) < (Int32.ofNat (kd a1).2) then
    (gR μ v0 0 0).bind fun a4 =>
    (stI μ a4 (μ.2.1 v0 1) v1).bind fun μ7 =>
    (some (sI μ7 v0 1 ((μ7.2.1 v0 1) + (1 : Int32)))).bind fun μ10 =>
    some μ10
  else
    some μ
set_option maxHeartbeats 4000000 in
theorem tX7_add {ω : Wd} {l : Launch} (d : Nat) {v0 : Nat} {v1 : Int32} {μ : Mem} {res : Mem} (h : fX7_add v0 v1 μ = some res) (hN : μ.1 = NN) (k0 : (kd v0).1 = 17) : Ct ω l mX7_add d [.ref v0, .int v1] μ 0 0 (PE (.inl none) res True) := by
  refine Ct.of pn_RX7 (Nat.le_of_ble_eq_true rfl) ?_
  show J ω l mX7_add d 0 [(0, .ref v0), (1, .int v1)] [] μ 0 0 _
  unfold fX7_add at h
  refine J.aload_n (pc := 0) dX7_add_0 rfl 0 rfl ?_
  refine J.fI (pc := 1) dX7_add_1 fl_RX7_15 k0 (okN hN k0 (by decide)) (Or.inl rfl) ?_
  refine J.aload_n (pc := 4) dX7_add_4 rfl 0 rfl ?_
  obtain ⟨a1, e2, h⟩ := bnd h
  have k3 : (kd a1).1 = 0 := gR_k e2
  refine J.fR (pc := 5) dX7_add_5 fl_RX7_9 k0 (okN hN k0 (by decide)) rfl e2 ?_
  refine J.len (pc := 8) dX7_add_8 k3 (okN hN k3 (by decide)) ?_
  rcases ifc h with ⟨hc, h⟩ | ⟨hc, h⟩
  · refine J.cge (pc := 9) (tgt := 32) dX7_add_9 (by decide) (fun _ => ?_) (fun q => absurd hc q)
    refine J.aload_n (pc := 12) dX7_add_12 rfl 0 rfl ?_
    obtain ⟨a4, e5, h⟩ := bnd h
    have k6 : (kd a4).1 = 0 := gR_k e5
    refine J.fR (pc := 13) dX7_add_13 fl_RX7_9 k0 (okN hN k0 (by decide)) rfl e5 ?_
    refine J.aload_n (pc := 16) dX7_add_16 rfl 0 rfl ?_
    refine J.fI (pc := 17) dX7_add_17 fl_RX7_15 k0 (okN hN k0 (by decide)) (Or.inl rfl) ?_
    refine J.iload_n (pc := 20) dX7_add_20 rfl 1 rfl ?_
    obtain ⟨μ7, e8, h⟩ := bnd h
    have hN9 : μ7.1 = NN := stI_N e8 hN
    refine J.wI (pc := 21) dX7_add_21 k6 (okN hN k6 (by decide)) e8 ?_
    refine J.aload_n (pc := 22) dX7_add_22 rfl 0 rfl ?_
    refine J.dup (pc := 23) dX7_add_23 rfl ?_
    refine J.fI (pc := 24) dX7_add_24 fl_RX7_15 k0 (okN hN9 k0 (by decide)) (Or.inl rfl) ?_
    refine J.iconst (pc := 27) dX7_add_27 ic_1 ?_
    refine J.iadd (pc := 28) dX7_add_28 ?_
    obtain ⟨μ10, e11, h⟩ := bnd h
    have hN12 : μ10.1 = NN := smN e11 hN9
    refine J.qI (pc := 29) dX7_add_29 fl_RX7_15 k0 (okN hN9 k0 (by decide)) rfl rfl e11 ?_
    cases h
    exact J.vret (pc := 32) dX7_add_32 rfl ⟨rfl, rfl, hN12, trivial⟩
  · refine J.cge (pc := 9) (tgt := 32) dX7_add_9 (by decide) (fun q => absurd q hc) (fun _ => ?_)
    cases h
    exact J.vret (pc := 32) dX7_add_32 rfl ⟨rfl, rfl, hN, trivial⟩
def fX7_addValue (v0 : Nat) (v1 : Int32) (μ : Mem) : Option (Mem) :=
  (fX7_add v0 ((-1 : Int32) - v1) μ).bind fun μ2 =>
  some μ2
set_option maxHeartbeats 4000000 in
theorem tX7_addValue {ω : Wd} {l : Launch} (d : Nat) {v0 : Nat} {v1 : Int32} {μ : Mem} {res : Mem} (h : fX7_addValue v0 v1 μ = some res) (hN : μ.1 = NN) (k0 : (kd v0).1 = 17) : Ct ω l mX7_addValue (d + 1) [.ref v0, .int v1] μ 0 0 (PE (.inl none) res True) := by
  refine Ct.of pn_RX7 (Nat.le_of_ble_eq_true rfl) ?_
  show J ω l mX7_addValue (d + 1) 0 [(0, .ref v0), (1, .int v1)] [] μ 0 0 _
  unfold fX7_addValue at h
  refine J.aload_n (pc := 0) dX7_addValue_0 rfl 0 rfl ?_
  refine J.iconst (pc := 1) dX7_addValue_1 ic_m1 ?_
  refine J.iload_n (pc := 2) dX7_addValue_2 rfl 1 rfl ?_
  refine J.isub (pc := 3) dX7_addValue_3 ?_
  obtain ⟨μ2, e1, h⟩ := bnd h
  refine J.callV (Y := mX7_addValue) (Z := mX7_add) (pc := 4) (st := []) (k2 := 0) (n2 := 0) dX7_addValue_4 ml_RX7_22 mo_X7_add mv_X7_add rfl (tX7_add d e1 hN k0) k0 (okN hN k0 (by decide)).1 (okN hN k0 (by decide)).2 cq_7 (by decide) rfl rfl (Nat.le_of_ble_eq_true rfl) (by decide) (by decide) (fun v ν hp => ?_) (fun i ν hp => nrm hp.1)
  obtain ⟨rfl, rfl, hN3, hb4⟩ := QEl hp
  show J _ _ _ _ 7 _ ([]) _ _ _ _
  cases h
  exact J.vret (pc := 7) dX7_addValue_7 rfl ⟨rfl, rfl, hN3, trivial⟩
def fX6_readValue (v0 : Nat) (v1 : Int32) (μ : Mem) : Option (Mem) :=
  if v1 = (-1 : Int32) then
    (fX6_refuse v0 (3 : Int32) μ).bind fun μ2 =>
    some μ2
  else
    (gR μ v0 9 17).bind fun a5 =>
    (fX7_addValue a5 v1 μ).bind fun μ9 =>
    (fX6_advance v0 μ9).bind fun μ13 =>
    some μ13
set_option maxHeartbeats 4000000 in
theorem tX6_readValue {ω : Wd} {l : Launch} (d : Nat) {v0 : Nat} {v1 : Int32} {μ : Mem} {res : Mem} (h : fX6_readValue v0 v1 μ = some res) (hN : μ.1 = NN) (k0 : (kd v0).1 = 16) : Ct ω l mX6_readValue (d + 6) [.ref v0, .int v1] μ 0 0 (PE (.inl none) res True) := by
  refine Ct.of pn_RX6 (Nat.le_of_ble_eq_true rfl) ?_
  show J ω l mX6_readValue (d + 6) 0 [(0, .ref v0), (1, .int v1)] [] μ 0 0 _
  unfold fX6_readValue at h
  refine J.iload_n (pc := 0) dX6_readValue_0 rfl 1 rfl ?_
  refine J.iconst (pc := 1) dX6_readValue_1 ic_m1 ?_
  rcases ifc h with ⟨hc, h⟩ | ⟨hc, h⟩
  · refine J.cne (pc := 2) (tgt := 13) dX6_readValue_2 (by decide) (fun _ => ?_) (fun q => absurd hc q)
    refine J.aload_n (pc := 5) dX6_readValue_5 rfl 0 rfl ?_
    refine J.iconst (pc := 6) dX6_readValue_6 ic_3 ?_
    obtain ⟨μ2, e1, h⟩ := bnd h
    refine J.callV (Y := mX6_readValue) (Z := mX6_refuse) (pc := 7) (st := []) (k2 := 0) (n2 := 0) dX6_readValue_7 ml_RX6_109 mo_X6_refuse mv_X6_refuse rfl (tX6_refuse (d + 5) e1 hN k0) k0 (okN hN k0 (by decide)).1 (okN hN k0 (by decide)).2 cq_6 (by decide) rfl rfl (Nat.le_of_ble_eq_true rfl) (by decide) (by decide) (fun v ν hp => ?_) (fun i ν hp => nrm hp.1)
    obtain ⟨rfl, rfl, hN3, hb4⟩ := QEl hp
    show J _ _ _ _ 10 _ ([]) _ _ _ _
    refine J.goto (pc := 10) (tgt := 25) dX6_readValue_10 (by decide) ?_
    cases h
    exact J.vret (pc := 25) dX6_readValue_25 rfl ⟨rfl, rfl, hN3, trivial⟩
  · refine J.cne (pc := 2) (tgt := 13) dX6_readValue_2 (by decide) (fun q => absurd q hc) (fun _ => ?_)
    refine J.aload_n (pc := 13) dX6_readValue_13 rfl 0 rfl ?_
    obtain ⟨a5, e6, h⟩ := bnd h
    have k7 : (kd a5).1 = 17 := gR_k e6
    refine J.fR (pc := 14) dX6_readValue_14 fl_RX6_53 k0 (okN hN k0 (by decide)) rfl e6 ?_
    refine J.iload_n (pc := 17) dX6_readValue_17 rfl 1 rfl ?_
    obtain ⟨μ9, e8, h⟩ := bnd h
    refine J.callV (Y := mX6_readValue) (Z := mX7_addValue) (pc := 18) (st := []) (k2 := 0) (n2 := 0) dX6_readValue_18 ml_RX6_224 mo_X7_addValue mv_X7_addValue rfl (tX7_addValue (d + 4) e8 hN k7) k7 (okN hN k7 (by decide)).1 (okN hN k7 (by decide)).2 cq_7 (by decide) rfl rfl (Nat.le_of_ble_eq_true rfl) (by decide) (by decide) (fun v ν hp => ?_) (fun i ν hp => nrm hp.1)
    obtain ⟨rfl, rfl, hN10, hb11⟩ := QEl hp
    show J _ _ _ _ 21 _ ([]) _ _ _ _
    refine J.aload_n (pc := 21) dX6_readValue_21 rfl 0 rfl ?_
    obtain ⟨μ13, e12, h⟩ := bnd h
    refine J.callV (Y := mX6_readValue) (Z := mX6_advance) (pc := 22) (st := []) (k2 := 0) (n2 := 0) dX6_readValue_22 ml_RX6_65 mo_X6_advance mv_X6_advance rfl (tX6_advance d e12 hN10 k0) k0 (okN hN10 k0 (by decide)).1 (okN hN10 k0 (by decide)).2 cq_6 (by decide) rfl rfl (Nat.le_of_ble_eq_true rfl) (by decide) (by decide) (fun v ν hp => ?_) (fun i ν hp => nrm hp.1)
    obtain ⟨rfl, rfl, hN14, hb15⟩ := QEl hp
    show J _ _ _ _ 25 _ ([]) _ _ _ _
    cases h
    exact J.vret (pc := 25) dX6_readValue_25 rfl ⟨rfl, rfl, hN14, trivial⟩
def fX6_wordOf_7 (μ : Mem) : Nat → Nat → Nat → Int32 → Int32 → Int32 → Option (Int32)
  | 0, _, _, _, _, _ => none
  | n + 1, v0, v1, v2, v3, v4 =>
    if (fJ0_length_8abf5 v1) < v4 then
      some (-1 : Int32)
    else
      if v4 = (fJ0_length_8abf5 v1) then
        if (μ.2.1 v0 6) = (256 : Int32) then
          (fX6_isAt v0 v1 v3 v4 μ).bind fun r8 =>
          if r8 = 0 then
            (fX6_wordOf_7 μ n) v0 v1 (v2 + (1 : Int32)) (v4 + (1 : Int32)) (v4 + (1 : Int32))
          else
            some v2
        else
          (fX6_wordOf_7 μ n) v0 v1 (v2 + (1 : Int32)) (v4 + (1 : Int32)) (v4 + (1 : Int32))
      else
        (fJ0_charAt_5068e v1 v4 μ).bind fun r12 =>
        if r12 = (32 : Int32) then
          if (μ.2.1 v0 6) = (256 : Int32) then
            (fX6_isAt v0 v1 v3 v4 μ).bind fun r16 =>
            if r16 = 0 then
              (fX6_wordOf_7 μ n) v0 v1 (v2 + (1 : Int32)) (v4 + (1 : Int32)) (v4 + (1 : Int32))
            else
              some v2
          else
            (fX6_wordOf_7 μ n) v0 v1 (v2 + (1 : Int32)) (v4 + (1 : Int32)) (v4 + (1 : Int32))
        else
          (fX6_wordOf_7 μ n) v0 v1 v2 v3 (v4 + (1 : Int32))
set_option maxHeartbeats 4000000 in
theorem tX6_wordOf_7 {ω : Wd} {l : Launch} (d : Nat) {μ : Mem} (hN : μ.1 = NN) {res : Int32} : ∀ n : Nat, ∀ (v0 : Nat) (v1 : Nat) (v2 : Int32) (v3 : Int32) (v4 : Int32), fX6_wordOf_7 μ n v0 v1 v2 v3 v4 = some res → (kd v0).1 = 16 → v1 < 15 → J ω l mX6_wordOf (d + 5) 7 [(0, .ref v0), (1, .ref (10000 + v1)), (2, .int v2), (3, .int v3), (4, .int v4)] [] μ 0 0 (PE (.inl (some (.int res))) μ True) := by
  intro n
  induction n with
  | zero =>
    intro v0 v1 v2 v3 v4 h k0 k1
    have h9 : (none : Option (Int32)) = some res := h
    cases h9
  | succ n ih =>
    intro v0 v1 v2 v3 v4 h k0 k1
    unfold fX6_wordOf_7 at h
    refine J.iload (pc := 7) dX6_wordOf_7 4 rfl ?_
    refine J.aload_n (pc := 9) dX6_wordOf_9 rfl 1 rfl ?_
    refine J.callT (Y := mX6_wordOf) (Z := mJ0_length_8abf5) (pc := 10) (st := [.int v4]) (k2 := 0) (n2 := 0) dX6_wordOf_10 ml_RX6_98 mo_J0_length_8abf5 mv_J0_length_8abf5 rfl rfl k1 (tJ0_length_8abf5 (d + 3) v1 μ hN k1) rfl rfl (Nat.le_of_ble_eq_true rfl) (by decide) (by decide) (fun v ν hp => ?_) (fun i ν hp => nrm hp.1)
    obtain ⟨rfl, rfl, hN2, hb3⟩ := QEl hp
    show J _ _ _ _ 13 _ ([.int (fJ0_length_8abf5 v1), .int v4]) _ _ _ _
    rcases ifc h with ⟨hc, h⟩ | ⟨hc, h⟩
    · refine J.cgt (pc := 13) (tgt := 73) dX6_wordOf_13 (by decide) (fun _ => ?_) (fun q => absurd hc q)
      refine J.iconst (pc := 73) dX6_wordOf_73 ic_m1 ?_
      cases h
      exact J.iret (pc := 74) dX6_wordOf_74 rfl ⟨rfl, rfl, hN2, trivial⟩
    · refine J.cgt (pc := 13) (tgt := 73) dX6_wordOf_13 (by decide) (fun q => absurd q hc) (fun _ => ?_)
      refine J.iload (pc := 16) dX6_wordOf_16 4 rfl ?_
      refine J.aload_n (pc := 18) dX6_wordOf_18 rfl 1 rfl ?_
      refine J.callT (Y := mX6_wordOf) (Z := mJ0_length_8abf5) (pc := 19) (st := [.int v4]) (k2 := 0) (n2 := 0) dX6_wordOf_19 ml_RX6_98 mo_J0_length_8abf5 mv_J0_length_8abf5 rfl rfl k1 (tJ0_length_8abf5 (d + 3) v1 μ hN2 k1) rfl rfl (Nat.le_of_ble_eq_true rfl) (by decide) (by decide) (fun v ν hp => ?_) (fun i ν hp => nrm hp.1)
      obtain ⟨rfl, rfl, hN5, hb6⟩ := QEl hp
      show J _ _ _ _ 22 _ ([.int (fJ0_length_8abf5 v1), .int v4]) _ _ _ _
      rcases ifc h with ⟨hc, h⟩ | ⟨hc, h⟩
      · refine J.ceq (pc := 22) (tgt := 36) dX6_wordOf_22 (by decide) (fun _ => ?_) (fun q => absurd hc q)
        refine J.aload_n (pc := 36) dX6_wordOf_36 rfl 0 rfl ?_
        refine J.fI (pc := 37) dX6_wordOf_37 fl_RX6_31 k0 (okN hN5 k0 (by decide)) (Or.inl rfl) ?_
        refine J.sipush (pc := 40) dX6_wordOf_40 is_256 ?_
        rcases ifc h with ⟨hc, h⟩ | ⟨hc, h⟩
        · refine J.cne (pc := 43) (tgt := 59) dX6_wordOf_43 (by decide) (fun _ => ?_) (fun q => absurd hc q)
          refine J.aload_n (pc := 46) dX6_wordOf_46 rfl 0 rfl ?_
          refine J.aload_n (pc := 47) dX6_wordOf_47 rfl 1 rfl ?_
          refine J.iload_n (pc := 48) dX6_wordOf_48 rfl 3 rfl ?_
          refine J.iload (pc := 49) dX6_wordOf_49 4 rfl ?_
          obtain ⟨r8, e7, h⟩ := bnd h
          refine J.callV (Y := mX6_wordOf) (Z := mX6_isAt) (pc := 51) (st := []) (k2 := 0) (n2 := 0) dX6_wordOf_51 ml_RX6_101 mo_X6_isAt mv_X6_isAt rfl (tX6_isAt d e7 hN5 k0 k1) k0 (okN hN5 k0 (by decide)).1 (okN hN5 k0 (by decide)).2 cq_6 (by decide) rfl rfl (Nat.le_of_ble_eq_true rfl) (by decide) (by decide) (fun v ν hp => ?_) (fun i ν hp => nrm hp.1)
          obtain ⟨rfl, rfl, hN9, hb10⟩ := QEl hp
          show J _ _ _ _ 54 _ ([.int r8]) _ _ _ _
          rcases ifc h with ⟨hc, h⟩ | ⟨hc, h⟩
          · refine J.zeq (pc := 54) (tgt := 59) dX6_wordOf_54 (by decide) (fun _ => ?_) (fun q => absurd hc q)
            refine J.iinc (pc := 59) (j := 2) ([(2, .int (v2 + (1 : Int32))), (0, .ref v0), (1, .ref (10000 + v1)), (3, .int v3), (4, .int v4)]) dX6_wordOf_59 rfl (iincv ic_1) (Nat.le_of_ble_eq_true rfl) rfl ?_
            refine J.iload (pc := 62) dX6_wordOf_62 4 rfl ?_
            refine J.iconst (pc := 64) dX6_wordOf_64 ic_1 ?_
            refine J.iadd (pc := 65) dX6_wordOf_65 ?_
            refine J.istore_n (pc := 66) ([(3, .int (v4 + (1 : Int32))), (2, .int (v2 + (1 : Int32))), (0, .ref v0), (1, .ref (10000 + v1)), (4, .int v4)]) dX6_wordOf_66 rfl (Nat.le_of_ble_eq_true rfl) rfl ?_
            refine J.iinc (pc := 67) (j := 4) ([(4, .int (v4 + (1 : Int32))), (3, .int (v4 + (1 : Int32))), (2, .int (v2 + (1 : Int32))), (0, .ref v0), (1, .ref (10000 + v1))]) dX6_wordOf_67 rfl (iincv ic_1) (Nat.le_of_ble_eq_true rfl) rfl ?_
            refine J.goto (pc := 70) (tgt := 7) dX6_wordOf_70 (by decide) ?_
            refine J.pick [3, 4, 2, 1, 0] rfl ?_
            exact ih v0 v1 (v2 + (1 : Int32)) (v4 + (1 : Int32)) (v4 + (1 : Int32)) h k0 k1
          · refine J.zeq (pc := 54) (tgt := 59) dX6_wordOf_54 (by decide) (fun q => absurd q hc) (fun _ => ?_)
            refine J.iload_n (pc := 57) dX6_wordOf_57 rfl 2 rfl ?_
            cases h
            exact J.iret (pc := 58) dX6_wordOf_58 rfl ⟨rfl, rfl, hN9, trivial⟩
        · refine J.cne (pc := 43) (tgt := 59) dX6_wordOf_43 (by decide) (fun q => absurd q hc) (fun _ => ?_)
          refine J.iinc (pc := 59) (j := 2) ([(2, .int (v2 + (1 : Int32))), (0, .ref v0), (1, .ref (10000 + v1)), (3, .int v3), (4, .int v4)]) dX6_wordOf_59 rfl (iincv ic_1) (Nat.le_of_ble_eq_true rfl) rfl ?_
          refine J.iload (pc := 62) dX6_wordOf_62 4 rfl ?_
          refine J.iconst (pc := 64) dX6_wordOf_64 ic_1 ?_
          refine J.iadd (pc := 65) dX6_wordOf_65 ?_
          refine J.istore_n (pc := 66) ([(3, .int (v4 + (1 : Int32))), (2, .int (v2 + (1 : Int32))), (0, .ref v0), (1, .ref (10000 + v1)), (4, .int v4)]) dX6_wordOf_66 rfl (Nat.le_of_ble_eq_true rfl) rfl ?_
          refine J.iinc (pc := 67) (j := 4) ([(4, .int (v4 + (1 : Int32))), (3, .int (v4 + (1 : Int32))), (2, .int (v2 + (1 : Int32))), (0, .ref v0), (1, .ref (10000 + v1))]) dX6_wordOf_67 rfl (iincv ic_1) (Nat.le_of_ble_eq_true rfl) rfl ?_
          refine J.goto (pc := 70) (tgt := 7) dX6_wordOf_70 (by decide) ?_
          refine J.pick [3, 4, 2, 1, 0] rfl ?_
          exact ih v0 v1 (v2 + (1 : Int32)) (v4 + (1 : Int32)) (v4 + (1 : Int32)) h k0 k1
      · refine J.ceq (pc := 22) (tgt := 36) dX6_wordOf_22 (by decide) (fun q => absurd q hc) (fun _ => ?_)
        refine J.aload_n (pc := 25) dX6_wordOf_25 rfl 1 rfl ?_
        refine J.iload (pc := 26) dX6_wordOf_26 4 rfl ?_
        obtain ⟨r12, e11, h⟩ := bnd h
        refine J.callT (Y := mX6_wordOf) (Z := mJ0_charAt_5068e) (pc := 28) (st := []) (k2 := 0) (n2 := 0) dX6_wordOf_28 ml_RX6_105 mo_J0_charAt_5068e mv_J0_charAt_5068e rfl rfl k1 (tJ0_charAt_5068e (d + 1) e11 hN5 k1) rfl rfl (Nat.le_of_ble_eq_true rfl) (by decide) (by decide) (fun v ν hp => ?_) (fun i ν hp => nrm hp.1)
        obtain ⟨rfl, rfl, hN13, hb14⟩ := QEl hp
        show J _ _ _ _ 31 _ ([.int r12]) _ _ _ _
        refine J.bipush (pc := 31) dX6_wordOf_31 ib_32 ?_
        rcases ifc h with ⟨hc, h⟩ | ⟨hc, h⟩
        · refine J.cne (pc := 33) (tgt := 67) dX6_wordOf_33 (by decide) (fun _ => ?_) (fun q => absurd hc q)
          refine J.aload_n (pc := 36) dX6_wordOf_36 rfl 0 rfl ?_
          refine J.fI (pc := 37) dX6_wordOf_37 fl_RX6_31 k0 (okN hN13 k0 (by decide)) (Or.inl rfl) ?_
          refine J.sipush (pc := 40) dX6_wordOf_40 is_256 ?_
          rcases ifc h with ⟨hc, h⟩ | ⟨hc, h⟩
          · refine J.cne (pc := 43) (tgt := 59) dX6_wordOf_43 (by decide) (fun _ => ?_) (fun q => absurd hc q)
            refine J.aload_n (pc := 46) dX6_wordOf_46 rfl 0 rfl ?_
            refine J.aload_n (pc := 47) dX6_wordOf_47 rfl 1 rfl ?_
            refine J.iload_n (pc := 48) dX6_wordOf_48 rfl 3 rfl ?_
            refine J.iload (pc := 49) dX6_wordOf_49 4 rfl ?_
            obtain ⟨r16, e15, h⟩ := bnd h
            refine J.callV (Y := mX6_wordOf) (Z := mX6_isAt) (pc := 51) (st := []) (k2 := 0) (n2 := 0) dX6_wordOf_51 ml_RX6_101 mo_X6_isAt mv_X6_isAt rfl (tX6_isAt d e15 hN13 k0 k1) k0 (okN hN13 k0 (by decide)).1 (okN hN13 k0 (by decide)).2 cq_6 (by decide) rfl rfl (Nat.le_of_ble_eq_true rfl) (by decide) (by decide) (fun v ν hp => ?_) (fun i ν hp => nrm hp.1)
            obtain ⟨rfl, rfl, hN17, hb18⟩ := QEl hp
            show J _ _ _ _ 54 _ ([.int r16]) _ _ _ _
            rcases ifc h with ⟨hc, h⟩ | ⟨hc, h⟩
            · refine J.zeq (pc := 54) (tgt := 59) dX6_wordOf_54 (by decide) (fun _ => ?_) (fun q => absurd hc q)
              refine J.iinc (pc := 59) (j := 2) ([(2, .int (v2 + (1 : Int32))), (0, .ref v0), (1, .ref (10000 + v1)), (3, .int v3), (4, .int v4)]) dX6_wordOf_59 rfl (iincv ic_1) (Nat.le_of_ble_eq_true rfl) rfl ?_
              refine J.iload (pc := 62) dX6_wordOf_62 4 rfl ?_
              refine J.iconst (pc := 64) dX6_wordOf_64 ic_1 ?_
              refine J.iadd (pc := 65) dX6_wordOf_65 ?_
              refine J.istore_n (pc := 66) ([(3, .int (v4 + (1 : Int32))), (2, .int (v2 + (1 : Int32))), (0, .ref v0), (1, .ref (10000 + v1)), (4, .int v4)]) dX6_wordOf_66 rfl (Nat.le_of_ble_eq_true rfl) rfl ?_
              refine J.iinc (pc := 67) (j := 4) ([(4, .int (v4 + (1 : Int32))), (3, .int (v4 + (1 : Int32))), (2, .int (v2 + (1 : Int32))), (0, .ref v0), (1, .ref (10000 + v1))]) dX6_wordOf_67 rfl (iincv ic_1) (Nat.le_of_ble_eq_true rfl) rfl ?_
              refine J.goto (pc := 70) (tgt := 7) dX6_wordOf_70 (by decide) ?_
              refine J.pick [3, 4, 2, 1, 0] rfl ?_
              exact ih v0 v1 (v2 + (1 : Int32)) (v4 + (1 : Int32)) (v4 + (1 : Int32)) h k0 k1
            · refine J.zeq (pc := 54) (tgt := 59) dX6_wordOf_54 (by decide) (fun q => absurd q hc) (fun _ => ?_)
              refine J.iload_n (pc := 57) dX6_wordOf_57 rfl 2 rfl ?_
              cases h
              exact J.iret (pc := 58) dX6_wordOf_58 rfl ⟨rfl, rfl, hN17, trivial⟩
          · refine J.cne (pc := 43) (tgt := 59) dX6_wordOf_43 (by decide) (fun q => absurd q hc) (fun _ => ?_)
            refine J.iinc (pc := 59) (j := 2) ([(2, .int (v2 + (1 : Int32))), (0, .ref v0), (1, .ref (10000 + v1)), (3, .int v3), (4, .int v4)]) dX6_wordOf_59 rfl (iincv ic_1) (Nat.le_of_ble_eq_true rfl) rfl ?_
            refine J.iload (pc := 62) dX6_wordOf_62 4 rfl ?_
            refine J.iconst (pc := 64) dX6_wordOf_64 ic_1 ?_
            refine J.iadd (pc := 65) dX6_wordOf_65 ?_
            refine J.istore_n (pc := 66) ([(3, .int (v4 + (1 : Int32))), (2, .int (v2 + (1 : Int32))), (0, .ref v0), (1, .ref (10000 + v1)), (4, .int v4)]) dX6_wordOf_66 rfl (Nat.le_of_ble_eq_true rfl) rfl ?_
            refine J.iinc (pc := 67) (j := 4) ([(4, .int (v4 + (1 : Int32))), (3, .int (v4 + (1 : Int32))), (2, .int (v2 + (1 : Int32))), (0, .ref v0), (1, .ref (10000 + v1))]) dX6_wordOf_67 rfl (iincv ic_1) (Nat.le_of_ble_eq_true rfl) rfl ?_
            refine J.goto (pc := 70) (tgt := 7) dX6_wordOf_70 (by decide) ?_
            refine J.pick [3, 4, 2, 1, 0] rfl ?_
            exact ih v0 v1 (v2 + (1 : Int32)) (v4 + (1 : Int32)) (v4 + (1 : Int32)) h k0 k1
        · refine J.cne (pc := 33) (tgt := 67) dX6_wordOf_33 (by decide) (fun q => absurd q hc) (fun _ => ?_)
          refine J.iinc (pc := 67) (j := 4) ([(4, .int (v4 + (1 : Int32))), (0, .ref v0), (1, .ref (10000 + v1)), (2, .int v2), (3, .int v3)]) dX6_wordOf_67 rfl (iincv ic_1) (Nat.le_of_ble_eq_true rfl) rfl ?_
          refine J.goto (pc := 70) (tgt := 7) dX6_wordOf_70 (by decide) ?_
          refine J.pick [1, 2, 3, 4, 0] rfl ?_
          exact ih v0 v1 v2 v3 (v4 + (1 : Int32)) h k0 k1
def fX6_wordOf (v0 : Nat) (v1 : Nat) (μ : Mem) : Option (Int32) :=
  (fX6_wordOf_7 μ fuel) v0 v1 (0 : Int32) (0 : Int32) (0 : Int32)
set_option maxHeartbeats 4000000 in
theorem tX6_wordOf {ω : Wd} {l : Launch} (d : Nat) {v0 : Nat} {v1 : Nat} {μ : Mem} {res : Int32} (h : fX6_wordOf v0 v1 μ = some res) (hN : μ.1 = NN) (k0 : (kd v0).1 = 16) (k1 : v1 < 15) : Ct ω l mX6_wordOf (d + 5) [.ref v0, .ref (10000 + v1)] μ 0 0 (PE (.inl (some (.int res))) μ True) := by
  refine Ct.of pn_RX6 (Nat.le_of_ble_eq_true rfl) ?_
  show J ω l mX6_wordOf (d + 5) 0 [(0, .ref v0), (1, .ref (10000 + v1))] [] μ 0 0 _
  unfold fX6_wordOf at h
  refine J.iconst (pc := 0) dX6_wordOf_0 ic_0 ?_
  refine J.istore_n (pc := 1) ([(2, .int (0 : Int32)), (0, .ref v0), (1, .ref (10000 + v1))]) dX6_wordOf_1 rfl (Nat.le_of_ble_eq_true rfl) rfl ?_
  refine J.iconst (pc := 2) dX6_wordOf_2 ic_0 ?_
  refine J.istore_n (pc := 3) ([(3, .int (0 : Int32)), (2, .int (0 : Int32)), (0, .ref v0), (1, .ref (10000 + v1))]) dX6_wordOf_3 rfl (Nat.le_of_ble_eq_true rfl) rfl ?_
  refine J.iconst (pc := 4) dX6_wordOf_4 ic_0 ?_
  refine J.istore (pc := 5) ([(4, .int (0 : Int32)), (3, .int (0 : Int32)), (2, .int (0 : Int32)), (0, .ref v0), (1, .ref (10000 + v1))]) dX6_wordOf_5 (Nat.le_of_ble_eq_true rfl) rfl ?_
  refine J.pick [3, 4, 2, 1, 0] rfl ?_
  exact (tX6_wordOf_7 d hN fuel) v0 v1 (0 : Int32) (0 : Int32) (0 : Int32) h k0 k1
def fX6_readPart (rec : Nat → Int32 → Mem → Option Mem) (v0 : Nat) (v1 : Int32) (μ : Mem) : Option (Mem) :=
  if (μ.2.1 v0 0) = 0 then
    if (μ.2.1 v0 6) = (256 : Int32) then
      (gS μ v0 10).bind fun a1 =>
      (fX6_wordOf v0 a1 μ).bind fun r5 =>
      (fX6_readValue v0 r5 μ).bind fun μ9 =>
      some μ9
    else
      if (μ.2.1 v0 6) = (40 : Int32) then
        (fX6_advance v0 μ).bind fun μ13 =>
        (rec v0 (v1 + (1 : Int32)) μ13).bind fun μ17 =>
        (fX6_pass v0 (41 : Int32) μ17).bind fun μ21 =>
        some μ21
      else
        (gR μ v0 9 17).bind fun a24 =>
        (fX6_numberBelow v0 (10000 : Int32) (2 : Int32) μ).bind fun (r29, μ28) =>
        (fX7_add a24 r29 μ28).bind fun μ33 =>
        if (μ33.2.1 v0 0) = 0 then
          (fX6_advance v0 μ33).bind fun μ37 =>
          some μ37
        else
          some μ33
  else
    some μ
set_option maxHeartbeats 4000000 in
theorem tX6_readPart {ω : Wd} {l : Launch} {d : Nat} {rec : Nat → Int32 → Mem → Option Mem} (hrec : HR ω l d rec) {v0 : Nat} {v1 : Int32} {μ : Mem} {res : Mem} (h : fX6_readPart rec v0 v1 μ = some res) (hN : μ.1 = NN) (k0 : (kd v0).1 = 16) : Ct ω l mX6_readPart (d + 21) [.ref v0, .int v1] μ 0 0 (PE (.inl none) res True) := by
  refine Ct.of pn_RX6 (Nat.le_of_ble_eq_true rfl) ?_
  show J ω l mX6_readPart (d + 21) 0 [(0, .ref v0), (1, .int v1)] [] μ 0 0 _
  unfold fX6_readPart at h
  refine J.aload_n (pc := 0) dX6_readPart_0 rfl 0 rfl ?_
  refine J.fI (pc := 1) dX6_readPart_1 fl_RX6_9 k0 (okN hN k0 (by decide)) (Or.inl rfl) ?_
  rcases ifc h with ⟨hc, h⟩ | ⟨hc, h⟩
  · refine J.zeq (pc := 4) (tgt := 8) dX6_readPart_4 (by decide) (fun _ => ?_) (fun q => absurd hc q)
    refine J.aload_n (pc := 8) dX6_readPart_8 rfl 0 rfl ?_
    refine J.fI (pc := 9) dX6_readPart_9 fl_RX6_31 k0 (okN hN k0 (by decide)) (Or.inl rfl) ?_
    refine J.sipush (pc := 12) dX6_readPart_12 is_256 ?_
    rcases ifc h with ⟨hc, h⟩ | ⟨hc, h⟩
    · refine J.cne (pc := 15) (tgt := 33) dX6_readPart_15 (by decide) (fun _ => ?_) (fun q => absurd hc q)
      refine J.aload_n (pc := 18) dX6_readPart_18 rfl 0 rfl ?_
      refine J.aload_n (pc := 19) dX6_readPart_19 rfl 0 rfl ?_
      refine J.aload_n (pc := 20) dX6_readPart_20 rfl 0 rfl ?_
      obtain ⟨a1, e2, h⟩ := bnd h
      have k3 : a1 < 15 := (gS_ok e2).2
      refine J.fS (pc := 21) dX6_readPart_21 fl_RX6_39 k0 (okN hN k0 (by decide)) rfl e2 ?_
      obtain ⟨r5, e4, h⟩ := bnd h
      refine J.callV (Y := mX6_readPart) (Z := mX6_wordOf) (pc := 24) (st := [.ref v0]) (k2 := 0) (n2 := 0) dX6_readPart_24 ml_RX6_115 mo_X6_wordOf mv_X6_wordOf rfl (tX6_wordOf (d + 15) e4 hN k0 k3) k0 (okN hN k0 (by decide)).1 (okN hN k0 (by decide)).2 cq_6 (by decide) rfl rfl (Nat.le_of_ble_eq_true rfl) (by decide) (by decide) (fun v ν hp => ?_) (fun i ν hp => nrm hp.1)
      obtain ⟨rfl, rfl, hN6, hb7⟩ := QEl hp
      show J _ _ _ _ 27 _ ([.int r5, .ref v0]) _ _ _ _
      obtain ⟨μ9, e8, h⟩ := bnd h
      refine J.callV (Y := mX6_readPart) (Z := mX6_readValue) (pc := 27) (st := []) (k2 := 0) (n2 := 0) dX6_readPart_27 ml_RX6_221 mo_X6_readValue mv_X6_readValue rfl (tX6_readValue (d + 14) e8 hN6 k0) k0 (okN hN6 k0 (by decide)).1 (okN hN6 k0 (by decide)).2 cq_6 (by decide) rfl rfl (Nat.le_of_ble_eq_true rfl) (by decide) (by decide) (fun v ν hp => ?_) (fun i ν hp => nrm hp.1)
      obtain ⟨rfl, rfl, hN10, hb11⟩ := QEl hp
      show J _ _ _ _ 30 _ ([]) _ _ _ _
      refine J.goto (pc := 30) (tgt := 88) dX6_readPart_30 (by decide) ?_
      cases h
      exact J.vret (pc := 88) dX6_readPart_88 rfl ⟨rfl, rfl, hN10, trivial⟩
    · refine J.cne (pc := 15) (tgt := 33) dX6_readPart_15 (by decide) (fun q => absurd q hc) (fun _ => ?_)
      refine J.aload_n (pc := 33) dX6_readPart_33 rfl 0 rfl ?_
      refine J.fI (pc := 34) dX6_readPart_34 fl_RX6_31 k0 (okN hN k0 (by decide)) (Or.inl rfl) ?_
      refine J.bipush (pc := 37) dX6_readPart_37 ib_40 ?_
      rcases ifc h with ⟨hc, h⟩ | ⟨hc, h⟩
      · refine J.cne (pc := 39) (tgt := 62) dX6_readPart_39 (by decide) (fun _ => ?_) (fun q => absurd hc q)
        refine J.aload_n (pc := 42) dX6_readPart_42 rfl 0 rfl ?_
        obtain ⟨μ13, e12, h⟩ := bnd h
        refine J.callV (Y := mX6_readPart) (Z := mX6_advance) (pc := 43) (st := []) (k2 := 0) (n2 := 0) dX6_readPart_43 ml_RX6_65 mo_X6_advance mv_X6_advance rfl (tX6_advance (d + 15) e12 hN k0) k0 (okN hN k0 (by decide)).1 (okN hN k0 (by decide)).2 cq_6 (by decide) rfl rfl (Nat.le_of_ble_eq_true rfl) (by decide) (by decide) (fun v ν hp => ?_) (fun i ν hp => nrm hp.1)
        obtain ⟨rfl, rfl, hN14, hb15⟩ := QEl hp
        show J _ _ _ _ 46 _ ([]) _ _ _ _
        refine J.aload_n (pc := 46) dX6_readPart_46 rfl 0 rfl ?_
        refine J.iload_n (pc := 47) dX6_readPart_47 rfl 1 rfl ?_
        refine J.iconst (pc := 48) dX6_readPart_48 ic_1 ?_
        refine J.iadd (pc := 49) dX6_readPart_49 ?_
        obtain ⟨μ17, e16, h⟩ := bnd h
        refine J.callV (Y := mX6_readPart) (Z := mX6_readExpr) (pc := 50) (st := []) (k2 := 0) (n2 := 0) dX6_readPart_50 ml_RX6_194 mo_X6_readExpr mv_X6_readExpr rfl (hrec v0 (v1 + (1 : Int32)) μ13 _ e16 hN14 k0) k0 (okN hN14 k0 (by decide)).1 (okN hN14 k0 (by decide)).2 cq_6 (by decide) rfl rfl (Nat.le_of_ble_eq_true rfl) (by decide) (by decide) (fun v ν hp => ?_) (fun i ν hp => nrm hp.1)
        obtain ⟨rfl, rfl, hN18, hb19⟩ := QEl hp
        show J _ _ _ _ 53 _ ([]) _ _ _ _
        refine J.aload_n (pc := 53) dX6_readPart_53 rfl 0 rfl ?_
        refine J.bipush (pc := 54) dX6_readPart_54 ib_41 ?_
        obtain ⟨μ21, e20, h⟩ := bnd h
        refine J.callV (Y := mX6_readPart) (Z := mX6_pass) (pc := 56) (st := []) (k2 := 0) (n2 := 0) dX6_readPart_56 ml_RX6_137 mo_X6_pass mv_X6_pass rfl (tX6_pass (d + 14) e20 hN18 k0) k0 (okN hN18 k0 (by decide)).1 (okN hN18 k0 (by decide)).2 cq_6 (by decide) rfl rfl (Nat.le_of_ble_eq_true rfl) (by decide) (by decide) (fun v ν hp => ?_) (fun i ν hp => nrm hp.1)
        obtain ⟨rfl, rfl, hN22, hb23⟩ := QEl hp
        show J _ _ _ _ 59 _ ([]) _ _ _ _
        refine J.goto (pc := 59) (tgt := 88) dX6_readPart_59 (by decide) ?_
        cases h
        exact J.vret (pc := 88) dX6_readPart_88 rfl ⟨rfl, rfl, hN22, trivial⟩
      · refine J.cne (pc := 39) (tgt := 62) dX6_readPart_39 (by decide) (fun q => absurd q hc) (fun _ => ?_)
        refine J.aload_n (pc := 62) dX6_readPart_62 rfl 0 rfl ?_
        obtain ⟨a24, e25, h⟩ := bnd h
        have k26 : (kd a24).1 = 17 := gR_k e25
        refine J.fR (pc := 63) dX6_readPart_63 fl_RX6_53 k0 (okN hN k0 (by decide)) rfl e25 ?_
        refine J.aload_n (pc := 66) dX6_readPart_66 rfl 0 rfl ?_
        refine J.sipush (pc := 67) dX6_readPart_67 is_10000 ?_
        refine J.iconst (pc := 70) dX6_readPart_70 ic_2 ?_
        obtain ⟨⟨r29, μ28⟩, e27, h⟩ := bnd h
        try dsimp only at h
        refine J.callV (Y := mX6_readPart) (Z := mX6_numberBelow) (pc := 71) (st := [.ref a24]) (k2 := 0) (n2 := 0) dX6_readPart_71 ml_RX6_143 mo_X6_numberBelow mv_X6_numberBelow rfl (tX6_numberBelow (d + 19) e27 hN k0) k0 (okN hN k0 (by decide)).1 (okN hN k0 (by decide)).2 cq_6 (by decide) rfl rfl (Nat.le_of_ble_eq_true rfl) (by decide) (by decide) (fun v ν hp => ?_) (fun i ν hp => nrm hp.1)
        obtain ⟨rfl, rfl, hN30, hb31⟩ := QEl hp
        show J _ _ _ _ 74 _ ([.int r29, .ref a24]) _ _ _ _
        obtain ⟨μ33, e32, h⟩ := bnd h
        refine J.callV (Y := mX6_readPart) (Z := mX7_add) (pc := 74) (st := []) (k2 := 0) (n2 := 0) dX6_readPart_74 ml_RX6_202 mo_X7_add mv_X7_add rfl (tX7_add (d + 20) e32 hN30 k26) k26 (okN hN30 k26 (by decide)).1 (okN hN30 k26 (by decide)).2 cq_7 (by decide) rfl rfl (Nat.le_of_ble_eq_true rfl) (by decide) (by decide) (fun v ν hp => ?_) (fun i ν hp => nrm hp.1)
        obtain ⟨rfl, rfl, hN34, hb35⟩ := QEl hp
        show J _ _ _ _ 77 _ ([]) _ _ _ _
        refine J.aload_n (pc := 77) dX6_readPart_77 rfl 0 rfl ?_
        refine J.fI (pc := 78) dX6_readPart_78 fl_RX6_9 k0 (okN hN34 k0 (by decide)) (Or.inl rfl) ?_
        rcases ifc h with ⟨hc, h⟩ | ⟨hc, h⟩
        · refine J.zne (pc := 81) (tgt := 88) dX6_readPart_81 (by decide) (fun _ => ?_) (fun q => absurd hc q)
          refine J.aload_n (pc := 84) dX6_readPart_84 rfl 0 rfl ?_
          obtain ⟨μ37, e36, h⟩ := bnd h
          refine J.callV (Y := mX6_readPart) (Z := mX6_advance) (pc := 85) (st := []) (k2 := 0) (n2 := 0) dX6_readPart_85 ml_RX6_65 mo_X6_advance mv_X6_advance rfl (tX6_advance (d + 15) e36 hN34 k0) k0 (okN hN34 k0 (by decide)).1 (okN hN34 k0 (by decide)).2 cq_6 (by decide) rfl rfl (Nat.le_of_ble_eq_true rfl) (by decide) (by decide) (fun v ν hp => ?_) (fun i ν hp => nrm hp.1)
          obtain ⟨rfl, rfl, hN38, hb39⟩ := QEl hp
          show J _ _ _ _ 88 _ ([]) _ _ _ _
          cases h
          exact J.vret (pc := 88) dX6_readPart_88 rfl ⟨rfl, rfl, hN38, trivial⟩
        · refine J.zne (pc := 81) (tgt := 88) dX6_readPart_81 (by decide) (fun q => absurd q hc) (fun _ => ?_)
          cases h
          exact J.vret (pc := 88) dX6_readPart_88 rfl ⟨rfl, rfl, hN34, trivial⟩
  · refine J.zeq (pc := 4) (tgt := 8) dX6_readPart_4 (by decide) (fun q => absurd q hc) (fun _ => ?_)
    cases h
    exact J.vret (pc := 7) dX6_readPart_7 rfl ⟨rfl, rfl, hN, trivial⟩
def fX6_readProduct_7 (rec : Nat → Int32 → Mem → Option Mem)  : Nat → Nat → Int32 → Int32 → Mem → Option (Mem)
  | 0, _, _, _, _ => none
  | n + 1, v0, v1, v2, μ =>
    if v2 < (700 : Int32) then
      if (μ.2.1 v0 0) = 0 then
        if (μ.2.1 v0 6) = (42 : Int32) then
          if (μ.2.1 v0 6) = (42 : Int32) then
            (fX6_advance v0 μ).bind fun μ2 =>
            (fX6_readPart rec v0 v1 μ2).bind fun μ6 =>
            (gR μ6 v0 9 17).bind fun a9 =>
            (fX7_add a9 (-17 : Int32) μ6).bind fun μ13 =>
            (fX6_readProduct_7 rec n) v0 v1 (v2 + (1 : Int32)) μ13
          else
            (fX6_advance v0 μ).bind fun μ17 =>
            (fX6_readPart rec v0 v1 μ17).bind fun μ21 =>
            (gR μ21 v0 9 17).bind fun a24 =>
            (fX7_add a24 (-18 : Int32) μ21).bind fun μ28 =>
            (fX6_readProduct_7 rec n) v0 v1 (v2 + (1 : Int32)) μ28
        else
          if (μ.2.1 v0 6) = (47 : Int32) then
            if (μ.2.1 v0 6) = (42 : Int32) then
              (fX6_advance v0 μ).bind fun μ32 =>
              (fX6_readPart rec v0 v1 μ32).bind fun μ36 =>
              (gR μ36 v0 9 17).bind fun a39 =>
              (fX7_add a39 (-17 : Int32) μ36).bind fun μ43 =>
              (fX6_readProduct_7 rec n) v0 v1 (v2 + (1 : Int32)) μ43
            else
              (fX6_advance v0 μ).bind fun μ47 =>
              (fX6_readPart rec v0 v1 μ47).bind fun μ51 =>
              (gR μ51 v0 9 17).bind fun a54 =>
              (fX7_add a54 (-18 : Int32) μ51).bind fun μ58 =>
              (fX6_readProduct_7 rec n) v0 v1 (v2 + (1 : Int32)) μ58
          else
            some μ
      else
        some μ
    else
      some μ
set_option maxHeartbeats 4000000 in
theorem tX6_readProduct_7 {ω : Wd} {l : Launch} (d : Nat) {rec : Nat → Int32 → Mem → Option Mem} (hrec : HR ω l d rec) {res : Mem} : ∀ n : Nat, ∀ (v0 : Nat) (v1 : Int32) (v2 : Int32) (μ : Mem), fX6_readProduct_7 rec n v0 v1 v2 μ = some res → μ.1 = NN → (kd v0).1 = 16 → J ω l mX6_readProduct (d + 22) 7 [(0, .ref v0), (1, .int v1), (2, .int v2)] [] μ 0 0 (PE (.inl none) res True) := by
  intro n
  induction n with
  | zero =>
    intro v0 v1 v2 μ h hN k0
    have h9 : (none : Option (Mem)) = some res := h
    cases h9
  | succ n ih =>
    intro v0 v1 v2 μ h hN k0
    unfold fX6_readProduct_7 at h
    refine J.iload_n (pc := 7) dX6_readProduct_7 rfl 2 rfl ?_
    refine J.sipush (pc := 8) dX6_readProduct_8 is_700 ?_
    rcases ifc h with ⟨hc, h⟩ | ⟨hc, h⟩
    · refine J.cge (pc := 11) (tgt := 79) dX6_readProduct_11 (by decide) (fun _ => ?_) (fun q => absurd hc q)
      refine J.aload_n (pc := 14) dX6_readProduct_14 rfl 0 rfl ?_
      refine J.fI (pc := 15) dX6_readProduct_15 fl_RX6_9 k0 (okN hN k0 (by decide)) (Or.inl rfl) ?_
      rcases ifc h with ⟨hc, h⟩ | ⟨hc, h⟩
      · refine J.zne (pc := 18) (tgt := 79) dX6_readProduct_18 (by decide) (fun _ => ?_) (fun q => absurd hc q)
        refine J.aload_n (pc := 21) dX6_readProduct_21 rfl 0 rfl ?_
        refine J.fI (pc := 22) dX6_readProduct_22 fl_RX6_31 k0 (okN hN k0 (by decide)) (Or.inl rfl) ?_
        refine J.bipush (pc := 25) dX6_readProduct_25 ib_42 ?_
        rcases ifc h with ⟨hc, h⟩ | ⟨hc, h⟩
        · refine J.ceq (pc := 27) (tgt := 39) dX6_readProduct_27 (by decide) (fun _ => ?_) (fun q => absurd hc q)
          refine J.aload_n (pc := 39) dX6_readProduct_39 rfl 0 rfl ?_
          refine J.fI (pc := 40) dX6_readProduct_40 fl_RX6_31 k0 (okN hN k0 (by decide)) (Or.inl rfl) ?_
          refine J.bipush (pc := 43) dX6_readProduct_43 ib_42 ?_
          rcases ifc h with ⟨hc, h⟩ | ⟨hc, h⟩
          · refine J.cne (pc := 45) (tgt := 53) dX6_readProduct_45 (by decide) (fun _ => ?_) (fun q => absurd hc q)
            refine J.bipush (pc := 48) dX6_readProduct_48 ib_m17 ?_
            refine J.goto (pc := 50) (tgt := 55) dX6_readProduct_50 (by decide) ?_
            refine J.istore_n (pc := 55) ([(3, .int (-17 : Int32)), (0, .ref v0), (1, .int v1), (2, .int v2)]) dX6_readProduct_55 rfl (Nat.le_of_ble_eq_true rfl) rfl ?_
            refine J.aload_n (pc := 56) dX6_readProduct_56 rfl 1 rfl ?_
            obtain ⟨μ2, e1, h⟩ := bnd h
            refine J.callV (Y := mX6_readProduct) (Z := mX6_advance) (pc := 57) (st := []) (k2 := 0) (n2 := 0) dX6_readProduct_57 ml_RX6_65 mo_X6_advance mv_X6_advance rfl (tX6_advance (d + 16) e1 hN k0) k0 (okN hN k0 (by decide)).1 (okN hN k0 (by decide)).2 cq_6 (by decide) rfl rfl (Nat.le_of_ble_eq_true rfl) (by decide) (by decide) (fun v ν hp => ?_) (fun i ν hp => nrm hp.1)
            obtain ⟨rfl, rfl, hN3, hb4⟩ := QEl hp
            show J _ _ _ _ 60 _ ([]) _ _ _ _
            refine J.aload_n (pc := 60) dX6_readProduct_60 rfl 1 rfl ?_
            refine J.iload_n (pc := 61) dX6_readProduct_61 rfl 2 rfl ?_
            obtain ⟨μ6, e5, h⟩ := bnd h
            refine J.callV (Y := mX6_readProduct) (Z := mX6_readPart) (pc := 62) (st := []) (k2 := 0) (n2 := 0) dX6_readProduct_62 ml_RX6_218 mo_X6_readPart mv_X6_readPart rfl (tX6_readPart hrec e5 hN3 k0) k0 (okN hN3 k0 (by decide)).1 (okN hN3 k0 (by decide)).2 cq_6 (by decide) rfl rfl (Nat.le_of_ble_eq_true rfl) (by decide) (by decide) (fun v ν hp => ?_) (fun i ν hp => nrm hp.1)
            obtain ⟨rfl, rfl, hN7, hb8⟩ := QEl hp
            show J _ _ _ _ 65 _ ([]) _ _ _ _
            refine J.aload_n (pc := 65) dX6_readProduct_65 rfl 1 rfl ?_
            obtain ⟨a9, e10, h⟩ := bnd h
            have k11 : (kd a9).1 = 17 := gR_k e10
            refine J.fR (pc := 66) dX6_readProduct_66 fl_RX6_53 k0 (okN hN7 k0 (by decide)) rfl e10 ?_
            refine J.iload_n (pc := 69) dX6_readProduct_69 rfl 0 rfl ?_
            obtain ⟨μ13, e12, h⟩ := bnd h
            refine J.callV (Y := mX6_readProduct) (Z := mX7_add) (pc := 70) (st := []) (k2 := 0) (n2 := 0) dX6_readProduct_70 ml_RX6_202 mo_X7_add mv_X7_add rfl (tX7_add (d + 21) e12 hN7 k11) k11 (okN hN7 k11 (by decide)).1 (okN hN7 k11 (by decide)).2 cq_7 (by decide) rfl rfl (Nat.le_of_ble_eq_true rfl) (by decide) (by decide) (fun v ν hp => ?_) (fun i ν hp => nrm hp.1)
            obtain ⟨rfl, rfl, hN14, hb15⟩ := QEl hp
            show J _ _ _ _ 73 _ ([]) _ _ _ _
            refine J.iinc (pc := 73) (j := 3) ([(2, .int (v2 + (1 : Int32))), (3, .int (-17 : Int32)), (0, .ref v0), (1, .int v1)]) dX6_readProduct_73 rfl (iincv ic_1) (Nat.le_of_ble_eq_true rfl) rfl ?_
            refine J.goto (pc := 76) (tgt := 7) dX6_readProduct_76 (by decide) ?_
            refine J.pick [2, 3, 0] rfl ?_
            exact ih v0 v1 (v2 + (1 : Int32)) μ13 h hN14 k0
          · refine J.cne (pc := 45) (tgt := 53) dX6_readProduct_45 (by decide) (fun q => absurd q hc) (fun _ => ?_)
            refine J.bipush (pc := 53) dX6_readProduct_53 ib_m18 ?_
            refine J.istore_n (pc := 55) ([(3, .int (-18 : Int32)), (0, .ref v0), (1, .int v1), (2, .int v2)]) dX6_readProduct_55 rfl (Nat.le_of_ble_eq_true rfl) rfl ?_
            refine J.aload_n (pc := 56) dX6_readProduct_56 rfl 1 rfl ?_
            obtain ⟨μ17, e16, h⟩ := bnd h
            refine J.callV (Y := mX6_readProduct) (Z := mX6_advance) (pc := 57) (st := []) (k2 := 0) (n2 := 0) dX6_readProduct_57 ml_RX6_65 mo_X6_advance mv_X6_advance rfl (tX6_advance (d + 16) e16 hN k0) k0 (okN hN k0 (by decide)).1 (okN hN k0 (by decide)).2 cq_6 (by decide) rfl rfl (Nat.le_of_ble_eq_true rfl) (by decide) (by decide) (fun v ν hp => ?_) (fun i ν hp => nrm hp.1)
            obtain ⟨rfl, rfl, hN18, hb19⟩ := QEl hp
            show J _ _ _ _ 60 _ ([]) _ _ _ _
            refine J.aload_n (pc := 60) dX6_readProduct_60 rfl 1 rfl ?_
            refine J.iload_n (pc := 61) dX6_readProduct_61 rfl 2 rfl ?_
            obtain ⟨μ21, e20, h⟩ := bnd h
            refine J.callV (Y := mX6_readProduct) (Z := mX6_readPart) (pc := 62) (st := []) (k2 := 0) (n2 := 0) dX6_readProduct_62 ml_RX6_218 mo_X6_readPart mv_X6_readPart rfl (tX6_readPart hrec e20 hN18 k0) k0 (okN hN18 k0 (by decide)).1 (okN hN18 k0 (by decide)).2 cq_6 (by decide) rfl rfl (Nat.le_of_ble_eq_true rfl) (by decide) (by decide) (fun v ν hp => ?_) (fun i ν hp => nrm hp.1)
            obtain ⟨rfl, rfl, hN22, hb23⟩ := QEl hp
            show J _ _ _ _ 65 _ ([]) _ _ _ _
            refine J.aload_n (pc := 65) dX6_readProduct_65 rfl 1 rfl ?_
            obtain ⟨a24, e25, h⟩ := bnd h
            have k26 : (kd a24).1 = 17 := gR_k e25
            refine J.fR (pc := 66) dX6_readProduct_66 fl_RX6_53 k0 (okN hN22 k0 (by decide)) rfl e25 ?_
            refine J.iload_n (pc := 69) dX6_readProduct_69 rfl 0 rfl ?_
            obtain ⟨μ28, e27, h⟩ := bnd h
            refine J.callV (Y := mX6_readProduct) (Z := mX7_add) (pc := 70) (st := []) (k2 := 0) (n2 := 0) dX6_readProduct_70 ml_RX6_202 mo_X7_add mv_X7_add rfl (tX7_add (d + 21) e27 hN22 k26) k26 (okN hN22 k26 (by decide)).1 (okN hN22 k26 (by decide)).2 cq_7 (by decide) rfl rfl (Nat.le_of_ble_eq_true rfl) (by decide) (by decide) (fun v ν hp => ?_) (fun i ν hp => nrm hp.1)
            obtain ⟨rfl, rfl, hN29, hb30⟩ := QEl hp
            show J _ _ _ _ 73 _ ([]) _ _ _ _
            refine J.iinc (pc := 73) (j := 3) ([(2, .int (v2 + (1 : Int32))), (3, .int (-18 : Int32)), (0, .ref v0), (1, .int v1)]) dX6_readProduct_73 rfl (iincv ic_1) (Nat.le_of_ble_eq_true rfl) rfl ?_
            refine J.goto (pc := 76) (tgt := 7) dX6_readProduct_76 (by decide) ?_
            refine J.pick [2, 3, 0] rfl ?_
            exact ih v0 v1 (v2 + (1 : Int32)) μ28 h hN29 k0
        · refine J.ceq (pc := 27) (tgt := 39) dX6_readProduct_27 (by decide) (fun q => absurd q hc) (fun _ => ?_)
          refine J.aload_n (pc := 30) dX6_readProduct_30 rfl 0 rfl ?_
          refine J.fI (pc := 31) dX6_readProduct_31 fl_RX6_31 k0 (okN hN k0 (by decide)) (Or.inl rfl) ?_
          refine J.bipush (pc := 34) dX6_readProduct_34 ib_47 ?_
          rcases ifc h with ⟨hc, h⟩ | ⟨hc, h⟩
          · refine J.cne (pc := 36) (tgt := 79) dX6_readProduct_36 (by decide) (fun _ => ?_) (fun q => absurd hc q)
            refine J.aload_n (pc := 39) dX6_readProduct_39 rfl 0 rfl ?_
            refine J.fI (pc := 40) dX6_readProduct_40 fl_RX6_31 k0 (okN hN k0 (by decide)) (Or.inl rfl) ?_
            refine J.bipush (pc := 43) dX6_readProduct_43 ib_42 ?_
            rcases ifc h with ⟨hc, h⟩ | ⟨hc, h⟩
            · refine J.cne (pc := 45) (tgt := 53) dX6_readProduct_45 (by decide) (fun _ => ?_) (fun q => absurd hc q)
              refine J.bipush (pc := 48) dX6_readProduct_48 ib_m17 ?_
              refine J.goto (pc := 50) (tgt := 55) dX6_readProduct_50 (by decide) ?_
              refine J.istore_n (pc := 55) ([(3, .int (-17 : Int32)), (0, .ref v0), (1, .int v1), (2, .int v2)]) dX6_readProduct_55 rfl (Nat.le_of_ble_eq_true rfl) rfl ?_
              refine J.aload_n (pc := 56) dX6_readProduct_56 rfl 1 rfl ?_
              obtain ⟨μ32, e31, h⟩ := bnd h
              refine J.callV (Y := mX6_readProduct) (Z := mX6_advance) (pc := 57) (st := []) (k2 := 0) (n2 := 0) dX6_readProduct_57 ml_RX6_65 mo_X6_advance mv_X6_advance rfl (tX6_advance (d + 16) e31 hN k0) k0 (okN hN k0 (by decide)).1 (okN hN k0 (by decide)).2 cq_6 (by decide) rfl rfl (Nat.le_of_ble_eq_true rfl) (by decide) (by decide) (fun v ν hp => ?_) (fun i ν hp => nrm hp.1)
              obtain ⟨rfl, rfl, hN33, hb34⟩ := QEl hp
              show J _ _ _ _ 60 _ ([]) _ _ _ _
              refine J.aload_n (pc := 60) dX6_readProduct_60 rfl 1 rfl ?_
              refine J.iload_n (pc := 61) dX6_readProduct_61 rfl 2 rfl ?_
              obtain ⟨μ36, e35, h⟩ := bnd h
              refine J.callV (Y := mX6_readProduct) (Z := mX6_readPart) (pc := 62) (st := []) (k2 := 0) (n2 := 0) dX6_readProduct_62 ml_RX6_218 mo_X6_readPart mv_X6_readPart rfl (tX6_readPart hrec e35 hN33 k0) k0 (okN hN33 k0 (by decide)).1 (okN hN33 k0 (by decide)).2 cq_6 (by decide) rfl rfl (Nat.le_of_ble_eq_true rfl) (by decide) (by decide) (fun v ν hp => ?_) (fun i ν hp => nrm hp.1)
              obtain ⟨rfl, rfl, hN37, hb38⟩ := QEl hp
              show J _ _ _ _ 65 _ ([]) _ _ _ _
              refine J.aload_n (pc := 65) dX6_readProduct_65 rfl 1 rfl ?_
              obtain ⟨a39, e40, h⟩ := bnd h
              have k41 : (kd a39).1 = 17 := gR_k e40
              refine J.fR (pc := 66) dX6_readProduct_66 fl_RX6_53 k0 (okN hN37 k0 (by decide)) rfl e40 ?_
              refine J.iload_n (pc := 69) dX6_readProduct_69 rfl 0 rfl ?_
              obtain ⟨μ43, e42, h⟩ := bnd h
              refine J.callV (Y := mX6_readProduct) (Z := mX7_add) (pc := 70) (st := []) (k2 := 0) (n2 := 0) dX6_readProduct_70 ml_RX6_202 mo_X7_add mv_X7_add rfl (tX7_add (d + 21) e42 hN37 k41) k41 (okN hN37 k41 (by decide)).1 (okN hN37 k41 (by decide)).2 cq_7 (by decide) rfl rfl (Nat.le_of_ble_eq_true rfl) (by decide) (by decide) (fun v ν hp => ?_) (fun i ν hp => nrm hp.1)
              obtain ⟨rfl, rfl, hN44, hb45⟩ := QEl hp
              show J _ _ _ _ 73 _ ([]) _ _ _ _
              refine J.iinc (pc := 73) (j := 3) ([(2, .int (v2 + (1 : Int32))), (3, .int (-17 : Int32)), (0, .ref v0), (1, .int v1)]) dX6_readProduct_73 rfl (iincv ic_1) (Nat.le_of_ble_eq_true rfl) rfl ?_
              refine J.goto (pc := 76) (tgt := 7) dX6_readProduct_76 (by decide) ?_
              refine J.pick [2, 3, 0] rfl ?_
              exact ih v0 v1 (v2 + (1 : Int32)) μ43 h hN44 k0
            · refine J.cne (pc := 45) (tgt := 53) dX6_readProduct_45 (by decide) (fun q => absurd q hc) (fun _ => ?_)
              refine J.bipush (pc := 53) dX6_readProduct_53 ib_m18 ?_
              refine J.istore_n (pc := 55) ([(3, .int (-18 : Int32)), (0, .ref v0), (1, .int v1), (2, .int v2)]) dX6_readProduct_55 rfl (Nat.le_of_ble_eq_true rfl) rfl ?_
              refine J.aload_n (pc := 56) dX6_readProduct_56 rfl 1 rfl ?_
              obtain ⟨μ47, e46, h⟩ := bnd h
              refine J.callV (Y := mX6_readProduct) (Z := mX6_advance) (pc := 57) (st := []) (k2 := 0) (n2 := 0) dX6_readProduct_57 ml_RX6_65 mo_X6_advance mv_X6_advance rfl (tX6_advance (d + 16) e46 hN k0) k0 (okN hN k0 (by decide)).1 (okN hN k0 (by decide)).2 cq_6 (by decide) rfl rfl (Nat.le_of_ble_eq_true rfl) (by decide) (by decide) (fun v ν hp => ?_) (fun i ν hp => nrm hp.1)
              obtain ⟨rfl, rfl, hN48, hb49⟩ := QEl hp
              show J _ _ _ _ 60 _ ([]) _ _ _ _
              refine J.aload_n (pc := 60) dX6_readProduct_60 rfl 1 rfl ?_
              refine J.iload_n (pc := 61) dX6_readProduct_61 rfl 2 rfl ?_
              obtain ⟨μ51, e50, h⟩ := bnd h
              refine J.callV (Y := mX6_readProduct) (Z := mX6_readPart) (pc := 62) (st := []) (k2 := 0) (n2 := 0) dX6_readProduct_62 ml_RX6_218 mo_X6_readPart mv_X6_readPart rfl (tX6_readPart hrec e50 hN48 k0) k0 (okN hN48 k0 (by decide)).1 (okN hN48 k0 (by decide)).2 cq_6 (by decide) rfl rfl (Nat.le_of_ble_eq_true rfl) (by decide) (by decide) (fun v ν hp => ?_) (fun i ν hp => nrm hp.1)
              obtain ⟨rfl, rfl, hN52, hb53⟩ := QEl hp
              show J _ _ _ _ 65 _ ([]) _ _ _ _
              refine J.aload_n (pc := 65) dX6_readProduct_65 rfl 1 rfl ?_
              obtain ⟨a54, e55, h⟩ := bnd h
              have k56 : (kd a54).1 = 17 := gR_k e55
              refine J.fR (pc := 66) dX6_readProduct_66 fl_RX6_53 k0 (okN hN52 k0 (by decide)) rfl e55 ?_
              refine J.iload_n (pc := 69) dX6_readProduct_69 rfl 0 rfl ?_
              obtain ⟨μ58, e57, h⟩ := bnd h
              refine J.callV (Y := mX6_readProduct) (Z := mX7_add) (pc := 70) (st := []) (k2 := 0) (n2 := 0) dX6_readProduct_70 ml_RX6_202 mo_X7_add mv_X7_add rfl (tX7_add (d + 21) e57 hN52 k56) k56 (okN hN52 k56 (by decide)).1 (okN hN52 k56 (by decide)).2 cq_7 (by decide) rfl rfl (Nat.le_of_ble_eq_true rfl) (by decide) (by decide) (fun v ν hp => ?_) (fun i ν hp => nrm hp.1)
              obtain ⟨rfl, rfl, hN59, hb60⟩ := QEl hp
              show J _ _ _ _ 73 _ ([]) _ _ _ _
              refine J.iinc (pc := 73) (j := 3) ([(2, .int (v2 + (1 : Int32))), (3, .int (-18 : Int32)), (0, .ref v0), (1, .int v1)]) dX6_readProduct_73 rfl (iincv ic_1) (Nat.le_of_ble_eq_true rfl) rfl ?_
              refine J.goto (pc := 76) (tgt := 7) dX6_readProduct_76 (by decide) ?_
              refine J.pick [2, 3, 0] rfl ?_
              exact ih v0 v1 (v2 + (1 : Int32)) μ58 h hN59 k0
          · refine J.cne (pc := 36) (tgt := 79) dX6_readProduct_36 (by decide) (fun q => absurd q hc) (fun _ => ?_)
            cases h
            exact J.vret (pc := 79) dX6_readProduct_79 rfl ⟨rfl, rfl, hN, trivial⟩
      · refine J.zne (pc := 18) (tgt := 79) dX6_readProduct_18 (by decide) (fun q => absurd q hc) (fun _ => ?_)
        cases h
        exact J.vret (pc := 79) dX6_readProduct_79 rfl ⟨rfl, rfl, hN, trivial⟩
    · refine J.cge (pc := 11) (tgt := 79) dX6_readProduct_11 (by decide) (fun q => absurd q hc) (fun _ => ?_)
      cases h
      exact J.vret (pc := 79) dX6_readProduct_79 rfl ⟨rfl, rfl, hN, trivial⟩
def fX6_readProduct (rec : Nat → Int32 → Mem → Option Mem) (v0 : Nat) (v1 : Int32) (μ : Mem) : Option (Mem) :=
  (fX6_readPart rec v0 v1 μ).bind fun μ2 =>
  (fX6_readProduct_7 rec fuel) v0 v1 (0 : Int32) μ2
set_option maxHeartbeats 4000000 in
theorem tX6_readProduct {ω : Wd} {l : Launch} {d : Nat} {rec : Nat → Int32 → Mem → Option Mem} (hrec : HR ω l d rec) {v0 : Nat} {v1 : Int32} {μ : Mem} {res : Mem} (h : fX6_readProduct rec v0 v1 μ = some res) (hN : μ.1 = NN) (k0 : (kd v0).1 = 16) : Ct ω l mX6_readProduct (d + 22) [.ref v0, .int v1] μ 0 0 (PE (.inl none) res True) := by
  refine Ct.of pn_RX6 (Nat.le_of_ble_eq_true rfl) ?_
  show J ω l mX6_readProduct (d + 22) 0 [(0, .ref v0), (1, .int v1)] [] μ 0 0 _
  unfold fX6_readProduct at h
  refine J.aload_n (pc := 0) dX6_readProduct_0 rfl 0 rfl ?_
  refine J.iload_n (pc := 1) dX6_readProduct_1 rfl 1 rfl ?_
  obtain ⟨μ2, e1, h⟩ := bnd h
  refine J.callV (Y := mX6_readProduct) (Z := mX6_readPart) (pc := 2) (st := []) (k2 := 0) (n2 := 0) dX6_readProduct_2 ml_RX6_218 mo_X6_readPart mv_X6_readPart rfl (tX6_readPart hrec e1 hN k0) k0 (okN hN k0 (by decide)).1 (okN hN k0 (by decide)).2 cq_6 (by decide) rfl rfl (Nat.le_of_ble_eq_true rfl) (by decide) (by decide) (fun v ν hp => ?_) (fun i ν hp => nrm hp.1)
  obtain ⟨rfl, rfl, hN3, hb4⟩ := QEl hp
  show J _ _ _ _ 5 _ ([]) _ _ _ _
  refine J.iconst (pc := 5) dX6_readProduct_5 ic_0 ?_
  refine J.istore_n (pc := 6) ([(2, .int (0 : Int32)), (0, .ref v0), (1, .int v1)]) dX6_readProduct_6 rfl (Nat.le_of_ble_eq_true rfl) rfl ?_
  refine J.pick [1, 2, 0] rfl ?_
  exact (tX6_readProduct_7 d hrec fuel) v0 v1 (0 : Int32) μ2 h hN3 k0
