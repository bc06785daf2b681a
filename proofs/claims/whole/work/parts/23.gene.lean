def fX11_closes (v0 : Nat) (μ : Mem) : Option (Mem) :=
  (fX11_drops v0 (0 : Int32) μ).bind fun μ2 =>
  (some (sI μ2 v0 27 ((μ2.2.1 v0 27) - (1 : Int32)))).bind fun μ5 =>
  (some (sI μ5 v0 28 ((μ5.2.1 v0 28) - (1 : Int32)))).bind fun μ8 =>
  (fX11_goes v0 μ8).bind fun μ12 =>
  some μ12
set_option maxHeartbeats 4000000 in
theorem tX11_closes {ω : Wd} {l : Launch} (d : Nat) {v0 : Nat} {μ : Mem} {res : Mem} (h : fX11_closes v0 μ = some res) (hN : μ.1 = NN) (k0 : (kd v0).1 = 21) : Ct ω l mX11_closes (d + 2) [.ref v0] μ 0 0 (PE (.inl none) res True) := by
  refine Ct.of pn_RX11 (Nat.le_of_ble_eq_true rfl) ?_
  show J ω l mX11_closes (d + 2) 0 [(0, .ref v0)] [] μ 0 0 _
  unfold fX11_closes at h
  refine J.aload_n (pc := 0) dX11_closes_0 rfl 0 rfl ?_
  refine J.iconst (pc := 1) dX11_closes_1 ic_0 ?_
  obtain ⟨μ2, e1, h⟩ := bnd h
  refine J.callV (Y := mX11_closes) (Z := mX11_drops) (pc := 2) (st := []) (k2 := 0) (n2 := 0) dX11_closes_2 ml_RX11_208 mo_X11_drops mv_X11_drops rfl (tX11_drops d e1 hN k0) k0 (okN hN k0 (by decide)).1 (okN hN k0 (by decide)).2 cq_11 (by decide) rfl rfl (Nat.le_of_ble_eq_true rfl) (by decide) (by decide) (fun v ν hp => ?_) (fun i ν hp => nrm hp.1)
  obtain ⟨rfl, rfl, hN3, hb4⟩ := QEl hp
  show J _ _ _ _ 5 _ ([]) _ _ _ _
  refine J.aload_n (pc := 5) dX11_closes_5 rfl 0 rfl ?_
  refine J.dup (pc := 6) dX11_closes_6 rfl ?_
  refine J.fI (pc := 7) dX11_closes_7 fl_RX11_171 k0 (okN hN3 k0 (by decide)) (Or.inl rfl) ?_
  refine J.iconst (pc := 10) dX11_closes_10 ic_1 ?_
  refine J.isub (pc := 11) dX11_closes_11 ?_
  obtain ⟨μ5, e6, h⟩ := bnd h
  have hN7 : μ5.1 = NN := smN e6 hN3
  refine J.qI (pc := 12) dX11_closes_12 fl_RX11_171 k0 (okN hN3 k0 (by decide)) rfl rfl e6 ?_
  refine J.aload_n (pc := 15) dX11_closes_15 rfl 0 rfl ?_
  refine J.dup (pc := 16) dX11_closes_16 rfl ?_
  refine J.fI (pc := 17) dX11_closes_17 fl_RX11_193 k0 (okN hN7 k0 (by decide)) (Or.inl rfl) ?_
  refine J.iconst (pc := 20) dX11_closes_20 ic_1 ?_
  refine J.isub (pc := 21) dX11_closes_21 ?_
  obtain ⟨μ8, e9, h⟩ := bnd h
  have hN10 : μ8.1 = NN := smN e9 hN7
  refine J.qI (pc := 22) dX11_closes_22 fl_RX11_193 k0 (okN hN7 k0 (by decide)) rfl rfl e9 ?_
  refine J.aload_n (pc := 25) dX11_closes_25 rfl 0 rfl ?_
  obtain ⟨μ12, e11, h⟩ := bnd h
  refine J.callV (Y := mX11_closes) (Z := mX11_goes) (pc := 26) (st := []) (k2 := 0) (n2 := 0) dX11_closes_26 ml_RX11_162 mo_X11_goes mv_X11_goes rfl (tX11_goes d e11 hN10 k0) k0 (okN hN10 k0 (by decide)).1 (okN hN10 k0 (by decide)).2 cq_11 (by decide) rfl rfl (Nat.le_of_ble_eq_true rfl) (by decide) (by decide) (fun v ν hp => ?_) (fun i ν hp => nrm hp.1)
  obtain ⟨rfl, rfl, hN13, hb14⟩ := QEl hp
  show J _ _ _ _ 29 _ ([]) _ _ _ _
  cases h
  exact J.vret (pc := 29) dX11_closes_29 rfl ⟨rfl, rfl, hN13, trivial⟩
def fX11_isSign (v0 : Nat) (v1 : Int32) (μ : Mem) : Int32 :=
  if (μ.2.1 v0 14) = (3 : Int32) then
    if (μ.2.1 v0 18) = v1 then
      (1 : Int32)
    else
      (0 : Int32)
  else
    (0 : Int32)
set_option maxHeartbeats 4000000 in
theorem tX11_isSign {ω : Wd} {l : Launch} (d : Nat) (v0 : Nat) (v1 : Int32) (μ : Mem) (hN : μ.1 = NN) (k0 : (kd v0).1 = 21) : Ct ω l mX11_isSign d [.ref v0, .int v1] μ 0 0 (PE (.inl (some (.int (fX11_isSign v0 v1 μ)))) μ (isB (fX11_isSign v0 v1 μ))) := by
  refine Ct.of pn_RX11 (Nat.le_of_ble_eq_true rfl) ?_
  show J ω l mX11_isSign d 0 [(0, .ref v0), (1, .int v1)] [] μ 0 0 _
  generalize h : fX11_isSign v0 v1 μ = res
  unfold fX11_isSign at h
  refine J.aload_n (pc := 0) dX11_isSign_0 rfl 0 rfl ?_
  refine J.fI (pc := 1) dX11_isSign_1 fl_RX11_132 k0 (okN hN k0 (by decide)) (Or.inl rfl) ?_
  refine J.iconst (pc := 4) dX11_isSign_4 ic_3 ?_
  rcases ifc h with ⟨hc, h⟩ | ⟨hc, h⟩
  · refine J.cne (pc := 5) (tgt := 20) dX11_isSign_5 (by decide) (fun _ => ?_) (fun q => absurd hc q)
    refine J.aload_n (pc := 8) dX11_isSign_8 rfl 0 rfl ?_
    refine J.fI (pc := 9) dX11_isSign_9 fl_RX11_129 k0 (okN hN k0 (by decide)) (Or.inl rfl) ?_
    refine J.iload_n (pc := 12) dX11_isSign_12 rfl 1 rfl ?_
    rcases ifc h with ⟨hc, h⟩ | ⟨hc, h⟩
    · refine J.cne (pc := 13) (tgt := 20) dX11_isSign_13 (by decide) (fun _ => ?_) (fun q => absurd hc q)
      refine J.iconst (pc := 16) dX11_isSign_16 ic_1 ?_
      refine J.goto (pc := 17) (tgt := 21) dX11_isSign_17 (by decide) ?_
      cases h
      exact J.zret (pc := 21) dX11_isSign_21 rfl (narB (Or.inr rfl)) ⟨rfl, rfl, hN, (Or.inr rfl)⟩
    · refine J.cne (pc := 13) (tgt := 20) dX11_isSign_13 (by decide) (fun q => absurd q hc) (fun _ => ?_)
      refine J.iconst (pc := 20) dX11_isSign_20 ic_0 ?_
      cases h
      exact J.zret (pc := 21) dX11_isSign_21 rfl (narB (Or.inl rfl)) ⟨rfl, rfl, hN, (Or.inl rfl)⟩
  · refine J.cne (pc := 5) (tgt := 20) dX11_isSign_5 (by decide) (fun q => absurd q hc) (fun _ => ?_)
    refine J.iconst (pc := 20) dX11_isSign_20 ic_0 ?_
    cases h
    exact J.zret (pc := 21) dX11_isSign_21 rfl (narB (Or.inl rfl)) ⟨rfl, rfl, hN, (Or.inl rfl)⟩
def fX11_deeper (v0 : Nat) (μ : Mem) : Option (Mem) :=
  if (μ.2.1 v0 28) < (6 : Int32) then
    (some (sI μ v0 28 ((μ.2.1 v0 28) + (1 : Int32)))).bind fun μ1 =>
    (gR μ1 v0 33 2).bind fun a4 =>
    (stI μ1 a4 (μ1.2.1 v0 28) (0 : Int32)).bind fun μ7 =>
    some μ7
  else
    if (μ.2.1 v0 14) = (2 : Int32) then
      (fX11_wrong v0 (2 : Int32) μ).bind fun μ11 =>
      some μ11
    else
      if (μ.2.1 v0 14) = (1 : Int32) then
        (fX11_wrong v0 (2 : Int32) μ).bind fun μ15 =>
        some μ15
      else
        if (fX11_isSign v0 (40 : Int32) μ) = 0 then
          (fX11_wrong v0 (1 : Int32) μ).bind fun μ22 =>
          some μ22
        else
          (fX11_wrong v0 (2 : Int32) μ).bind fun μ26 =>
          some μ26
set_option maxHeartbeats 4000000 in
theorem tX11_deeper {ω : Wd} {l : Launch} (d : Nat) {v0 : Nat} {μ : Mem} {res : Mem} (h : fX11_deeper v0 μ = some res) (hN : μ.1 = NN) (k0 : (kd v0).1 = 21) : Ct ω l mX11_deeper (d + 1) [.ref v0] μ 0 0 (PE (.inl none) res True) := by
  refine Ct.of pn_RX11 (Nat.le_of_ble_eq_true rfl) ?_
  show J ω l mX11_deeper (d + 1) 0 [(0, .ref v0)] [] μ 0 0 _
  unfold fX11_deeper at h
  refine J.aload_n (pc := 0) dX11_deeper_0 rfl 0 rfl ?_
  refine J.fI (pc := 1) dX11_deeper_1 fl_RX11_193 k0 (okN hN k0 (by decide)) (Or.inl rfl) ?_
  refine J.bipush (pc := 4) dX11_deeper_4 ib_6 ?_
  rcases ifc h with ⟨hc, h⟩ | ⟨hc, h⟩
  · refine J.cge (pc := 6) (tgt := 30) dX11_deeper_6 (by decide) (fun _ => ?_) (fun q => absurd hc q)
    refine J.aload_n (pc := 9) dX11_deeper_9 rfl 0 rfl ?_
    refine J.dup (pc := 10) dX11_deeper_10 rfl ?_
    refine J.fI (pc := 11) dX11_deeper_11 fl_RX11_193 k0 (okN hN k0 (by decide)) (Or.inl rfl) ?_
    refine J.iconst (pc := 14) dX11_deeper_14 ic_1 ?_
    refine J.iadd (pc := 15) dX11_deeper_15 ?_
    obtain ⟨μ1, e2, h⟩ := bnd h
    have hN3 : μ1.1 = NN := smN e2 hN
    refine J.qI (pc := 16) dX11_deeper_16 fl_RX11_193 k0 (okN hN k0 (by decide)) rfl rfl e2 ?_
    refine J.aload_n (pc := 19) dX11_deeper_19 rfl 0 rfl ?_
    obtain ⟨a4, e5, h⟩ := bnd h
    have k6 : (kd a4).1 = 2 := gR_k e5
    refine J.fR (pc := 20) dX11_deeper_20 fl_RX11_44 k0 (okN hN3 k0 (by decide)) rfl e5 ?_
    refine J.aload_n (pc := 23) dX11_deeper_23 rfl 0 rfl ?_
    refine J.fI (pc := 24) dX11_deeper_24 fl_RX11_193 k0 (okN hN3 k0 (by decide)) (Or.inl rfl) ?_
    refine J.iconst (pc := 27) dX11_deeper_27 ic_0 ?_
    obtain ⟨μ7, e8, h⟩ := bnd h
    have hN9 : μ7.1 = NN := stI_N e8 hN3
    refine J.wZ (pc := 28) dX11_deeper_28 k6 (okN hN3 k6 (by decide)) (Or.inl rfl) e8 ?_
    cases h
    exact J.vret (pc := 29) dX11_deeper_29 rfl ⟨rfl, rfl, hN9, trivial⟩
  · refine J.cge (pc := 6) (tgt := 30) dX11_deeper_6 (by decide) (fun q => absurd q hc) (fun _ => ?_)
    refine J.aload_n (pc := 30) dX11_deeper_30 rfl 0 rfl ?_
    refine J.aload_n (pc := 31) dX11_deeper_31 rfl 0 rfl ?_
    refine J.fI (pc := 32) dX11_deeper_32 fl_RX11_132 k0 (okN hN k0 (by decide)) (Or.inl rfl) ?_
    refine J.iconst (pc := 35) dX11_deeper_35 ic_2 ?_
    rcases ifc h with ⟨hc, h⟩ | ⟨hc, h⟩
    · refine J.ceq (pc := 36) (tgt := 56) dX11_deeper_36 (by decide) (fun _ => ?_) (fun q => absurd hc q)
      refine J.iconst (pc := 56) dX11_deeper_56 ic_2 ?_
      refine J.goto (pc := 57) (tgt := 61) dX11_deeper_57 (by decide) ?_
      obtain ⟨μ11, e10, h⟩ := bnd h
      refine J.callV (Y := mX11_deeper) (Z := mX11_wrong) (pc := 61) (st := []) (k2 := 0) (n2 := 0) dX11_deeper_61 ml_RX11_165 mo_X11_wrong mv_X11_wrong rfl (tX11_wrong d e10 hN k0) k0 (okN hN k0 (by decide)).1 (okN hN k0 (by decide)).2 cq_11 (by decide) rfl rfl (Nat.le_of_ble_eq_true rfl) (by decide) (by decide) (fun v ν hp => ?_) (fun i ν hp => nrm hp.1)
      obtain ⟨rfl, rfl, hN12, hb13⟩ := QEl hp
      show J _ _ _ _ 64 _ ([]) _ _ _ _
      cases h
      exact J.vret (pc := 64) dX11_deeper_64 rfl ⟨rfl, rfl, hN12, trivial⟩
    · refine J.ceq (pc := 36) (tgt := 56) dX11_deeper_36 (by decide) (fun q => absurd q hc) (fun _ => ?_)
      refine J.aload_n (pc := 39) dX11_deeper_39 rfl 0 rfl ?_
      refine J.fI (pc := 40) dX11_deeper_40 fl_RX11_132 k0 (okN hN k0 (by decide)) (Or.inl rfl) ?_
      refine J.iconst (pc := 43) dX11_deeper_43 ic_1 ?_
      rcases ifc h with ⟨hc, h⟩ | ⟨hc, h⟩
      · refine J.ceq (pc := 44) (tgt := 56) dX11_deeper_44 (by decide) (fun _ => ?_) (fun q => absurd hc q)
        refine J.iconst (pc := 56) dX11_deeper_56 ic_2 ?_
        refine J.goto (pc := 57) (tgt := 61) dX11_deeper_57 (by decide) ?_
        obtain ⟨μ15, e14, h⟩ := bnd h
        refine J.callV (Y := mX11_deeper) (Z := mX11_wrong) (pc := 61) (st := []) (k2 := 0) (n2 := 0) dX11_deeper_61 ml_RX11_165 mo_X11_wrong mv_X11_wrong rfl (tX11_wrong d e14 hN k0) k0 (okN hN k0 (by decide)).1 (okN hN k0 (by decide)).2 cq_11 (by decide) rfl rfl (Nat.le_of_ble_eq_true rfl) (by decide) (by decide) (fun v ν hp => ?_) (fun i ν hp => nrm hp.1)
        obtain ⟨rfl, rfl, hN16, hb17⟩ := QEl hp
        show J _ _ _ _ 64 _ ([]) _ _ _ _
        cases h
        exact J.vret (pc := 64) dX11_deeper_64 rfl ⟨rfl, rfl, hN16, trivial⟩
      · refine J.ceq (pc := 44) (tgt := 56) dX11_deeper_44 (by decide) (fun q => absurd q hc) (fun _ => ?_)
        refine J.aload_n (pc := 47) dX11_deeper_47 rfl 0 rfl ?_
        refine J.bipush (pc := 48) dX11_deeper_48 ib_40 ?_
        refine J.callV (Y := mX11_deeper) (Z := mX11_isSign) (pc := 50) (st := [.ref v0]) (k2 := 0) (n2 := 0) dX11_deeper_50 ml_RX11_196 mo_X11_isSign mv_X11_isSign rfl (tX11_isSign d v0 (40 : Int32) μ hN k0) k0 (okN hN k0 (by decide)).1 (okN hN k0 (by decide)).2 cq_11 (by decide) rfl rfl (Nat.le_of_ble_eq_true rfl) (by decide) (by decide) (fun v ν hp => ?_) (fun i ν hp => nrm hp.1)
        obtain ⟨rfl, rfl, hN19, hb20⟩ := QEl hp
        show J _ _ _ _ 53 _ ([.int (fX11_isSign v0 (40 : Int32) μ), .ref v0]) _ _ _ _
        rcases ifc h with ⟨hc, h⟩ | ⟨hc, h⟩
        · refine J.zeq (pc := 53) (tgt := 60) dX11_deeper_53 (by decide) (fun _ => ?_) (fun q => absurd hc q)
          refine J.iconst (pc := 60) dX11_deeper_60 ic_1 ?_
          obtain ⟨μ22, e21, h⟩ := bnd h
          refine J.callV (Y := mX11_deeper) (Z := mX11_wrong) (pc := 61) (st := []) (k2 := 0) (n2 := 0) dX11_deeper_61 ml_RX11_165 mo_X11_wrong mv_X11_wrong rfl (tX11_wrong d e21 hN19 k0) k0 (okN hN19 k0 (by decide)).1 (okN hN19 k0 (by decide)).2 cq_11 (by decide) rfl rfl (Nat.le_of_ble_eq_true rfl) (by decide) (by decide) (fun v ν hp => ?_) (fun i ν hp => nrm hp.1)
          obtain ⟨rfl, rfl, hN23, hb24⟩ := QEl hp
          show J _ _ _ _ 64 _ ([]) _ _ _ _
          cases h
          exact J.vret (pc := 64) dX11_deeper_64 rfl ⟨rfl, rfl, hN23, trivial⟩
        · refine J.zeq (pc := 53) (tgt := 60) dX11_deeper_53 (by decide) (fun q => absurd q hc) (fun _ => ?_)
          refine J.iconst (pc := 56) dX11_deeper_56 ic_2 ?_
          refine J.goto (pc := 57) (tgt := 61) dX11_deeper_57 (by decide) ?_
          obtain ⟨μ26, e25, h⟩ := bnd h
          refine J.callV (Y := mX11_deeper) (Z := mX11_wrong) (pc := 61) (st := []) (k2 := 0) (n2 := 0) dX11_deeper_61 ml_RX11_165 mo_X11_wrong mv_X11_wrong rfl (tX11_wrong d e25 hN19 k0) k0 (okN hN19 k0 (by decide)).1 (okN hN19 k0 (by decide)).2 cq_11 (by decide) rfl rfl (Nat.le_of_ble_eq_true rfl) (by decide) (by decide) (fun v ν hp => ?_) (fun i ν hp => nrm hp.1)
          obtain ⟨rfl, rfl, hN27, hb28⟩ := QEl hp
          show J _ _ _ _ 64 _ ([]) _ _ _ _
          cases h
          exact J.vret (pc := 64) dX11_deeper_64 rfl ⟨rfl, rfl, hN27, trivial⟩
def fX11_isOpened_7 (μ : Mem) : Nat → Nat → Int32 → Option (Int32)
  | 0, _, _ => none
  | n + 1, v0, v1 =>
    if v1 < 0 then
      if v1 < 0 then
        some (0 : Int32)
      else
        some (1 : Int32)
    else
      (gR μ v0 32 0).bind fun a1 =>
      (ldI μ a1 v1).bind fun x4 =>
      if (fX11_isOpen x4) = 0 then
        (fX11_isOpened_7 μ n) v0 (v1 + (-1 : Int32))
      else
        if v1 < 0 then
          some (0 : Int32)
        else
          some (1 : Int32)
set_option maxHeartbeats 4000000 in
theorem tX11_isOpened_7 {ω : Wd} {l : Launch} (d : Nat) {μ : Mem} (hN : μ.1 = NN) {res : Int32} : ∀ n : Nat, ∀ (v0 : Nat) (v1 : Int32), fX11_isOpened_7 μ n v0 v1 = some res → (kd v0).1 = 21 → J ω l mX11_isOpened (d + 1) 7 [(0, .ref v0), (1, .int v1)] [] μ 0 0 (PE (.inl (some (.int res))) μ (isB res)) := by
  intro n
  induction n with
  | zero =>
    intro v0 v1 h k0
    have h9 : (none : Option (Int32)) = some res := h
    cases h9
  | succ n ih =>
    intro v0 v1 h k0
    unfold fX11_isOpened_7 at h
    refine J.iload_n (pc := 7) dX11_isOpened_7 rfl 1 rfl ?_
    rcases ifc h with ⟨hc, h⟩ | ⟨hc, h⟩
    · refine J.zlt (pc := 8) (tgt := 29) dX11_isOpened_8 (by decide) (fun _ => ?_) (fun q => absurd hc q)
      refine J.iload_n (pc := 29) dX11_isOpened_29 rfl 1 rfl ?_
      rcases ifc h with ⟨hc, h⟩ | ⟨hc, h⟩
      · refine J.zlt (pc := 30) (tgt := 37) dX11_isOpened_30 (by decide) (fun _ => ?_) (fun q => absurd hc q)
        refine J.iconst (pc := 37) dX11_isOpened_37 ic_0 ?_
        cases h
        exact J.zret (pc := 38) dX11_isOpened_38 rfl (narB (Or.inl rfl)) ⟨rfl, rfl, hN, (Or.inl rfl)⟩
      · refine J.zlt (pc := 30) (tgt := 37) dX11_isOpened_30 (by decide) (fun q => absurd q hc) (fun _ => ?_)
        refine J.iconst (pc := 33) dX11_isOpened_33 ic_1 ?_
        refine J.goto (pc := 34) (tgt := 38) dX11_isOpened_34 (by decide) ?_
        cases h
        exact J.zret (pc := 38) dX11_isOpened_38 rfl (narB (Or.inr rfl)) ⟨rfl, rfl, hN, (Or.inr rfl)⟩
    · refine J.zlt (pc := 8) (tgt := 29) dX11_isOpened_8 (by decide) (fun q => absurd q hc) (fun _ => ?_)
      refine J.aload_n (pc := 11) dX11_isOpened_11 rfl 0 rfl ?_
      obtain ⟨a1, e2, h⟩ := bnd h
      have k3 : (kd a1).1 = 0 := gR_k e2
      refine J.fR (pc := 12) dX11_isOpened_12 fl_RX11_41 k0 (okN hN k0 (by decide)) rfl e2 ?_
      refine J.iload_n (pc := 15) dX11_isOpened_15 rfl 1 rfl ?_
      obtain ⟨x4, e5, h⟩ := bnd h
      refine J.aI (pc := 16) dX11_isOpened_16 k3 (okN hN k3 (by decide)) e5 ?_
      refine J.callS (Y := mX11_isOpened) (Z := mX11_isOpen) (pc := 17) (st := []) (k2 := 0) (n2 := 0) dX11_isOpened_17 ml_RX11_174 mo_X11_isOpen ms_X11_isOpen rfl (tX11_isOpen d x4 μ hN ) rfl rfl (Nat.le_of_ble_eq_true rfl) (by decide) (by decide) (fun v ν hp => ?_) (fun i ν hp => nrm hp.1)
      obtain ⟨rfl, rfl, hN7, hb8⟩ := QEl hp
      show J _ _ _ _ 20 _ ([.int (fX11_isOpen x4)]) _ _ _ _
      rcases ifc h with ⟨hc, h⟩ | ⟨hc, h⟩
      · refine J.zne (pc := 20) (tgt := 29) dX11_isOpened_20 (by decide) (fun _ => ?_) (fun q => absurd hc q)
        refine J.iinc (pc := 23) (j := 1) ([(1, .int (v1 + (-1 : Int32))), (0, .ref v0)]) dX11_isOpened_23 rfl (iincv ic_m1) (Nat.le_of_ble_eq_true rfl) rfl ?_
        refine J.goto (pc := 26) (tgt := 7) dX11_isOpened_26 (by decide) ?_
        refine J.pick [1, 0] rfl ?_
        exact ih v0 (v1 + (-1 : Int32)) h k0
      · refine J.zne (pc := 20) (tgt := 29) dX11_isOpened_20 (by decide) (fun q => absurd q hc) (fun _ => ?_)
        refine J.iload_n (pc := 29) dX11_isOpened_29 rfl 1 rfl ?_
        rcases ifc h with ⟨hc, h⟩ | ⟨hc, h⟩
        · refine J.zlt (pc := 30) (tgt := 37) dX11_isOpened_30 (by decide) (fun _ => ?_) (fun q => absurd hc q)
          refine J.iconst (pc := 37) dX11_isOpened_37 ic_0 ?_
          cases h
          exact J.zret (pc := 38) dX11_isOpened_38 rfl (narB (Or.inl rfl)) ⟨rfl, rfl, hN7, (Or.inl rfl)⟩
        · refine J.zlt (pc := 30) (tgt := 37) dX11_isOpened_30 (by decide) (fun q => absurd q hc) (fun _ => ?_)
          refine J.iconst (pc := 33) dX11_isOpened_33 ic_1 ?_
          refine J.goto (pc := 34) (tgt := 38) dX11_isOpened_34 (by decide) ?_
          cases h
          exact J.zret (pc := 38) dX11_isOpened_38 rfl (narB (Or.inr rfl)) ⟨rfl, rfl, hN7, (Or.inr rfl)⟩
def fX11_isOpened (v0 : Nat) (μ : Mem) : Option (Int32) :=
  (fX11_isOpened_7 μ fuel) v0 ((μ.2.1 v0 27) - (1 : Int32))
set_option maxHeartbeats 4000000 in
theorem tX11_isOpened {ω : Wd} {l : Launch} (d : Nat) {v0 : Nat} {μ : Mem} {res : Int32} (h : fX11_isOpened v0 μ = some res) (hN : μ.1 = NN) (k0 : (kd v0).1 = 21) : Ct ω l mX11_isOpened (d + 1) [.ref v0] μ 0 0 (PE (.inl (some (.int res))) μ (isB res)) := by
  refine Ct.of pn_RX11 (Nat.le_of_ble_eq_true rfl) ?_
  show J ω l mX11_isOpened (d + 1) 0 [(0, .ref v0)] [] μ 0 0 _
  unfold fX11_isOpened at h
  refine J.aload_n (pc := 0) dX11_isOpened_0 rfl 0 rfl ?_
  refine J.fI (pc := 1) dX11_isOpened_1 fl_RX11_171 k0 (okN hN k0 (by decide)) (Or.inl rfl) ?_
  refine J.iconst (pc := 4) dX11_isOpened_4 ic_1 ?_
  refine J.isub (pc := 5) dX11_isOpened_5 ?_
  refine J.istore_n (pc := 6) ([(1, .int ((μ.2.1 v0 27) - (1 : Int32))), (0, .ref v0)]) dX11_isOpened_6 rfl (Nat.le_of_ble_eq_true rfl) rfl ?_
  refine J.pick [1, 0] rfl ?_
  exact (tX11_isOpened_7 d hN fuel) v0 ((μ.2.1 v0 27) - (1 : Int32)) h k0
def fX11_spelled (v0 : Int32) (v1 : Int32) (v2 : Int32) (v3 : Int32) (v4 : Int32) (v5 : Int32) : Int64 :=
  if v2 = 0 then
    if v3 = 0 then
      if v4 = 0 then
        if v5 = 0 then
          ((((v0.toInt64) - (96 : Int64)) <<< ((5 : Int32).toInt64 &&& 63)) ||| ((v1 - (96 : Int32)).toInt64))
        else
          ((((((v0.toInt64) - (96 : Int64)) <<< ((5 : Int32).toInt64 &&& 63)) ||| ((v1 - (96 : Int32)).toInt64)) <<< ((5 : Int32).toInt64 &&& 63)) ||| ((v5 - (96 : Int32)).toInt64))
      else
        if v5 = 0 then
          ((((((v0.toInt64) - (96 : Int64)) <<< ((5 : Int32).toInt64 &&& 63)) ||| ((v1 - (96 : Int32)).toInt64)) <<< ((5 : Int32).toInt64 &&& 63)) ||| ((v4 - (96 : Int32)).toInt64))
        else
          ((((((((v0.toInt64) - (96 : Int64)) <<< ((5 : Int32).toInt64 &&& 63)) ||| ((v1 - (96 : Int32)).toInt64)) <<< ((5 : Int32).toInt64 &&& 63)) ||| ((v4 - (96 : Int32)).toInt64)) <<< ((5 : Int32).toInt64 &&& 63)) ||| ((v5 - (96 : Int32)).toInt64))
    else
      if v4 = 0 then
        if v5 = 0 then
          ((((((v0.toInt64) - (96 : Int64)) <<< ((5 : Int32).toInt64 &&& 63)) ||| ((v1 - (96 : Int32)).toInt64)) <<< ((5 : Int32).toInt64 &&& 63)) ||| ((v3 - (96 : Int32)).toInt64))
        else
          ((((((((v0.toInt64) - (96 : Int64)) <<< ((5 : Int32).toInt64 &&& 63)) ||| ((v1 - (96 : Int32)).toInt64)) <<< ((5 : Int32).toInt64 &&& 63)) ||| ((v3 - (96 : Int32)).toInt64)) <<< ((5 : Int32).toInt64 &&& 63)) ||| ((v5 - (96 : Int32)).toInt64))
      else
        if v5 = 0 then
          ((((((((v0.toInt64) - (96 : Int64)) <<< ((5 : Int32).toInt64 &&& 63)) ||| ((v1 - (96 : Int32)).toInt64)) <<< ((5 : Int32).toInt64 &&& 63)) ||| ((v3 - (96 : Int32)).toInt64)) <<< ((5 : Int32).toInt64 &&& 63)) ||| ((v4 - (96 : Int32)).toInt64))
        else
          ((((((((((v0.toInt64) - (96 : Int64)) <<< ((5 : Int32).toInt64 &&& 63)) ||| ((v1 - (96 : Int32)).toInt64)) <<< ((5 : Int32).toInt64 &&& 63)) ||| ((v3 - (96 : Int32)).toInt64)) <<< ((5 : Int32).toInt64 &&& 63)) ||| ((v4 - (96 : Int32)).toInt64)) <<< ((5 : Int32).toInt64 &&& 63)) ||| ((v5 - (96 : Int32)).toInt64))
  else
    if v3 = 0 then
      if v4 = 0 then
        if v5 = 0 then
          ((((((v0.toInt64) - (96 : Int64)) <<< ((5 : Int32).toInt64 &&& 63)) ||| ((v1 - (96 : Int32)).toInt64)) <<< ((5 : Int32).toInt64 &&& 63)) ||| ((v2 - (96 : Int32)).toInt64))
        else
          ((((((((v0.toInt64) - (96 : Int64)) <<< ((5 : Int32).toInt64 &&& 63)) ||| ((v1 - (96 : Int32)).toInt64)) <<< ((5 : Int32).toInt64 &&& 63)) ||| ((v2 - (96 : Int32)).toInt64)) <<< ((5 : Int32).toInt64 &&& 63)) ||| ((v5 - (96 : Int32)).toInt64))
      else
        if v5 = 0 then
          ((((((((v0.toInt64) - (96 : Int64)) <<< ((5 : Int32).toInt64 &&& 63)) ||| ((v1 - (96 : Int32)).toInt64)) <<< ((5 : Int32).toInt64 &&& 63)) ||| ((v2 - (96 : Int32)).toInt64)) <<< ((5 : Int32).toInt64 &&& 63)) ||| ((v4 - (96 : Int32)).toInt64))
        else
          ((((((((((v0.toInt64) - (96 : Int64)) <<< ((5 : Int32).toInt64 &&& 63)) ||| ((v1 - (96 : Int32)).toInt64)) <<< ((5 : Int32).toInt64 &&& 63)) ||| ((v2 - (96 : Int32)).toInt64)) <<< ((5 : Int32).toInt64 &&& 63)) ||| ((v4 - (96 : Int32)).toInt64)) <<< ((5 : Int32).toInt64 &&& 63)) ||| ((v5 - (96 : Int32)).toInt64))
    else
      if v4 = 0 then
        if v5 = 0 then
          ((((((((v0.toInt64) - (96 : Int64)) <<< ((5 : Int32).toInt64 &&& 63)) ||| ((v1 - (96 : Int32)).toInt64)) <<< ((5 : Int32).toInt64 &&& 63)) ||| ((v2 - (96 : Int32)).toInt64)) <<< ((5 : Int32).toInt64 &&& 63)) ||| ((v3 - (96 : Int32)).toInt64))
        else
          ((((((((((v0.toInt64) - (96 : Int64)) <<< ((5 : Int32).toInt64 &&& 63)) ||| ((v1 - (96 : Int32)).toInt64)) <<< ((5 : Int32).toInt64 &&& 63)) ||| ((v2 - (96 : Int32)).toInt64)) <<< ((5 : Int32).toInt64 &&& 63)) ||| ((v3 - (96 : Int32)).toInt64)) <<< ((5 : Int32).toInt64 &&& 63)) ||| ((v5 - (96 : Int32)).toInt64))
      else
        if v5 = 0 then
          ((((((((((v0.toInt64) - (96 : Int64)) <<< ((5 : Int32).toInt64 &&& 63)) ||| ((v1 - (96 : Int32)).toInt64)) <<< ((5 : Int32).toInt64 &&& 63)) ||| ((v2 - (96 : Int32)).toInt64)) <<< ((5 : Int32).toInt64 &&& 63)) ||| ((v3 - (96 : Int32)).toInt64)) <<< ((5 : Int32).toInt64 &&& 63)) ||| ((v4 - (96 : Int32)).toInt64))
        else
          ((((((((((((v0.toInt64) - (96 : Int64)) <<< ((5 : Int32).toInt64 &&& 63)) ||| ((v1 - (96 : Int32)).toInt64)) <<< ((5 : Int32).toInt64 &&& 63)) ||| ((v2 - (96 : Int32)).toInt64)) <<< ((5 : Int32).toInt64 &&& 63)) ||| ((v3 - (96 : Int32)).toInt64)) <<< ((5 : Int32).toInt64 &&& 63)) ||| ((v4 - (96 : Int32)).toInt64)) <<< ((5 : Int32).toInt64 &&& 63)) ||| ((v5 - (96 : Int32)).toInt64))
set_option maxHeartbeats 4000000 in
theorem tX11_spelled {ω : Wd} {l : Launch} (d : Nat) (v0 : Int32) (v1 : Int32) (v2 : Int32) (v3 : Int32) (v4 : Int32) (v5 : Int32) (μ : Mem) (hN : μ.1 = NN) : Ct ω l mX11_spelled d [.int v0, .int v1, .int v2, .int v3, .int v4, .int v5] μ 0 0 (PE (.inl (some (.long (fX11_spelled v0 v1 v2 v3 v4 v5)))) μ True) := by
  refine Ct.of pn_RX11 (Nat.le_of_ble_eq_true rfl) ?_
  show J ω l mX11_spelled d 0 [(0, .int v0), (1, .int v1), (2, .int v2), (3, .int v3), (4, .int v4), (5, .int v5)] [] μ 0 0 _
  generalize h : fX11_spelled v0 v1 v2 v3 v4 v5 = res
  unfold fX11_spelled at h
  refine J.iload_n (pc := 0) dX11_spelled_0 rfl 0 rfl ?_
  refine J.i2l (pc := 1) dX11_spelled_1 ?_
  refine J.ldc2 (pc := 2) dX11_spelled_2 kl_RX11_145 ?_
  refine J.lsub (pc := 5) dX11_spelled_5 ?_
  refine J.iconst (pc := 6) dX11_spelled_6 ic_5 ?_
  refine J.lshl (pc := 7) dX11_spelled_7 ?_
  refine J.iload_n (pc := 8) dX11_spelled_8 rfl 1 rfl ?_
  refine J.bipush (pc := 9) dX11_spelled_9 ib_96 ?_
  refine J.isub (pc := 11) dX11_spelled_11 ?_
  refine J.i2l (pc := 12) dX11_spelled_12 ?_
  refine J.lor (pc := 13) dX11_spelled_13 ?_
  refine J.lstore (pc := 14) ([(6, .long ((((v0.toInt64) - (96 : Int64)) <<< ((5 : Int32).toInt64 &&& 63)) ||| ((v1 - (96 : Int32)).toInt64))), (0, .int v0), (1, .int v1), (2, .int v2), (3, .int v3), (4, .int v4), (5, .int v5)]) dX11_spelled_14 (Nat.le_of_ble_eq_true rfl) rfl ?_
  refine J.iload_n (pc := 16) dX11_spelled_16 rfl 3 rfl ?_
  rcases ifc h with ⟨hc, h⟩ | ⟨hc, h⟩
  · refine J.zeq (pc := 17) (tgt := 32) dX11_spelled_17 (by decide) (fun _ => ?_) (fun q => absurd hc q)
    refine J.iload_n (pc := 32) dX11_spelled_32 rfl 4 rfl ?_
    rcases ifc h with ⟨hc, h⟩ | ⟨hc, h⟩
    · refine J.zeq (pc := 33) (tgt := 48) dX11_spelled_33 (by decide) (fun _ => ?_) (fun q => absurd hc q)
      refine J.iload (pc := 48) dX11_spelled_48 5 rfl ?_
      rcases ifc h with ⟨hc, h⟩ | ⟨hc, h⟩
      · refine J.zeq (pc := 50) (tgt := 66) dX11_spelled_50 (by decide) (fun _ => ?_) (fun q => absurd hc q)
        refine J.iload (pc := 66) dX11_spelled_66 6 rfl ?_
        rcases ifc h with ⟨hc, h⟩ | ⟨hc, h⟩
        · refine J.zeq (pc := 68) (tgt := 84) dX11_spelled_68 (by decide) (fun _ => ?_) (fun q => absurd hc q)
          refine J.lload (pc := 84) dX11_spelled_84 0 rfl ?_
          cases h
          exact J.lret (pc := 86) dX11_spelled_86 rfl ⟨rfl, rfl, hN, trivial⟩
        · refine J.zeq (pc := 68) (tgt := 84) dX11_spelled_68 (by decide) (fun q => absurd q hc) (fun _ => ?_)
          refine J.lload (pc := 71) dX11_spelled_71 0 rfl ?_
          refine J.iconst (pc := 73) dX11_spelled_73 ic_5 ?_
          refine J.lshl (pc := 74) dX11_spelled_74 ?_
          refine J.iload (pc := 75) dX11_spelled_75 6 rfl ?_
          refine J.bipush (pc := 77) dX11_spelled_77 ib_96 ?_
          refine J.isub (pc := 79) dX11_spelled_79 ?_
          refine J.i2l (pc := 80) dX11_spelled_80 ?_
          refine J.lor (pc := 81) dX11_spelled_81 ?_
          refine J.lstore (pc := 82) ([(6, .long ((((((v0.toInt64) - (96 : Int64)) <<< ((5 : Int32).toInt64 &&& 63)) ||| ((v1 - (96 : Int32)).toInt64)) <<< ((5 : Int32).toInt64 &&& 63)) ||| ((v5 - (96 : Int32)).toInt64))), (0, .int v0), (1, .int v1), (2, .int v2), (3, .int v3), (4, .int v4), (5, .int v5)]) dX11_spelled_82 (Nat.le_of_ble_eq_true rfl) rfl ?_
          refine J.lload (pc := 84) dX11_spelled_84 0 rfl ?_
          cases h
          exact J.lret (pc := 86) dX11_spelled_86 rfl ⟨rfl, rfl, hN, trivial⟩
      · refine J.zeq (pc := 50) (tgt := 66) dX11_spelled_50 (by decide) (fun q => absurd q hc) (fun _ => ?_)
        refine J.lload (pc := 53) dX11_spelled_53 0 rfl ?_
        refine J.iconst (pc := 55) dX11_spelled_55 ic_5 ?_
        refine J.lshl (pc := 56) dX11_spelled_56 ?_
        refine J.iload (pc := 57) dX11_spelled_57 5 rfl ?_
        refine J.bipush (pc := 59) dX11_spelled_59 ib_96 ?_
        refine J.isub (pc := 61) dX11_spelled_61 ?_
        refine J.i2l (pc := 62) dX11_spelled_62 ?_
        refine J.lor (pc := 63) dX11_spelled_63 ?_
        refine J.lstore (pc := 64) ([(6, .long ((((((v0.toInt64) - (96 : Int64)) <<< ((5 : Int32).toInt64 &&& 63)) ||| ((v1 - (96 : Int32)).toInt64)) <<< ((5 : Int32).toInt64 &&& 63)) ||| ((v4 - (96 : Int32)).toInt64))), (0, .int v0), (1, .int v1), (2, .int v2), (3, .int v3), (4, .int v4), (5, .int v5)]) dX11_spelled_64 (Nat.le_of_ble_eq_true rfl) rfl ?_
        refine J.iload (pc := 66) dX11_spelled_66 6 rfl ?_
        rcases ifc h with ⟨hc, h⟩ | ⟨hc, h⟩
        · refine J.zeq (pc := 68) (tgt := 84) dX11_spelled_68 (by decide) (fun _ => ?_) (fun q => absurd hc q)
          refine J.lload (pc := 84) dX11_spelled_84 0 rfl ?_
          cases h
          exact J.lret (pc := 86) dX11_spelled_86 rfl ⟨rfl, rfl, hN, trivial⟩
        · refine J.zeq (pc := 68) (tgt := 84) dX11_spelled_68 (by decide) (fun q => absurd q hc) (fun _ => ?_)
          refine J.lload (pc := 71) dX11_spelled_71 0 rfl ?_
          refine J.iconst (pc := 73) dX11_spelled_73 ic_5 ?_
          refine J.lshl (pc := 74) dX11_spelled_74 ?_
          refine J.iload (pc := 75) dX11_spelled_75 6 rfl ?_
          refine J.bipush (pc := 77) dX11_spelled_77 ib_96 ?_
          refine J.isub (pc := 79) dX11_spelled_79 ?_
          refine J.i2l (pc := 80) dX11_spelled_80 ?_
          refine J.lor (pc := 81) dX11_spelled_81 ?_
          refine J.lstore (pc := 82) ([(6, .long ((((((((v0.toInt64) - (96 : Int64)) <<< ((5 : Int32).toInt64 &&& 63)) ||| ((v1 - (96 : Int32)).toInt64)) <<< ((5 : Int32).toInt64 &&& 63)) ||| ((v4 - (96 : Int32)).toInt64)) <<< ((5 : Int32).toInt64 &&& 63)) ||| ((v5 - (96 : Int32)).toInt64))), (0, .int v0), (1, .int v1), (2, .int v2), (3, .int v3), (4, .int v4), (5, .int v5)]) dX11_spelled_82 (Nat.le_of_ble_eq_true rfl) rfl ?_
          refine J.lload (pc := 84) dX11_spelled_84 0 rfl ?_
          cases h
          exact J.lret (pc := 86) dX11_spelled_86 rfl ⟨rfl, rfl, hN, trivial⟩
    · refine J.zeq (pc := 33) (tgt := 48) dX11_spelled_33 (by decide) (fun q => absurd q hc) (fun _ => ?_)
      refine J.lload (pc := 36) dX11_spelled_36 0 rfl ?_
      refine J.iconst (pc := 38) dX11_spelled_38 ic_5 ?_
      refine J.lshl (pc := 39) dX11_spelled_39 ?_
      refine J.iload_n (pc := 40) dX11_spelled_40 rfl 4 rfl ?_
      refine J.bipush (pc := 41) dX11_spelled_41 ib_96 ?_
      refine J.isub (pc := 43) dX11_spelled_43 ?_
      refine J.i2l (pc := 44) dX11_spelled_44 ?_
      refine J.lor (pc := 45) dX11_spelled_45 ?_
      refine J.lstore (pc := 46) ([(6, .long ((((((v0.toInt64) - (96 : Int64)) <<< ((5 : Int32).toInt64 &&& 63)) ||| ((v1 - (96 : Int32)).toInt64)) <<< ((5 : Int32).toInt64 &&& 63)) ||| ((v3 - (96 : Int32)).toInt64))), (0, .int v0), (1, .int v1), (2, .int v2), (3, .int v3), (4, .int v4), (5, .int v5)]) dX11_spelled_46 (Nat.le_of_ble_eq_true rfl) rfl ?_
      refine J.iload (pc := 48) dX11_spelled_48 5 rfl ?_
      rcases ifc h with ⟨hc, h⟩ | ⟨hc, h⟩
      · refine J.zeq (pc := 50) (tgt := 66) dX11_spelled_50 (by decide) (fun _ => ?_) (fun q => absurd hc q)
        refine J.iload (pc := 66) dX11_spelled_66 6 rfl ?_
        rcases ifc h with ⟨hc, h⟩ | ⟨hc, h⟩
        · refine J.zeq (pc := 68) (tgt := 84) dX11_spelled_68 (by decide) (fun _ => ?_) (fun q => absurd hc q)
          refine J.lload (pc := 84) dX11_spelled_84 0 rfl ?_
          cases h
          exact J.lret (pc := 86) dX11_spelled_86 rfl ⟨rfl, rfl, hN, trivial⟩
        · refine J.zeq (pc := 68) (tgt := 84) dX11_spelled_68 (by decide) (fun q => absurd q hc) (fun _ => ?_)
          refine J.lload (pc := 71) dX11_spelled_71 0 rfl ?_
          refine J.iconst (pc := 73) dX11_spelled_73 ic_5 ?_
          refine J.lshl (pc := 74) dX11_spelled_74 ?_
          refine J.iload (pc := 75) dX11_spelled_75 6 rfl ?_
          refine J.bipush (pc := 77) dX11_spelled_77 ib_96 ?_
          refine J.isub (pc := 79) dX11_spelled_79 ?_
          refine J.i2l (pc := 80) dX11_spelled_80 ?_
          refine J.lor (pc := 81) dX11_spelled_81 ?_
          refine J.lstore (pc := 82) ([(6, .long ((((((((v0.toInt64) - (96 : Int64)) <<< ((5 : Int32).toInt64 &&& 63)) ||| ((v1 - (96 : Int32)).toInt64)) <<< ((5 : Int32).toInt64 &&& 63)) ||| ((v3 - (96 : Int32)).toInt64)) <<< ((5 : Int32).toInt64 &&& 63)) ||| ((v5 - (96 : Int32)).toInt64))), (0, .int v0), (1, .int v1), (2, .int v2), (3, .int v3), (4, .int v4), (5, .int v5)]) dX11_spelled_82 (Nat.le_of_ble_eq_true rfl) rfl ?_
          refine J.lload (pc := 84) dX11_spelled_84 0 rfl ?_
          cases h
          exact J.lret (pc := 86) dX11_spelled_86 rfl ⟨rfl, rfl, hN, trivial⟩
      · refine J.zeq (pc := 50) (tgt := 66) dX11_spelled_50 (by decide) (fun q => absurd q hc) (fun _ => ?_)
        refine J.lload (pc := 53) dX11_spelled_53 0 rfl ?_
        refine J.iconst (pc := 55) dX11_spelled_55 ic_5 ?_
        refine J.lshl (pc := 56) dX11_spelled_56 ?_
        refine J.iload (pc := 57) dX11_spelled_57 5 rfl ?_
        refine J.bipush (pc := 59) dX11_spelled_59 ib_96 ?_
        refine J.isub (pc := 61) dX11_spelled_61 ?_
        refine J.i2l (pc := 62) dX11_spelled_62 ?_
        refine J.lor (pc := 63) dX11_spelled_63 ?_
        refine J.lstore (pc := 64) ([(6, .long ((((((((v0.toInt64) - (96 : Int64)) <<< ((5 : Int32).toInt64 &&& 63)) ||| ((v1 - (96 : Int32)).toInt64)) <<< ((5 : Int32).toInt64 &&& 63)) ||| ((v3 - (96 : Int32)).toInt64)) <<< ((5 : Int32).toInt64 &&& 63)) ||| ((v4 - (96 : Int32)).toInt64))), (0, .int v0), (1, .int v1), (2, .int v2), (3, .int v3), (4, .int v4), (5, .int v5)]) dX11_spelled_64 (Nat.le_of_ble_eq_true rfl) rfl ?_
        refine J.iload (pc := 66) dX11_spelled_66 6 rfl ?_
        rcases ifc h with ⟨hc, h⟩ | ⟨hc, h⟩
        · refine J.zeq (pc := 68) (tgt := 84) dX11_spelled_68 (by decide) (fun _ => ?_) (fun q => absurd hc q)
          refine J.lload (pc := 84) dX11_spelled_84 0 rfl ?_
          cases h
          exact J.lret (pc := 86) dX11_spelled_86 rfl ⟨rfl, rfl, hN, trivial⟩
        · refine J.zeq (pc := 68) (tgt := 84) dX11_spelled_68 (by decide) (fun q => absurd q hc) (fun _ => ?_)
          refine J.lload (pc := 71) dX11_spelled_71 0 rfl ?_
          refine J.iconst (pc := 73) dX11_spelled_73 ic_5 ?_
          refine J.lshl (pc := 74) dX11_spelled_74 ?_
          refine J.iload (pc := 75) dX11_spelled_75 6 rfl ?_
          refine J.bipush (pc := 77) dX11_spelled_77 ib_96 ?_
          refine J.isub (pc := 79) dX11_spelled_79 ?_
          refine J.i2l (pc := 80) dX11_spelled_80 ?_
          refine J.lor (pc := 81) dX11_spelled_81 ?_
          refine J.lstore (pc := 82) ([(6, .long ((((((((((v0.toInt64) - (96 : Int64)) <<< ((5 : Int32).toInt64 &&& 63)) ||| ((v1 - (96 : Int32)).toInt64)) <<< ((5 : Int32).toInt64 &&& 63)) ||| ((v3 - (96 : Int32)).toInt64)) <<< ((5 : Int32).toInt64 &&& 63)) ||| ((v4 - (96 : Int32)).toInt64)) <<< ((5 : Int32).toInt64 &&& 63)) ||| ((v5 - (96 : Int32)).toInt64))), (0, .int v0), (1, .int v1), (2, .int v2), (3, .int v3), (4, .int v4), (5, .int v5)]) dX11_spelled_82 (Nat.le_of_ble_eq_true rfl) rfl ?_
          refine J.lload (pc := 84) dX11_spelled_84 0 rfl ?_
          cases h
          exact J.lret (pc := 86) dX11_spelled_86 rfl ⟨rfl, rfl, hN, trivial⟩
  · refine J.zeq (pc := 17) (tgt := 32) dX11_spelled_17 (by decide) (fun q => absurd q hc) (fun _ => ?_)
    refine J.lload (pc := 20) dX11_spelled_20 0 rfl ?_
    refine J.iconst (pc := 22) dX11_spelled_22 ic_5 ?_
    refine J.lshl (pc := 23) dX11_spelled_23 ?_
    refine J.iload_n (pc := 24) dX11_spelled_24 rfl 3 rfl ?_
    refine J.bipush (pc := 25) dX11_spelled_25 ib_96 ?_
    refine J.isub (pc := 27) dX11_spelled_27 ?_
    refine J.i2l (pc := 28) dX11_spelled_28 ?_
    refine J.lor (pc := 29) dX11_spelled_29 ?_
    refine J.lstore (pc := 30) ([(6, .long ((((((v0.toInt64) - (96 : Int64)) <<< ((5 : Int32).toInt64 &&& 63)) ||| ((v1 - (96 : Int32)).toInt64)) <<< ((5 : Int32).toInt64 &&& 63)) ||| ((v2 - (96 : Int32)).toInt64))), (0, .int v0), (1, .int v1), (2, .int v2), (3, .int v3), (4, .int v4), (5, .int v5)]) dX11_spelled_30 (Nat.le_of_ble_eq_true rfl) rfl ?_
    refine J.iload_n (pc := 32) dX11_spelled_32 rfl 4 rfl ?_
    rcases ifc h with ⟨hc, h⟩ | ⟨hc, h⟩
    · refine J.zeq (pc := 33) (tgt := 48) dX11_spelled_33 (by decide) (fun _ => ?_) (fun q => absurd hc q)
      refine J.iload (pc := 48) dX11_spelled_48 5 rfl ?_
      rcases ifc h with ⟨hc, h⟩ | ⟨hc, h⟩
      · refine J.zeq (pc := 50) (tgt := 66) dX11_spelled_50 (by decide) (fun _ => ?_) (fun q => absurd hc q)
        refine J.iload (pc := 66) dX11_spelled_66 6 rfl ?_
        rcases ifc h with ⟨hc, h⟩ | ⟨hc, h⟩
        · refine J.zeq (pc := 68) (tgt := 84) dX11_spelled_68 (by decide) (fun _ => ?_) (fun q => absurd hc q)
          refine J.lload (pc := 84) dX11_spelled_84 0 rfl ?_
          cases h
          exact J.lret (pc := 86) dX11_spelled_86 rfl ⟨rfl, rfl, hN, trivial⟩
        · refine J.zeq (pc := 68) (tgt := 84) dX11_spelled_68 (by decide) (fun q => absurd q hc) (fun _ => ?_)
          refine J.lload (pc := 71) dX11_spelled_71 0 rfl ?_
          refine J.iconst (pc := 73) dX11_spelled_73 ic_5 ?_
          refine J.lshl (pc := 74) dX11_spelled_74 ?_
          refine J.iload (pc := 75) dX11_spelled_75 6 rfl ?_
          refine J.bipush (pc := 77) dX11_spelled_77 ib_96 ?_
          refine J.isub (pc := 79) dX11_spelled_79 ?_
          refine J.i2l (pc := 80) dX11_spelled_80 ?_
          refine J.lor (pc := 81) dX11_spelled_81 ?_
          refine J.lstore (pc := 82) ([(6, .long ((((((((v0.toInt64) - (96 : Int64)) <<< ((5 : Int32).toInt64 &&& 63)) ||| ((v1 - (96 : Int32)).toInt64)) <<< ((5 : Int32).toInt64 &&& 63)) ||| ((v2 - (96 : Int32)).toInt64)) <<< ((5 : Int32).toInt64 &&& 63)) ||| ((v5 - (96 : Int32)).toInt64))), (0, .int v0), (1, .int v1), (2, .int v2), (3, .int v3), (4, .int v4), (5, .int v5)]) dX11_spelled_82 (Nat.le_of_ble_eq_true rfl) rfl ?_
          refine J.lload (pc := 84) dX11_spelled_84 0 rfl ?_
          cases h
          exact J.lret (pc := 86) dX11_spelled_86 rfl ⟨rfl, rfl, hN, trivial⟩
      · refine J.zeq (pc := 50) (tgt := 66) dX11_spelled_50 (by decide) (fun q => absurd q hc) (fun _ => ?_)
        refine J.lload (pc := 53) dX11_spelled_53 0 rfl ?_
        refine J.iconst (pc := 55) dX11_spelled_55 ic_5 ?_
        refine J.lshl (pc := 56) dX11_spelled_56 ?_
        refine J.iload (pc := 57) dX11_spelled_57 5 rfl ?_
        refine J.bipush (pc := 59) dX11_spelled_59 ib_96 ?_
        refine J.isub (pc := 61) dX11_spelled_61 ?_
        refine J.i2l (pc := 62) dX11_spelled_62 ?_
        refine J.lor (pc := 63) dX11_spelled_63 ?_
        refine J.lstore (pc := 64) ([(6, .long ((((((((v0.toInt64) - (96 : Int64)) <<< ((5 : Int32).toInt64 &&& 63)) ||| ((v1 - (96 : Int32)).toInt64)) <<< ((5 : Int32).toInt64 &&& 63)) ||| ((v2 - (96 : Int32)).toInt64)) <<< ((5 : Int32).toInt64 &&& 63)) ||| ((v4 - (96 : Int32)).toInt64))), (0, .int v0), (1, .int v1), (2, .int v2), (3, .int v3), (4, .int v4), (5, .int v5)]) dX11_spelled_64 (Nat.le_of_ble_eq_true rfl) rfl ?_
        refine J.iload (pc := 66) dX11_spelled_66 6 rfl ?_
        rcases ifc h with ⟨hc, h⟩ | ⟨hc, h⟩
        · refine J.zeq (pc := 68) (tgt := 84) dX11_spelled_68 (by decide) (fun _ => ?_) (fun q => absurd hc q)
          refine J.lload (pc := 84) dX11_spelled_84 0 rfl ?_
          cases h
          exact J.lret (pc := 86) dX11_spelled_86 rfl ⟨rfl, rfl, hN, trivial⟩
        · refine J.zeq (pc := 68) (tgt := 84) dX11_spelled_68 (by decide) (fun q => absurd q hc) (fun _ => ?_)
          refine J.lload (pc := 71) dX11_spelled_71 0 rfl ?_
          refine J.iconst (pc := 73) dX11_spelled_73 ic_5 ?_
          refine J.lshl (pc := 74) dX11_spelled_74 ?_
          refine J.iload (pc := 75) dX11_spelled_75 6 rfl ?_
          refine J.bipush (pc := 77) dX11_spelled_77 ib_96 ?_
          refine J.isub (pc := 79) dX11_spelled_79 ?_
          refine J.i2l (pc := 80) dX11_spelled_80 ?_
          refine J.lor (pc := 81) dX11_spelled_81 ?_
          refine J.lstore (pc := 82) ([(6, .long ((((((((((v0.toInt64) - (96 : Int64)) <<< ((5 : Int32).toInt64 &&& 63)) ||| ((v1 - (96 : Int32)).toInt64)) <<< ((5 : Int32).toInt64 &&& 63)) ||| ((v2 - (96 : Int32)).toInt64)) <<< ((5 : Int32).toInt64 &&& 63)) ||| ((v4 - (96 : Int32)).toInt64)) <<< ((5 : Int32).toInt64 &&& 63)) ||| ((v5 - (96 : Int32)).toInt64))), (0, .int v0), (1, .int v1), (2, .int v2), (3, .int v3), (4, .int v4), (5, .int v5)]) dX11_spelled_82 (Nat.le_of_ble_eq_true rfl) rfl ?_
          refine J.lload (pc := 84) dX11_spelled_84 0 rfl ?_
          cases h
          exact J.lret (pc := 86) dX11_spelled_86 rfl ⟨rfl, rfl, hN, trivial⟩
    · refine J.zeq (pc := 33) (tgt := 48) dX11_spelled_33 (by decide) (fun q => absurd q hc) (fun _ => ?_)
      refine J.lload (pc := 36) dX11_spelled_36 0 rfl ?_
      refine J.iconst (pc := 38) dX11_spelled_38 ic_5 ?_
      refine J.lshl (pc := 39) dX11_spelled_39 ?_
      refine J.iload_n (pc := 40) dX11_spelled_40 rfl 4 rfl ?_
      refine J.bipush (pc := 41) dX11_spelled_41 ib_96 ?_
      refine J.isub (pc := 43) dX11_spelled_43 ?_
      refine J.i2l (pc := 44) dX11_spelled_44 ?_
      refine J.lor (pc := 45) dX11_spelled_45 ?_
      refine J.lstore (pc := 46) ([(6, .long ((((((((v0.toInt64) - (96 : Int64)) <<< ((5 : Int32).toInt64 &&& 63)) ||| ((v1 - (96 : Int32)).toInt64)) <<< ((5 : Int32).toInt64 &&& 63)) ||| ((v2 - (96 : Int32)).toInt64)) <<< ((5 : Int32).toInt64 &&& 63)) ||| ((v3 - (96 : Int32)).toInt64))), (0, .int v0), (1, .int v1), (2, .int v2), (3, .int v3), (4, .int v4), (5, .int v5)]) dX11_spelled_46 (Nat.le_of_ble_eq_true rfl) rfl ?_
      refine J.iload (pc := 48) dX11_spelled_48 5 rfl ?_
      rcases ifc h with ⟨hc, h⟩ | ⟨hc, h⟩
      · refine J.zeq (pc := 50) (tgt := 66) dX11_spelled_50 (by decide) (fun _ => ?_) (fun q => absurd hc q)
        refine J.iload (pc := 66) dX11_spelled_66 6 rfl ?_
        rcases ifc h with ⟨hc, h⟩ | ⟨hc, h⟩
        · refine J.zeq (pc := 68) (tgt := 84) dX11_spelled_68 (by decide) (fun _ => ?_) (fun q => absurd hc q)
          refine J.lload (pc := 84) dX11_spelled_84 0 rfl ?_
          cases h
          exact J.lret (pc := 86) dX11_spelled_86 rfl ⟨rfl, rfl, hN, trivial⟩
        · refine J.zeq (pc := 68) (tgt := 84) dX11_spelled_68 (by decide) (fun q => absurd q hc) (fun _ => ?_)
          refine J.lload (pc := 71) dX11_spelled_71 0 rfl ?_
          refine J.iconst (pc := 73) dX11_spelled_73 ic_5 ?_
          refine J.lshl (pc := 74) dX11_spelled_74 ?_
          refine J.iload (pc := 75) dX11_spelled_75 6 rfl ?_
          refine J.bipush (pc := 77) dX11_spelled_77 ib_96 ?_
          refine J.isub (pc := 79) dX11_spelled_79 ?_
          refine J.i2l (pc := 80) dX11_spelled_80 ?_
          refine J.lor (pc := 81) dX11_spelled_81 ?_
          refine J.lstore (pc := 82) ([(6, .long ((((((((((v0.toInt64) - (96 : Int64)) <<< ((5 : Int32).toInt64 &&& 63)) ||| ((v1 - (96 : Int32)).toInt64)) <<< ((5 : Int32).toInt64 &&& 63)) ||| ((v2 - (96 : Int32)).toInt64)) <<< ((5 : Int32).toInt64 &&& 63)) ||| ((v3 - (96 : Int32)).toInt64)) <<< ((5 : Int32).toInt64 &&& 63)) ||| ((v5 - (96 : Int32)).toInt64))), (0, .int v0), (1, .int v1), (2, .int v2), (3, .int v3), (4, .int v4), (5, .int v5)]) dX11_spelled_82 (Nat.le_of_ble_eq_true rfl) rfl ?_
          refine J.lload (pc := 84) dX11_spelled_84 0 rfl ?_
          cases h
          exact J.lret (pc := 86) dX11_spelled_86 rfl ⟨rfl, rfl, hN, trivial⟩
      · refine J.zeq (pc := 50) (tgt := 66) dX11_spelled_50 (by decide) (fun q => absurd q hc) (fun _ => ?_)
        refine J.lload (pc := 53) dX11_spelled_53 0 rfl ?_
        refine J.iconst (pc := 55) dX11_spelled_55 ic_5 ?_
        refine J.lshl (pc := 56) dX11_spelled_56 ?_
        refine J.iload (pc := 57) dX11_spelled_57 5 rfl ?_
        refine J.bipush (pc := 59) dX11_spelled_59 ib_96 ?_
        refine J.isub (pc := 61) dX11_spelled_61 ?_
        refine J.i2l (pc := 62) dX11_spelled_62 ?_
        refine J.lor (pc := 63) dX11_spelled_63 ?_
        refine J.lstore (pc := 64) ([(6, .long ((((((((((v0.toInt64) - (96 : Int64)) <<< ((5 : Int32).toInt64 &&& 63)) ||| ((v1 - (96 : Int32)).toInt64)) <<< ((5 : Int32).toInt64 &&& 63)) ||| ((v2 - (96 : Int32)).toInt64)) <<< ((5 : Int32).toInt64 &&& 63)) ||| ((v3 - (96 : Int32)).toInt64)) <<< ((5 : Int32).toInt64 &&& 63)) ||| ((v4 - (96 : Int32)).toInt64))), (0, .int v0), (1, .int v1), (2, .int v2), (3, .int v3), (4, .int v4), (5, .int v5)]) dX11_spelled_64 (Nat.le_of_ble_eq_true rfl) rfl ?_
        refine J.iload (pc := 66) dX11_spelled_66 6 rfl ?_
        rcases ifc h with ⟨hc, h⟩ | ⟨hc, h⟩
        · refine J.zeq (pc := 68) (tgt := 84) dX11_spelled_68 (by decide) (fun _ => ?_) (fun q => absurd hc q)
          refine J.lload (pc := 84) dX11_spelled_84 0 rfl ?_
          cases h
          exact J.lret (pc := 86) dX11_spelled_86 rfl ⟨rfl, rfl, hN, trivial⟩
        · refine J.zeq (pc := 68) (tgt := 84) dX11_spelled_68 (by decide) (fun q => absurd q hc) (fun _ => ?_)
          refine J.lload (pc := 71) dX11_spelled_71 0 rfl ?_
          refine J.iconst (pc := 73) dX11_spelled_73 ic_5 ?_
          refine J.lshl (pc := 74) dX11_spelled_74 ?_
          refine J.iload (pc := 75) dX11_spelled_75 6 rfl ?_
          refine J.bipush (pc := 77) dX11_spelled_77 ib_96 ?_
          refine J.isub (pc := 79) dX11_spelled_79 ?_
          refine J.i2l (pc := 80) dX11_spelled_80 ?_
          refine J.lor (pc := 81) dX11_spelled_81 ?_
          refine J.lstore (pc := 82) ([(6, .long ((((((((((((v0.toInt64) - (96 : Int64)) <<< ((5 : Int32).toInt64 &&& 63)) ||| ((v1 - (96 : Int32)).toInt64)) <<< ((5 : Int32).toInt64 &&& 63)) ||| ((v2 - (96 : Int32)).toInt64)) <<< ((5 : Int32).toInt64 &&& 63)) ||| ((v3 - (96 : Int32)).toInt64)) <<< ((5 : Int32).toInt64 &&& 63)) ||| ((v4 - (96 : Int32)).toInt64)) <<< ((5 : Int32).toInt64 &&& 63)) ||| ((v5 - (96 : Int32)).toInt64))), (0, .int v0), (1, .int v1), (2, .int v2), (3, .int v3), (4, .int v4), (5, .int v5)]) dX11_spelled_82 (Nat.le_of_ble_eq_true rfl) rfl ?_
          refine J.lload (pc := 84) dX11_spelled_84 0 rfl ?_
          cases h
          exact J.lret (pc := 86) dX11_spelled_86 rfl ⟨rfl, rfl, hN, trivial⟩
def fX11_letters (v0 : Int32) : Int64 :=
  if v0 = (0 : Int32) then
    (fX11_spelled (112 : Int32) (97 : Int32) (99 : Int32) (101 : Int32) (0 : Int32) (0 : Int32))
  else
  if v0 = (1 : Int32) then
    (fX11_spelled (115 : Int32) (116 : Int32) (101 : Int32) (112 : Int32) (115 : Int32) (0 : Int32))
  else
  if v0 = (2 : Int32) then
    (fX11_spelled (102 : Int32) (97 : Int32) (114 : Int32) (0 : Int32) (0 : Int32) (0 : Int32))
  else
  if v0 = (3 : Int32) then
    (fX11_spelled (109 : Int32) (101 : Int32) (116 : Int32) (0 : Int32) (0 : Int32) (0 : Int32))
  else
  if v0 = (4 : Int32) then
    (fX11_spelled (119 : Int32) (105 : Int32) (116 : Int32) (104 : Int32) (0 : Int32) (0 : Int32))
  else
  if v0 = (5 : Int32) then
    (fX11_spelled (100 : Int32) (97 : Int32) (121 : Int32) (0 : Int32) (0 : Int32) (0 : Int32))
  else
  if v0 = (6 : Int32) then
    (fX11_spelled (105 : Int32) (110 : Int32) (107 : Int32) (0 : Int32) (0 : Int32) (0 : Int32))
  else
  if v0 = (7 : Int32) then
    (fX11_spelled (112 : Int32) (108 : Int32) (97 : Int32) (99 : Int32) (101 : Int32) (0 : Int32))
  else
  if v0 = (8 : Int32) then
    (fX11_spelled (100 : Int32) (101 : Int32) (101 : Int32) (100 : Int32) (0 : Int32) (0 : Int32))
  else
  if v0 = (9 : Int32) then
    (fX11_spelled (115 : Int32) (116 : Int32) (105 : Int32) (108 : Int32) (101 : Int32) (0 : Int32))
  else
  if v0 = (10 : Int32) then
    (fX11_spelled (112 : Int32) (101 : Int32) (114 : Int32) (115 : Int32) (111 : Int32) (110 : Int32))
  else
  if v0 = (11 : Int32) then
    (fX11_spelled (116 : Int32) (111 : Int32) (0 : Int32) (0 : Int32) (0 : Int32) (0 : Int32))
  else
  if v0 = (12 : Int32) then
    (fX11_spelled (103 : Int32) (111 : Int32) (101 : Int32) (115 : Int32) (0 : Int32) (0 : Int32))
  else
  if v0 = (13 : Int32) then
    (fX11_spelled (102 : Int32) (97 : Int32) (100 : Int32) (101 : Int32) (115 : Int32) (0 : Int32))
  else
  if v0 = (14 : Int32) then
    (fX11_spelled (97 : Int32) (110 : Int32) (100 : Int32) (0 : Int32) (0 : Int32) (0 : Int32))
  else
  if v0 = (15 : Int32) then
    (fX11_spelled (111 : Int32) (114 : Int32) (0 : Int32) (0 : Int32) (0 : Int32) (0 : Int32))
  else
  (fX11_spelled (110 : Int32) (111 : Int32) (116 : Int32) (0 : Int32) (0 : Int32) (0 : Int32))
set_option maxHeartbeats 4000000 in
theorem tX11_letters {ω : Wd} {l : Launch} (d : Nat) (v0 : Int32) (μ : Mem) (hN : μ.1 = NN) : Ct ω l mX11_letters (d + 1) [.int v0] μ 0 0 (PE (.inl (some (.long (fX11_letters v0)))) μ True) := by
  refine Ct.of pn_RX11 (Nat.le_of_ble_eq_true rfl) ?_
  show J ω l mX11_letters (d + 1) 0 [(0, .int v0)] [] μ 0 0 _
  generalize h : fX11_letters v0 = res
  unfold fX11_letters at h
  refine J.iload_n (pc := 0) dX11_letters_0 rfl 0 rfl ?_
  rcases ifc h with ⟨hc, h⟩ | ⟨ns52, h⟩
  · refine J.tableIn (pc := 1) (off := 79) (tgt := 80) dX11_letters_1 (by rw [hc]; decide) (by rw [hc]; decide) (by rw [hc]; decide) (by decide) ?_
    refine J.bipush (pc := 80) dX11_letters_80 ib_112 ?_
    refine J.bipush (pc := 82) dX11_letters_82 ib_97 ?_
    refine J.bipush (pc := 84) dX11_letters_84 ib_99 ?_
    refine J.bipush (pc := 86) dX11_letters_86 ib_101 ?_
    refine J.iconst (pc := 88) dX11_letters_88 ic_0 ?_
    refine J.iconst (pc := 89) dX11_letters_89 ic_0 ?_
    refine J.callS (Y := mX11_letters) (Z := mX11_spelled) (pc := 90) (st := []) (k2 := 0) (n2 := 0) dX11_letters_90 ml_RX11_147 mo_X11_spelled ms_X11_spelled rfl (tX11_spelled d (112 : Int32) (97 : Int32) (99 : Int32) (101 : Int32) (0 : Int32) (0 : Int32) μ hN ) rfl rfl (Nat.le_of_ble_eq_true rfl) (by decide) (by decide) (fun v ν hp => ?_) (fun i ν hp => nrm hp.1)
    obtain ⟨rfl, rfl, hN2, hb3⟩ := QEl hp
    show J _ _ _ _ 93 _ ([.long (fX11_spelled (112 : Int32) (97 : Int32) (99 : Int32) (101 : Int32) (0 : Int32) (0 : Int32))]) _ _ _ _
    cases h
    exact J.lret (pc := 93) dX11_letters_93 rfl ⟨rfl, rfl, hN2, trivial⟩
  rcases ifc h with ⟨hc, h⟩ | ⟨ns53, h⟩
  · refine J.tableIn (pc := 1) (off := 93) (tgt := 94) dX11_letters_1 (by rw [hc]; decide) (by rw [hc]; decide) (by rw [hc]; decide) (by decide) ?_
    refine J.bipush (pc := 94) dX11_letters_94 ib_115 ?_
    refine J.bipush (pc := 96) dX11_letters_96 ib_116 ?_
    refine J.bipush (pc := 98) dX11_letters_98 ib_101 ?_
    refine J.bipush (pc := 100) dX11_letters_100 ib_112 ?_
    refine J.bipush (pc := 102) dX11_letters_102 ib_115 ?_
    refine J.iconst (pc := 104) dX11_letters_104 ic_0 ?_
    refine J.callS (Y := mX11_letters) (Z := mX11_spelled) (pc := 105) (st := []) (k2 := 0) (n2 := 0) dX11_letters_105 ml_RX11_147 mo_X11_spelled ms_X11_spelled rfl (tX11_spelled d (115 : Int32) (116 : Int32) (101 : Int32) (112 : Int32) (115 : Int32) (0 : Int32) μ hN ) rfl rfl (Nat.le_of_ble_eq_true rfl) (by decide) (by decide) (fun v ν hp => ?_) (fun i ν hp => nrm hp.1)
    obtain ⟨rfl, rfl, hN5, hb6⟩ := QEl hp
    show J _ _ _ _ 108 _ ([.long (fX11_spelled (115 : Int32) (116 : Int32) (101 : Int32) (112 : Int32) (115 : Int32) (0 : Int32))]) _ _ _ _
    cases h
    exact J.lret (pc := 108) dX11_letters_108 rfl ⟨rfl, rfl, hN5, trivial⟩
  rcases ifc h with ⟨hc, h⟩ | ⟨ns54, h⟩
  · refine J.tableIn (pc := 1) (off := 108) (tgt := 109) dX11_letters_1 (by rw [hc]; decide) (by rw [hc]; decide) (by rw [hc]; decide) (by decide) ?_
    refine J.bipush (pc := 109) dX11_letters_109 ib_102 ?_
    refine J.bipush (pc := 111) dX11_letters_111 ib_97 ?_
    refine J.bipush (pc := 113) dX11_letters_113 ib_114 ?_
    refine J.iconst (pc := 115) dX11_letters_115 ic_0 ?_
    refine J.iconst (pc := 116) dX11_letters_116 ic_0 ?_
    refine J.iconst (pc := 117) dX11_letters_117 ic_0 ?_
    refine J.callS (Y := mX11_letters) (Z := mX11_spelled) (pc := 118) (st := []) (k2 := 0) (n2 := 0) dX11_letters_118 ml_RX11_147 mo_X11_spelled ms_X11_spelled rfl (tX11_spelled d (102 : Int32) (97 : Int32) (114 : Int32) (0 : Int32) (0 : Int32) (0 : Int32) μ hN ) rfl rfl (Nat.le_of_ble_eq_true rfl) (by decide) (by decide) (fun v ν hp => ?_) (fun i ν hp => nrm hp.1)
    obtain ⟨rfl, rfl, hN8, hb9⟩ := QEl hp
    show J _ _ _ _ 121 _ ([.long (fX11_spelled (102 : Int32) (97 : Int32) (114 : Int32) (0 : Int32) (0 : Int32) (0 : Int32))]) _ _ _ _
    cases h
    exact J.lret (pc := 121) dX11_letters_121 rfl ⟨rfl, rfl, hN8, trivial⟩
  rcases ifc h with ⟨hc, h⟩ | ⟨ns55, h⟩
  · refine J.tableIn (pc := 1) (off := 121) (tgt := 122) dX11_letters_1 (by rw [hc]; decide) (by rw [hc]; decide) (by rw [hc]; decide) (by decide) ?_
    refine J.bipush (pc := 122) dX11_letters_122 ib_109 ?_
    refine J.bipush (pc := 124) dX11_letters_124 ib_101 ?_
    refine J.bipush (pc := 126) dX11_letters_126 ib_116 ?_
    refine J.iconst (pc := 128) dX11_letters_128 ic_0 ?_
    refine J.iconst (pc := 129) dX11_letters_129 ic_0 ?_
    refine J.iconst (pc := 130) dX11_letters_130 ic_0 ?_
    refine J.callS (Y := mX11_letters) (Z := mX11_spelled) (pc := 131) (st := []) (k2 := 0) (n2 := 0) dX11_letters_131 ml_RX11_147 mo_X11_spelled ms_X11_spelled rfl (tX11_spelled d (109 : Int32) (101 : Int32) (116 : Int32) (0 : Int32) (0 : Int32) (0 : Int32) μ hN ) rfl rfl (Nat.le_of_ble_eq_true rfl) (by decide) (by decide) (fun v ν hp => ?_) (fun i ν hp => nrm hp.1)
    obtain ⟨rfl, rfl, hN11, hb12⟩ := QEl hp
    show J _ _ _ _ 134 _ ([.long (fX11_spelled (109 : Int32) (101 : Int32) (116 : Int32) (0 : Int32) (0 : Int32) (0 : Int32))]) _ _ _ _
    cases h
    exact J.lret (pc := 134) dX11_letters_134 rfl ⟨rfl, rfl, hN11, trivial⟩
  rcases ifc h with ⟨hc, h⟩ | ⟨ns56, h⟩
  · refine J.tableIn (pc := 1) (off := 134) (tgt := 135) dX11_letters_1 (by rw [hc]; decide) (by rw [hc]; decide) (by rw [hc]; decide) (by decide) ?_
    refine J.bipush (pc := 135) dX11_letters_135 ib_119 ?_
    refine J.bipush (pc := 137) dX11_letters_137 ib_105 ?_
    refine J.bipush (pc := 139) dX11_letters_139 ib_116 ?_
    refine J.bipush (pc := 141) dX11_letters_141 ib_104 ?_
    refine J.iconst (pc := 143) dX11_letters_143 ic_0 ?_
    refine J.iconst (pc := 144) dX11_letters_144 ic_0 ?_
    refine J.callS (Y := mX11_letters) (Z := mX11_spelled) (pc := 145) (st := []) (k2 := 0) (n2 := 0) dX11_letters_145 ml_RX11_147 mo_X11_spelled ms_X11_spelled rfl (tX11_spelled d (119 : Int32) (105 : Int32) (116 : Int32) (104 : Int32) (0 : Int32) (0 : Int32) μ hN ) rfl rfl (Nat.le_of_ble_eq_true rfl) (by decide) (by decide) (fun v ν hp => ?_) (fun i ν hp => nrm hp.1)
    obtain ⟨rfl, rfl, hN14, hb15⟩ := QEl hp
    show J _ _ _ _ 148 _ ([.long (fX11_spelled (119 : Int32) (105 : Int32) (116 : Int32) (104 : Int32) (0 : Int32) (0 : Int32))]) _ _ _ _
    cases h
    exact J.lret (pc := 148) dX11_letters_148 rfl ⟨rfl, rfl, hN14, trivial⟩
  rcases ifc h with ⟨hc, h⟩ | ⟨ns57, h⟩
  · refine J.tableIn (pc := 1) (off := 148) (tgt := 149) dX11_letters_1 (by rw [hc]; decide) (by rw [hc]; decide) (by rw [hc]; decide) (by decide) ?_
    refine J.bipush (pc := 149) dX11_letters_149 ib_100 ?_
    refine J.bipush (pc := 151) dX11_letters_151 ib_97 ?_
    refine J.bipush (pc := 153) dX11_letters_153 ib_121 ?_
    refine J.iconst (pc := 155) dX11_letters_155 ic_0 ?_
    refine J.iconst (pc := 156) dX11_letters_156 ic_0 ?_
    refine J.iconst (pc := 157) dX11_letters_157 ic_0 ?_
    refine J.callS (Y := mX11_letters) (Z := mX11_spelled) (pc := 158) (st := []) (k2 := 0) (n2 := 0) dX11_letters_158 ml_RX11_147 mo_X11_spelled ms_X11_spelled rfl (tX11_spelled d (100 : Int32) (97 : Int32) (121 : Int32) (0 : Int32) (0 : Int32) (0 : Int32) μ hN ) rfl rfl (Nat.le_of_ble_eq_true rfl) (by decide) (by decide) (fun v ν hp => ?_) (fun i ν hp => nrm hp.1)
    obtain ⟨rfl, rfl, hN17, hb18⟩ := QEl hp
    show J _ _ _ _ 161 _ ([.long (fX11_spelled (100 : Int32) (97 : Int32) (121 : Int32) (0 : Int32) (0 : Int32) (0 : Int32))]) _ _ _ _
    cases h
    exact J.lret (pc := 161) dX11_letters_161 rfl ⟨rfl, rfl, hN17, trivial⟩
  rcases ifc h with ⟨hc, h⟩ | ⟨ns58, h⟩
  · refine J.tableIn (pc := 1) (off := 161) (tgt := 162) dX11_letters_1 (by rw [hc]; decide) (by rw [hc]; decide) (by rw [hc]; decide) (by decide) ?_
    refine J.bipush (pc := 162) dX11_letters_162 ib_105 ?_
    refine J.bipush (pc := 164) dX11_letters_164 ib_110 ?_
    refine J.bipush (pc := 166) dX11_letters_166 ib_107 ?_
    refine J.iconst (pc := 168) dX11_letters_168 ic_0 ?_
    refine J.iconst (pc := 169) dX11_letters_169 ic_0 ?_
    refine J.iconst (pc := 170) dX11_letters_170 ic_0 ?_
    refine J.callS (Y := mX11_letters) (Z := mX11_spelled) (pc := 171) (st := []) (k2 := 0) (n2 := 0) dX11_letters_171 ml_RX11_147 mo_X11_spelled ms_X11_spelled rfl (tX11_spelled d (105 : Int32) (110 : Int32) (107 : Int32) (0 : Int32) (0 : Int32) (0 : Int32) μ hN ) rfl rfl (Nat.le_of_ble_eq_true rfl) (by decide) (by decide) (fun v ν hp => ?_) (fun i ν hp => nrm hp.1)
    obtain ⟨rfl, rfl, hN20, hb21⟩ := QEl hp
    show J _ _ _ _ 174 _ ([.long (fX11_spelled (105 : Int32) (110 : Int32) (107 : Int32) (0 : Int32) (0 : Int32) (0 : Int32))]) _ _ _ _
    cases h
    exact J.lret (pc := 174) dX11_letters_174 rfl ⟨rfl, rfl, hN20, trivial⟩
  rcases ifc h with ⟨hc, h⟩ | ⟨ns59, h⟩
  · refine J.tableIn (pc := 1) (off := 174) (tgt := 175) dX11_letters_1 (by rw [hc]; decide) (by rw [hc]; decide) (by rw [hc]; decide) (by decide) ?_
    refine J.bipush (pc := 175) dX11_letters_175 ib_112 ?_
    refine J.bipush (pc := 177) dX11_letters_177 ib_108 ?_
    refine J.bipush (pc := 179) dX11_letters_179 ib_97 ?_
    refine J.bipush (pc := 181) dX11_letters_181 ib_99 ?_
    refine J.bipush (pc := 183) dX11_letters_183 ib_101 ?_
    refine J.iconst (pc := 185) dX11_letters_185 ic_0 ?_
    refine J.callS (Y := mX11_letters) (Z := mX11_spelled) (pc := 186) (st := []) (k2 := 0) (n2 := 0) dX11_letters_186 ml_RX11_147 mo_X11_spelled ms_X11_spelled rfl (tX11_spelled d (112 : Int32) (108 : Int32) (97 : Int32) (99 : Int32) (101 : Int32) (0 : Int32) μ hN ) rfl rfl (Nat.le_of_ble_eq_true rfl) (by decide) (by decide) (fun v ν hp => ?_) (fun i ν hp => nrm hp.1)
    obtain ⟨rfl, rfl, hN23, hb24⟩ := QEl hp
    show J _ _ _ _ 189 _ ([.long (fX11_spelled (112 : Int32) (108 : Int32) (97 : Int32) (99 : Int32) (101 : Int32) (0 : Int32))]) _ _ _ _
    cases h
    exact J.lret (pc := 189) dX11_letters_189 rfl ⟨rfl, rfl, hN23, trivial⟩
  rcases ifc h with ⟨hc, h⟩ | ⟨ns60, h⟩
  · refine J.tableIn (pc := 1) (off := 189) (tgt := 190) dX11_letters_1 (by rw [hc]; decide) (by rw [hc]; decide) (by rw [hc]; decide) (by decide) ?_
    refine J.bipush (pc := 190) dX11_letters_190 ib_100 ?_
    refine J.bipush (pc := 192) dX11_letters_192 ib_101 ?_
    refine J.bipush (pc := 194) dX11_letters_194 ib_101 ?_
    refine J.bipush (pc := 196) dX11_letters_196 ib_100 ?_
    refine J.iconst (pc := 198) dX11_letters_198 ic_0 ?_
    refine J.iconst (pc := 199) dX11_letters_199 ic_0 ?_
    refine J.callS (Y := mX11_letters) (Z := mX11_spelled) (pc := 200) (st := []) (k2 := 0) (n2 := 0) dX11_letters_200 ml_RX11_147 mo_X11_spelled ms_X11_spelled rfl (tX11_spelled d (100 : Int32) (101 : Int32) (101 : Int32) (100 : Int32) (0 : Int32) (0 : Int32) μ hN ) rfl rfl (Nat.le_of_ble_eq_true rfl) (by decide) (by decide) (fun v ν hp => ?_) (fun i ν hp => nrm hp.1)
    obtain ⟨rfl, rfl, hN26, hb27⟩ := QEl hp
    show J _ _ _ _ 203 _ ([.long (fX11_spelled (100 : Int32) (101 : Int32) (101 : Int32) (100 : Int32) (0 : Int32) (0 : Int32))]) _ _ _ _
    cases h
    exact J.lret (pc := 203) dX11_letters_203 rfl ⟨rfl, rfl, hN26, trivial⟩
  rcases ifc h with ⟨hc, h⟩ | ⟨ns61, h⟩
  · refine J.tableIn (pc := 1) (off := 203) (tgt := 204) dX11_letters_1 (by rw [hc]; decide) (by rw [hc]; decide) (by rw [hc]; decide) (by decide) ?_
    refine J.bipush (pc := 204) dX11_letters_204 ib_115 ?_
    refine J.bipush (pc := 206) dX11_letters_206 ib_116 ?_
    refine J.bipush (pc := 208) dX11_letters_208 ib_105 ?_
    refine J.bipush (pc := 210) dX11_letters_210 ib_108 ?_
    refine J.bipush (pc := 212) dX11_letters_212 ib_101 ?_
    refine J.iconst (pc := 214) dX11_letters_214 ic_0 ?_
    refine J.callS (Y := mX11_letters) (Z := mX11_spelled) (pc := 215) (st := []) (k2 := 0) (n2 := 0) dX11_letters_215 ml_RX11_147 mo_X11_spelled ms_X11_spelled rfl (tX11_spelled d (115 : Int32) (116 : Int32) (105 : Int32) (108 : Int32) (101 : Int32) (0 : Int32) μ hN ) rfl rfl (Nat.le_of_ble_eq_true rfl) (by decide) (by decide) (fun v ν hp => ?_) (fun i ν hp => nrm hp.1)
    obtain ⟨rfl, rfl, hN29, hb30⟩ := QEl hp
    show J _ _ _ _ 218 _ ([.long (fX11_spelled (115 : Int32) (116 : Int32) (105 : Int32) (108 : Int32) (101 : Int32) (0 : Int32))]) _ _ _ _
    cases h
    exact J.lret (pc := 218) dX11_letters_218 rfl ⟨rfl, rfl, hN29, trivial⟩
  rcases ifc h with ⟨hc, h⟩ | ⟨ns62, h⟩
  · refine J.tableIn (pc := 1) (off := 218) (tgt := 219) dX11_letters_1 (by rw [hc]; decide) (by rw [hc]; decide) (by rw [hc]; decide) (by decide) ?_
    refine J.bipush (pc := 219) dX11_letters_219 ib_112 ?_
    refine J.bipush (pc := 221) dX11_letters_221 ib_101 ?_
    refine J.bipush (pc := 223) dX11_letters_223 ib_114 ?_
    refine J.bipush (pc := 225) dX11_letters_225 ib_115 ?_
    refine J.bipush (pc := 227) dX11_letters_227 ib_111 ?_
    refine J.bipush (pc := 229) dX11_letters_229 ib_110 ?_
    refine J.callS (Y := mX11_letters) (Z := mX11_spelled) (pc := 231) (st := []) (k2 := 0) (n2 := 0) dX11_letters_231 ml_RX11_147 mo_X11_spelled ms_X11_spelled rfl (tX11_spelled d (112 : Int32) (101 : Int32) (114 : Int32) (115 : Int32) (111 : Int32) (110 : Int32) μ hN ) rfl rfl (Nat.le_of_ble_eq_true rfl) (by decide) (by decide) (fun v ν hp => ?_) (fun i ν hp => nrm hp.1)
    obtain ⟨rfl, rfl, hN32, hb33⟩ := QEl hp
    show J _ _ _ _ 234 _ ([.long (fX11_spelled (112 : Int32) (101 : Int32) (114 : Int32) (115 : Int32) (111 : Int32) (110 : Int32))]) _ _ _ _
    cases h
    exact J.lret (pc := 234) dX11_letters_234 rfl ⟨rfl, rfl, hN32, trivial⟩
  rcases ifc h with ⟨hc, h⟩ | ⟨ns63, h⟩
  · refine J.tableIn (pc := 1) (off := 234) (tgt := 235) dX11_letters_1 (by rw [hc]; decide) (by rw [hc]; decide) (by rw [hc]; decide) (by decide) ?_
    refine J.bipush (pc := 235) dX11_letters_235 ib_116 ?_
    refine J.bipush (pc := 237) dX11_letters_237 ib_111 ?_
    refine J.iconst (pc := 239) dX11_letters_239 ic_0 ?_
    refine J.iconst (pc := 240) dX11_letters_240 ic_0 ?_
    refine J.iconst (pc := 241) dX11_letters_241 ic_0 ?_
    refine J.iconst (pc := 242) dX11_letters_242 ic_0 ?_
    refine J.callS (Y := mX11_letters) (Z := mX11_spelled) (pc := 243) (st := []) (k2 := 0) (n2 := 0) dX11_letters_243 ml_RX11_147 mo_X11_spelled ms_X11_spelled rfl (tX11_spelled d (116 : Int32) (111 : Int32) (0 : Int32) (0 : Int32) (0 : Int32) (0 : Int32) μ hN ) rfl rfl (Nat.le_of_ble_eq_true rfl) (by decide) (by decide) (fun v ν hp => ?_) (fun i ν hp => nrm hp.1)
    obtain ⟨rfl, rfl, hN35, hb36⟩ := QEl hp
    show J _ _ _ _ 246 _ ([.long (fX11_spelled (116 : Int32) (111 : Int32) (0 : Int32) (0 : Int32) (0 : Int32) (0 : Int32))]) _ _ _ _
    cases h
    exact J.lret (pc := 246) dX11_letters_246 rfl ⟨rfl, rfl, hN35, trivial⟩
  rcases ifc h with ⟨hc, h⟩ | ⟨ns64, h⟩
  · refine J.tableIn (pc := 1) (off := 246) (tgt := 247) dX11_letters_1 (by rw [hc]; decide) (by rw [hc]; decide) (by rw [hc]; decide) (by decide) ?_
    refine J.bipush (pc := 247) dX11_letters_247 ib_103 ?_
    refine J.bipush (pc := 249) dX11_letters_249 ib_111 ?_
    refine J.bipush (pc := 251) dX11_letters_251 ib_101 ?_
    refine J.bipush (pc := 253) dX11_letters_253 ib_115 ?_
    refine J.iconst (pc := 255) dX11_letters_255 ic_0 ?_
    refine J.iconst (pc := 256) dX11_letters_256 ic_0 ?_
    refine J.callS (Y := mX11_letters) (Z := mX11_spelled) (pc := 257) (st := []) (k2 := 0) (n2 := 0) dX11_letters_257 ml_RX11_147 mo_X11_spelled ms_X11_spelled rfl (tX11_spelled d (103 : Int32) (111 : Int32) (101 : Int32) (115 : Int32) (0 : Int32) (0 : Int32) μ hN ) rfl rfl (Nat.le_of_ble_eq_true rfl) (by decide) (by decide) (fun v ν hp => ?_) (fun i ν hp => nrm hp.1)
    obtain ⟨rfl, rfl, hN38, hb39⟩ := QEl hp
    show J _ _ _ _ 260 _ ([.long (fX11_spelled (103 : Int32) (111 : Int32) (101 : Int32) (115 : Int32) (0 : Int32) (0 : Int32))]) _ _ _ _
    cases h
    exact J.lret (pc := 260) dX11_letters_260 rfl ⟨rfl, rfl, hN38, trivial⟩
  rcases ifc h with ⟨hc, h⟩ | ⟨ns65, h⟩
  · refine J.tableIn (pc := 1) (off := 260) (tgt := 261) dX11_letters_1 (by rw [hc]; decide) (by rw [hc]; decide) (by rw [hc]; decide) (by decide) ?_
    refine J.bipush (pc := 261) dX11_letters_261 ib_102 ?_
    refine J.bipush (pc := 263) dX11_letters_263 ib_97 ?_
    refine J.bipush (pc := 265) dX11_letters_265 ib_100 ?_
    refine J.bipush (pc := 267) dX11_letters_267 ib_101 ?_
    refine J.bipush (pc := 269) dX11_letters_269 ib_115 ?_
    refine J.iconst (pc := 271) dX11_letters_271 ic_0 ?_
    refine J.callS (Y := mX11_letters) (Z := mX11_spelled) (pc := 272) (st := []) (k2 := 0) (n2 := 0) dX11_letters_272 ml_RX11_147 mo_X11_spelled ms_X11_spelled rfl (tX11_spelled d (102 : Int32) (97 : Int32) (100 : Int32) (101 : Int32) (115 : Int32) (0 : Int32) μ hN ) rfl rfl (Nat.le_of_ble_eq_true rfl) (by decide) (by decide) (fun v ν hp => ?_) (fun i ν hp => nrm hp.1)
    obtain ⟨rfl, rfl, hN41, hb42⟩ := QEl hp
    show J _ _ _ _ 275 _ ([.long (fX11_spelled (102 : Int32) (97 : Int32) (100 : Int32) (101 : Int32) (115 : Int32) (0 : Int32))]) _ _ _ _
    cases h
    exact J.lret (pc := 275) dX11_letters_275 rfl ⟨rfl, rfl, hN41, trivial⟩
  rcases ifc h with ⟨hc, h⟩ | ⟨ns66, h⟩
  · refine J.tableIn (pc := 1) (off := 275) (tgt := 276) dX11_letters_1 (by rw [hc]; decide) (by rw [hc]; decide) (by rw [hc]; decide) (by decide) ?_
    refine J.bipush (pc := 276) dX11_letters_276 ib_97 ?_
    refine J.bipush (pc := 278) dX11_letters_278 ib_110 ?_
    refine J.bipush (pc := 280) dX11_letters_280 ib_100 ?_
    refine J.iconst (pc := 282) dX11_letters_282 ic_0 ?_
    refine J.iconst (pc := 283) dX11_letters_283 ic_0 ?_
    refine J.iconst (pc := 284) dX11_letters_284 ic_0 ?_
    refine J.callS (Y := mX11_letters) (Z := mX11_spelled) (pc := 285) (st := []) (k2 := 0) (n2 := 0) dX11_letters_285 ml_RX11_147 mo_X11_spelled ms_X11_spelled rfl (tX11_spelled d (97 : Int32) (110 : Int32) (100 : Int32) (0 : Int32) (0 : Int32) (0 : Int32) μ hN ) rfl rfl (Nat.le_of_ble_eq_true rfl) (by decide) (by decide) (fun v ν hp => ?_) (fun i ν hp => nrm hp.1)
    obtain ⟨rfl, rfl, hN44, hb45⟩ := QEl hp
    show J _ _ _ _ 288 _ ([.long (fX11_spelled (97 : Int32) (110 : Int32) (100 : Int32) (0 : Int32) (0 : Int32) (0 : Int32))]) _ _ _ _
    cases h
    exact J.lret (pc := 288) dX11_letters_288 rfl ⟨rfl, rfl, hN44, trivial⟩
  rcases ifc h with ⟨hc, h⟩ | ⟨ns67, h⟩
  · refine J.tableIn (pc := 1) (off := 288) (tgt := 289) dX11_letters_1 (by rw [hc]; decide) (by rw [hc]; decide) (by rw [hc]; decide) (by decide) ?_
    refine J.bipush (pc := 289) dX11_letters_289 ib_111 ?_
    refine J.bipush (pc := 291) dX11_letters_291 ib_114 ?_
    refine J.iconst (pc := 293) dX11_letters_293 ic_0 ?_
    refine J.iconst (pc := 294) dX11_letters_294 ic_0 ?_
    refine J.iconst (pc := 295) dX11_letters_295 ic_0 ?_
    refine J.iconst (pc := 296) dX11_letters_296 ic_0 ?_
    refine J.callS (Y := mX11_letters) (Z := mX11_spelled) (pc := 297) (st := []) (k2 := 0) (n2 := 0) dX11_letters_297 ml_RX11_147 mo_X11_spelled ms_X11_spelled rfl (tX11_spelled d (111 : Int32) (114 : Int32) (0 : Int32) (0 : Int32) (0 : Int32) (0 : Int32) μ hN ) rfl rfl (Nat.le_of_ble_eq_true rfl) (by decide) (by decide) (fun v ν hp => ?_) (fun i ν hp => nrm hp.1)
    obtain ⟨rfl, rfl, hN47, hb48⟩ := QEl hp
    show J _ _ _ _ 300 _ ([.long (fX11_spelled (111 : Int32) (114 : Int32) (0 : Int32) (0 : Int32) (0 : Int32) (0 : Int32))]) _ _ _ _
    cases h
    exact J.lret (pc := 300) dX11_letters_300 rfl ⟨rfl, rfl, hN47, trivial⟩
  refine J.tableOut (pc := 1) (tgt := 301) dX11_letters_1 (sw_out (vs := [(0 : Int32), (1 : Int32), (2 : Int32), (3 : Int32), (4 : Int32), (5 : Int32), (6 : Int32), (7 : Int32), (8 : Int32), (9 : Int32), (10 : Int32), (11 : Int32), (12 : Int32), (13 : Int32), (14 : Int32), (15 : Int32)]) (List.forall_mem_cons.mpr ⟨ns52, (List.forall_mem_cons.mpr ⟨ns53, (List.forall_mem_cons.mpr ⟨ns54, (List.forall_mem_cons.mpr ⟨ns55, (List.forall_mem_cons.mpr ⟨ns56, (List.forall_mem_cons.mpr ⟨ns57, (List.forall_mem_cons.mpr ⟨ns58, (List.forall_mem_cons.mpr ⟨ns59, (List.forall_mem_cons.mpr ⟨ns60, (List.forall_mem_cons.mpr ⟨ns61, (List.forall_mem_cons.mpr ⟨ns62, (List.forall_mem_cons.mpr ⟨ns63, (List.forall_mem_cons.mpr ⟨ns64, (List.forall_mem_cons.mpr ⟨ns65, (List.forall_mem_cons.mpr ⟨ns66, (List.forall_mem_cons.mpr ⟨ns67, (fun _ q => nomatch q)⟩)⟩)⟩)⟩)⟩)⟩)⟩)⟩)⟩)⟩)⟩)⟩)⟩)⟩)⟩)⟩) (sw_hv (by decide))) (by decide) ?_
  refine J.bipush (pc := 301) dX11_letters_301 ib_110 ?_
  refine J.bipush (pc := 303) dX11_letters_303 ib_111 ?_
  refine J.bipush (pc := 305) dX11_letters_305 ib_116 ?_
  refine J.iconst (pc := 307) dX11_letters_307 ic_0 ?_
  refine J.iconst (pc := 308) dX11_letters_308 ic_0 ?_
  refine J.iconst (pc := 309) dX11_letters_309 ic_0 ?_
  refine J.callS (Y := mX11_letters) (Z := mX11_spelled) (pc := 310) (st := []) (k2 := 0) (n2 := 0) dX11_letters_310 ml_RX11_147 mo_X11_spelled ms_X11_spelled rfl (tX11_spelled d (110 : Int32) (111 : Int32) (116 : Int32) (0 : Int32) (0 : Int32) (0 : Int32) μ hN ) rfl rfl (Nat.le_of_ble_eq_true rfl) (by decide) (by decide) (fun v ν hp => ?_) (fun i ν hp => nrm hp.1)
  obtain ⟨rfl, rfl, hN50, hb51⟩ := QEl hp
  show J _ _ _ _ 313 _ ([.long (fX11_spelled (110 : Int32) (111 : Int32) (116 : Int32) (0 : Int32) (0 : Int32) (0 : Int32))]) _ _ _ _
  cases h
  exact J.lret (pc := 313) dX11_letters_313 rfl ⟨rfl, rfl, hN50, trivial⟩
def fX11_knownWord_21 (μ : Mem) : Nat → Nat → Int32 → Option (Int32)
  | 0, _, _ => none
  | n + 1, v0, v1 =>
    if v1 < (17 : Int32) then
      if (fX11_letters v1) = (μ.2.2.1 v0 19) then
        some v1
      else
        (fX11_knownWord_21 μ n) v0 (v1 + (1 : Int32))
    else
      some (-1 : Int32)
set_option maxHeartbeats 4000000 in
theorem tX11_knownWord_21 {ω : Wd} {l : Launch} (d : Nat) {μ : Mem} (hN : μ.1 = NN) {res : Int32} : ∀ n : Nat, ∀ (v0 : Nat) (v1 : Int32), fX11_knownWord_21 μ n v0 v1 = some res → (kd v0).1 = 21 → J ω l mX11_knownWord (d + 2) 21 [(0, .ref v0), (1, .int v1)] [] μ 0 0 (PE (.inl (some (.int res))) μ True) := by
  intro n
  induction n with
  | zero =>
    intro v0 v1 h k0
    have h9 : (none : Option (Int32)) = some res := h
    cases h9
  | succ n ih =>
    intro v0 v1 h k0
    unfold fX11_knownWord_21 at h
    refine J.iload_n (pc := 21) dX11_knownWord_21 rfl 1 rfl ?_
    refine J.bipush (pc := 22) dX11_knownWord_22 ib_17 ?_
    rcases ifc h with ⟨hc, h⟩ | ⟨hc, h⟩
    · refine J.cge (pc := 24) (tgt := 47) dX11_knownWord_24 (by decide) (fun _ => ?_) (fun q => absurd hc q)
      refine J.iload_n (pc := 27) dX11_knownWord_27 rfl 1 rfl ?_
      refine J.callS (Y := mX11_knownWord) (Z := mX11_letters) (pc := 28) (st := []) (k2 := 0) (n2 := 0) dX11_knownWord_28 ml_RX11_151 mo_X11_letters ms_X11_letters rfl (tX11_letters d v1 μ hN ) rfl rfl (Nat.le_of_ble_eq_true rfl) (by decide) (by decide) (fun v ν hp => ?_) (fun i ν hp => nrm hp.1)
      obtain ⟨rfl, rfl, hN2, hb3⟩ := QEl hp
      show J _ _ _ _ 31 _ ([.long (fX11_letters v1)]) _ _ _ _
      refine J.aload_n (pc := 31) dX11_knownWord_31 rfl 0 rfl ?_
      refine J.fL (pc := 32) dX11_knownWord_32 fl_RX11_122 k0 (okN hN2 k0 (by decide)) rfl ?_
      rcases ifc h with ⟨hc, h⟩ | ⟨hc, h⟩
      · refine J.mne (pc := 35) (tgt := 41) dX11_knownWord_35 dX11_knownWord_36 (by decide) (fun _ => ?_) (fun q => absurd hc q)
        refine J.iload_n (pc := 39) dX11_knownWord_39 rfl 1 rfl ?_
        cases h
        exact J.iret (pc := 40) dX11_knownWord_40 rfl ⟨rfl, rfl, hN2, trivial⟩
      · refine J.mne (pc := 35) (tgt := 41) dX11_knownWord_35 dX11_knownWord_36 (by decide) (fun q => absurd q hc) (fun _ => ?_)
        refine J.iinc (pc := 41) (j := 1) ([(1, .int (v1 + (1 : Int32))), (0, .ref v0)]) dX11_knownWord_41 rfl (iincv ic_1) (Nat.le_of_ble_eq_true rfl) rfl ?_
        refine J.goto (pc := 44) (tgt := 21) dX11_knownWord_44 (by decide) ?_
        refine J.pick [1, 0] rfl ?_
        exact ih v0 (v1 + (1 : Int32)) h k0
    · refine J.cge (pc := 24) (tgt := 47) dX11_knownWord_24 (by decide) (fun q => absurd q hc) (fun _ => ?_)
      refine J.iconst (pc := 47) dX11_knownWord_47 ic_m1 ?_
      cases h
      exact J.iret (pc := 48) dX11_knownWord_48 rfl ⟨rfl, rfl, hN, trivial⟩
def fX11_knownWord (v0 : Nat) (μ : Mem) : Option (Int32) :=
  if (μ.2.1 v0 14) = (1 : Int32) then
    if (6 : Int32) < (μ.2.1 v0 16) then
      some (-1 : Int32)
    else
      (fX11_knownWord_21 μ fuel) v0 (0 : Int32)
  else
    some (-1 : Int32)
set_option maxHeartbeats 4000000 in
theorem tX11_knownWord {ω : Wd} {l : Launch} (d : Nat) {v0 : Nat} {μ : Mem} {res : Int32} (h : fX11_knownWord v0 μ = some res) (hN : μ.1 = NN) (k0 : (kd v0).1 = 21) : Ct ω l mX11_knownWord (d + 2) [.ref v0] μ 0 0 (PE (.inl (some (.int res))) μ True) := by
  refine Ct.of pn_RX11 (Nat.le_of_ble_eq_true rfl) ?_
  show J ω l mX11_knownWord (d + 2) 0 [(0, .ref v0)] [] μ 0 0 _
  unfold fX11_knownWord at h
  refine J.aload_n (pc := 0) dX11_knownWord_0 rfl 0 rfl ?_
  refine J.fI (pc := 1) dX11_knownWord_1 fl_RX11_132 k0 (okN hN k0 (by decide)) (Or.inl rfl) ?_
  refine J.iconst (pc := 4) dX11_knownWord_4 ic_1 ?_
  rcases ifc h with ⟨hc, h⟩ | ⟨hc, h⟩
  · refine J.cne (pc := 5) (tgt := 17) dX11_knownWord_5 (by decide) (fun _ => ?_) (fun q => absurd hc q)
    refine J.aload_n (pc := 8) dX11_knownWord_8 rfl 0 rfl ?_
    refine J.fI (pc := 9) dX11_knownWord_9 fl_RX11_142 k0 (okN hN k0 (by decide)) (Or.inl rfl) ?_
    refine J.bipush (pc := 12) dX11_knownWord_12 ib_6 ?_
    rcases ifc h with ⟨hc, h⟩ | ⟨hc, h⟩
    · refine J.cle (pc := 14) (tgt := 19) dX11_knownWord_14 (by decide) (fun _ => ?_) (fun q => absurd hc q)
      refine J.iconst (pc := 17) dX11_knownWord_17 ic_m1 ?_
      cases h
      exact J.iret (pc := 18) dX11_knownWord_18 rfl ⟨rfl, rfl, hN, trivial⟩
    · refine J.cle (pc := 14) (tgt := 19) dX11_knownWord_14 (by decide) (fun q => absurd q hc) (fun _ => ?_)
      refine J.iconst (pc := 19) dX11_knownWord_19 ic_0 ?_
      refine J.istore_n (pc := 20) ([(1, .int (0 : Int32)), (0, .ref v0)]) dX11_knownWord_20 rfl (Nat.le_of_ble_eq_true rfl) rfl ?_
      refine J.pick [1, 0] rfl ?_
      exact (tX11_knownWord_21 d hN fuel) v0 (0 : Int32) h k0
  · refine J.cne (pc := 5) (tgt := 17) dX11_knownWord_5 (by decide) (fun q => absurd q hc) (fun _ => ?_)
    refine J.iconst (pc := 17) dX11_knownWord_17 ic_m1 ?_
    cases h
    exact J.iret (pc := 18) dX11_knownWord_18 rfl ⟨rfl, rfl, hN, trivial⟩
