def fX11_isGood (v0 : Nat) (μ : Mem) : Int32 :=
  if (μ.2.1 v0 9) = 0 then
    (1 : Int32)
  else
    (0 : Int32)
set_option maxHeartbeats 4000000 in
theorem tX11_isGood {ω : Wd} {l : Launch} (d : Nat) (v0 : Nat) (μ : Mem) (hN : μ.1 = NN) (k0 : (kd v0).1 = 21) : Ct ω l mX11_isGood d [.ref v0] μ 0 0 (PE (.inl (some (.int (fX11_isGood v0 μ)))) μ (isB (fX11_isGood v0 μ))) := by
  refine Ct.of pn_RX11 (Nat.le_of_ble_eq_true rfl) ?_
  show J ω l mX11_isGood d 0 [(0, .ref v0)] [] μ 0 0 _
  generalize h : fX11_isGood v0 μ = res
  unfold fX11_isGood at h
  refine J.aload_n (pc := 0) dX11_isGood_0 rfl 0 rfl ?_
  refine J.fI (pc := 1) dX11_isGood_1 fl_RX11_155 k0 (okN hN k0 (by decide)) (Or.inl rfl) ?_
  rcases ifc h with ⟨hc, h⟩ | ⟨hc, h⟩
  · refine J.zne (pc := 4) (tgt := 11) dX11_isGood_4 (by decide) (fun _ => ?_) (fun q => absurd hc q)
    refine J.iconst (pc := 7) dX11_isGood_7 ic_1 ?_
    refine J.goto (pc := 8) (tgt := 12) dX11_isGood_8 (by decide) ?_
    cases h
    exact J.zret (pc := 12) dX11_isGood_12 rfl (narB (Or.inr rfl)) ⟨rfl, rfl, hN, (Or.inr rfl)⟩
  · refine J.zne (pc := 4) (tgt := 11) dX11_isGood_4 (by decide) (fun q => absurd q hc) (fun _ => ?_)
    refine J.iconst (pc := 11) dX11_isGood_11 ic_0 ?_
    cases h
    exact J.zret (pc := 12) dX11_isGood_12 rfl (narB (Or.inl rfl)) ⟨rfl, rfl, hN, (Or.inl rfl)⟩
def fX11_wrong (v0 : Nat) (v1 : Int32) (μ : Mem) : Option (Mem) :=
  if (μ.2.1 v0 9) = 0 then
    (some (sI μ v0 9 v1)).bind fun μ1 =>
    (some (sI μ1 v0 10 (μ1.2.1 v0 15))).bind fun μ4 =>
    some μ4
  else
    some μ
set_option maxHeartbeats 4000000 in
theorem tX11_wrong {ω : Wd} {l : Launch} (d : Nat) {v0 : Nat} {v1 : Int32} {μ : Mem} {res : Mem} (h : fX11_wrong v0 v1 μ = some res) (hN : μ.1 = NN) (k0 : (kd v0).1 = 21) : Ct ω l mX11_wrong d [.ref v0, .int v1] μ 0 0 (PE (.inl none) res True) := by
  refine Ct.of pn_RX11 (Nat.le_of_ble_eq_true rfl) ?_
  show J ω l mX11_wrong d 0 [(0, .ref v0), (1, .int v1)] [] μ 0 0 _
  unfold fX11_wrong at h
  refine J.aload_n (pc := 0) dX11_wrong_0 rfl 0 rfl ?_
  refine J.fI (pc := 1) dX11_wrong_1 fl_RX11_155 k0 (okN hN k0 (by decide)) (Or.inl rfl) ?_
  rcases ifc h with ⟨hc, h⟩ | ⟨hc, h⟩
  · refine J.zeq (pc := 4) (tgt := 8) dX11_wrong_4 (by decide) (fun _ => ?_) (fun q => absurd hc q)
    refine J.aload_n (pc := 8) dX11_wrong_8 rfl 0 rfl ?_
    refine J.iload_n (pc := 9) dX11_wrong_9 rfl 1 rfl ?_
    obtain ⟨μ1, e2, h⟩ := bnd h
    have hN3 : μ1.1 = NN := smN e2 hN
    refine J.qI (pc := 10) dX11_wrong_10 fl_RX11_155 k0 (okN hN k0 (by decide)) rfl rfl e2 ?_
    refine J.aload_n (pc := 13) dX11_wrong_13 rfl 0 rfl ?_
    refine J.aload_n (pc := 14) dX11_wrong_14 rfl 0 rfl ?_
    refine J.fI (pc := 15) dX11_wrong_15 fl_RX11_119 k0 (okN hN3 k0 (by decide)) (Or.inl rfl) ?_
    obtain ⟨μ4, e5, h⟩ := bnd h
    have hN6 : μ4.1 = NN := smN e5 hN3
    refine J.qI (pc := 18) dX11_wrong_18 fl_RX11_26 k0 (okN hN3 k0 (by decide)) rfl rfl e5 ?_
    cases h
    exact J.vret (pc := 21) dX11_wrong_21 rfl ⟨rfl, rfl, hN6, trivial⟩
  · refine J.zeq (pc := 4) (tgt := 8) dX11_wrong_4 (by decide) (fun q => absurd q hc) (fun _ => ?_)
    cases h
    exact J.vret (pc := 7) dX11_wrong_7 rfl ⟨rfl, rfl, hN, trivial⟩
def fX11_begins (v0 : Nat) (v1 : Int32) (v2 : Int32) (μ : Mem) : Option (Int32 × Mem) :=
  if v1 = 0 then
    if v2 = 0 then
      if (fX11_isGood v0 μ) = 0 then
        some ((0 : Int32), μ)
      else
        (fX11_goes v0 μ).bind fun μ5 =>
        some ((1 : Int32), μ5)
    else
      (fX11_wrong v0 (5 : Int32) μ).bind fun μ9 =>
      if (fX11_isGood v0 μ9) = 0 then
        some ((0 : Int32), μ9)
      else
        (fX11_goes v0 μ9).bind fun μ16 =>
        some ((1 : Int32), μ16)
  else
    (fX11_wrong v0 (2 : Int32) μ).bind fun μ20 =>
    if v2 = 0 then
      if (fX11_isGood v0 μ20) = 0 then
        some ((0 : Int32), μ20)
      else
        (fX11_goes v0 μ20).bind fun μ27 =>
        some ((1 : Int32), μ27)
    else
      (fX11_wrong v0 (5 : Int32) μ20).bind fun μ31 =>
      if (fX11_isGood v0 μ31) = 0 then
        some ((0 : Int32), μ31)
      else
        (fX11_goes v0 μ31).bind fun μ38 =>
        some ((1 : Int32), μ38)
set_option maxHeartbeats 4000000 in
theorem tX11_begins {ω : Wd} {l : Launch} (d : Nat) {v0 : Nat} {v1 : Int32} {v2 : Int32} {μ : Mem} {res : Int32 × Mem} (h : fX11_begins v0 v1 v2 μ = some res) (hN : μ.1 = NN) (k0 : (kd v0).1 = 21) : Ct ω l mX11_begins (d + 2) [.ref v0, .int v1, .int v2] μ 0 0 (PE (.inl (some (.int res.1))) res.2 (isB res.1)) := by
  refine Ct.of pn_RX11 (Nat.le_of_ble_eq_true rfl) ?_
  show J ω l mX11_begins (d + 2) 0 [(0, .ref v0), (1, .int v1), (2, .int v2)] [] μ 0 0 _
  unfold fX11_begins at h
  refine J.iload_n (pc := 0) dX11_begins_0 rfl 1 rfl ?_
  rcases ifc h with ⟨hc, h⟩ | ⟨hc, h⟩
  · refine J.zeq (pc := 1) (tgt := 9) dX11_begins_1 (by decide) (fun _ => ?_) (fun q => absurd hc q)
    refine J.iload_n (pc := 9) dX11_begins_9 rfl 2 rfl ?_
    rcases ifc h with ⟨hc, h⟩ | ⟨hc, h⟩
    · refine J.zeq (pc := 10) (tgt := 18) dX11_begins_10 (by decide) (fun _ => ?_) (fun q => absurd hc q)
      refine J.aload_n (pc := 18) dX11_begins_18 rfl 0 rfl ?_
      refine J.callV (Y := mX11_begins) (Z := mX11_isGood) (pc := 19) (st := []) (k2 := 0) (n2 := 0) dX11_begins_19 ml_RX11_158 mo_X11_isGood mv_X11_isGood rfl (tX11_isGood (d + 1) v0 μ hN k0) k0 (okN hN k0 (by decide)).1 (okN hN k0 (by decide)).2 cq_11 (by decide) rfl rfl (Nat.le_of_ble_eq_true rfl) (by decide) (by decide) (fun v ν hp => ?_) (fun i ν hp => nrm hp.1)
      obtain ⟨rfl, rfl, hN2, hb3⟩ := QEl hp
      show J _ _ _ _ 22 _ ([.int (fX11_isGood v0 μ)]) _ _ _ _
      rcases ifc h with ⟨hc, h⟩ | ⟨hc, h⟩
      · refine J.zne (pc := 22) (tgt := 27) dX11_begins_22 (by decide) (fun _ => ?_) (fun q => absurd hc q)
        refine J.iconst (pc := 25) dX11_begins_25 ic_0 ?_
        cases h
        exact J.zret (pc := 26) dX11_begins_26 rfl (narB (Or.inl rfl)) ⟨rfl, rfl, hN2, (Or.inl rfl)⟩
      · refine J.zne (pc := 22) (tgt := 27) dX11_begins_22 (by decide) (fun q => absurd q hc) (fun _ => ?_)
        refine J.aload_n (pc := 27) dX11_begins_27 rfl 0 rfl ?_
        obtain ⟨μ5, e4, h⟩ := bnd h
        refine J.callV (Y := mX11_begins) (Z := mX11_goes) (pc := 28) (st := []) (k2 := 0) (n2 := 0) dX11_begins_28 ml_RX11_162 mo_X11_goes mv_X11_goes rfl (tX11_goes d e4 hN2 k0) k0 (okN hN2 k0 (by decide)).1 (okN hN2 k0 (by decide)).2 cq_11 (by decide) rfl rfl (Nat.le_of_ble_eq_true rfl) (by decide) (by decide) (fun v ν hp => ?_) (fun i ν hp => nrm hp.1)
        obtain ⟨rfl, rfl, hN6, hb7⟩ := QEl hp
        show J _ _ _ _ 31 _ ([]) _ _ _ _
        refine J.iconst (pc := 31) dX11_begins_31 ic_1 ?_
        cases h
        exact J.zret (pc := 32) dX11_begins_32 rfl (narB (Or.inr rfl)) ⟨rfl, rfl, hN6, (Or.inr rfl)⟩
    · refine J.zeq (pc := 10) (tgt := 18) dX11_begins_10 (by decide) (fun q => absurd q hc) (fun _ => ?_)
      refine J.aload_n (pc := 13) dX11_begins_13 rfl 0 rfl ?_
      refine J.iconst (pc := 14) dX11_begins_14 ic_5 ?_
      obtain ⟨μ9, e8, h⟩ := bnd h
      refine J.callV (Y := mX11_begins) (Z := mX11_wrong) (pc := 15) (st := []) (k2 := 0) (n2 := 0) dX11_begins_15 ml_RX11_165 mo_X11_wrong mv_X11_wrong rfl (tX11_wrong (d + 1) e8 hN k0) k0 (okN hN k0 (by decide)).1 (okN hN k0 (by decide)).2 cq_11 (by decide) rfl rfl (Nat.le_of_ble_eq_true rfl) (by decide) (by decide) (fun v ν hp => ?_) (fun i ν hp => nrm hp.1)
      obtain ⟨rfl, rfl, hN10, hb11⟩ := QEl hp
      show J _ _ _ _ 18 _ ([]) _ _ _ _
      refine J.aload_n (pc := 18) dX11_begins_18 rfl 0 rfl ?_
      refine J.callV (Y := mX11_begins) (Z := mX11_isGood) (pc := 19) (st := []) (k2 := 0) (n2 := 0) dX11_begins_19 ml_RX11_158 mo_X11_isGood mv_X11_isGood rfl (tX11_isGood (d + 1) v0 μ9 hN10 k0) k0 (okN hN10 k0 (by decide)).1 (okN hN10 k0 (by decide)).2 cq_11 (by decide) rfl rfl (Nat.le_of_ble_eq_true rfl) (by decide) (by decide) (fun v ν hp => ?_) (fun i ν hp => nrm hp.1)
      obtain ⟨rfl, rfl, hN13, hb14⟩ := QEl hp
      show J _ _ _ _ 22 _ ([.int (fX11_isGood v0 μ9)]) _ _ _ _
      rcases ifc h with ⟨hc, h⟩ | ⟨hc, h⟩
      · refine J.zne (pc := 22) (tgt := 27) dX11_begins_22 (by decide) (fun _ => ?_) (fun q => absurd hc q)
        refine J.iconst (pc := 25) dX11_begins_25 ic_0 ?_
        cases h
        exact J.zret (pc := 26) dX11_begins_26 rfl (narB (Or.inl rfl)) ⟨rfl, rfl, hN13, (Or.inl rfl)⟩
      · refine J.zne (pc := 22) (tgt := 27) dX11_begins_22 (by decide) (fun q => absurd q hc) (fun _ => ?_)
        refine J.aload_n (pc := 27) dX11_begins_27 rfl 0 rfl ?_
        obtain ⟨μ16, e15, h⟩ := bnd h
        refine J.callV (Y := mX11_begins) (Z := mX11_goes) (pc := 28) (st := []) (k2 := 0) (n2 := 0) dX11_begins_28 ml_RX11_162 mo_X11_goes mv_X11_goes rfl (tX11_goes d e15 hN13 k0) k0 (okN hN13 k0 (by decide)).1 (okN hN13 k0 (by decide)).2 cq_11 (by decide) rfl rfl (Nat.le_of_ble_eq_true rfl) (by decide) (by decide) (fun v ν hp => ?_) (fun i ν hp => nrm hp.1)
        obtain ⟨rfl, rfl, hN17, hb18⟩ := QEl hp
        show J _ _ _ _ 31 _ ([]) _ _ _ _
        refine J.iconst (pc := 31) dX11_begins_31 ic_1 ?_
        cases h
        exact J.zret (pc := 32) dX11_begins_32 rfl (narB (Or.inr rfl)) ⟨rfl, rfl, hN17, (Or.inr rfl)⟩
  · refine J.zeq (pc := 1) (tgt := 9) dX11_begins_1 (by decide) (fun q => absurd q hc) (fun _ => ?_)
    refine J.aload_n (pc := 4) dX11_begins_4 rfl 0 rfl ?_
    refine J.iconst (pc := 5) dX11_begins_5 ic_2 ?_
    obtain ⟨μ20, e19, h⟩ := bnd h
    refine J.callV (Y := mX11_begins) (Z := mX11_wrong) (pc := 6) (st := []) (k2 := 0) (n2 := 0) dX11_begins_6 ml_RX11_165 mo_X11_wrong mv_X11_wrong rfl (tX11_wrong (d + 1) e19 hN k0) k0 (okN hN k0 (by decide)).1 (okN hN k0 (by decide)).2 cq_11 (by decide) rfl rfl (Nat.le_of_ble_eq_true rfl) (by decide) (by decide) (fun v ν hp => ?_) (fun i ν hp => nrm hp.1)
    obtain ⟨rfl, rfl, hN21, hb22⟩ := QEl hp
    show J _ _ _ _ 9 _ ([]) _ _ _ _
    refine J.iload_n (pc := 9) dX11_begins_9 rfl 2 rfl ?_
    rcases ifc h with ⟨hc, h⟩ | ⟨hc, h⟩
    · refine J.zeq (pc := 10) (tgt := 18) dX11_begins_10 (by decide) (fun _ => ?_) (fun q => absurd hc q)
      refine J.aload_n (pc := 18) dX11_begins_18 rfl 0 rfl ?_
      refine J.callV (Y := mX11_begins) (Z := mX11_isGood) (pc := 19) (st := []) (k2 := 0) (n2 := 0) dX11_begins_19 ml_RX11_158 mo_X11_isGood mv_X11_isGood rfl (tX11_isGood (d + 1) v0 μ20 hN21 k0) k0 (okN hN21 k0 (by decide)).1 (okN hN21 k0 (by decide)).2 cq_11 (by decide) rfl rfl (Nat.le_of_ble_eq_true rfl) (by decide) (by decide) (fun v ν hp => ?_) (fun i ν hp => nrm hp.1)
      obtain ⟨rfl, rfl, hN24, hb25⟩ := QEl hp
      show J _ _ _ _ 22 _ ([.int (fX11_isGood v0 μ20)]) _ _ _ _
      rcases ifc h with ⟨hc, h⟩ | ⟨hc, h⟩
      · refine J.zne (pc := 22) (tgt := 27) dX11_begins_22 (by decide) (fun _ => ?_) (fun q => absurd hc q)
        refine J.iconst (pc := 25) dX11_begins_25 ic_0 ?_
        cases h
        exact J.zret (pc := 26) dX11_begins_26 rfl (narB (Or.inl rfl)) ⟨rfl, rfl, hN24, (Or.inl rfl)⟩
      · refine J.zne (pc := 22) (tgt := 27) dX11_begins_22 (by decide) (fun q => absurd q hc) (fun _ => ?_)
        refine J.aload_n (pc := 27) dX11_begins_27 rfl 0 rfl ?_
        obtain ⟨μ27, e26, h⟩ := bnd h
        refine J.callV (Y := mX11_begins) (Z := mX11_goes) (pc := 28) (st := []) (k2 := 0) (n2 := 0) dX11_begins_28 ml_RX11_162 mo_X11_goes mv_X11_goes rfl (tX11_goes d e26 hN24 k0) k0 (okN hN24 k0 (by decide)).1 (okN hN24 k0 (by decide)).2 cq_11 (by decide) rfl rfl (Nat.le_of_ble_eq_true rfl) (by decide) (by decide) (fun v ν hp => ?_) (fun i ν hp => nrm hp.1)
        obtain ⟨rfl, rfl, hN28, hb29⟩ := QEl hp
        show J _ _ _ _ 31 _ ([]) _ _ _ _
        refine J.iconst (pc := 31) dX11_begins_31 ic_1 ?_
        cases h
        exact J.zret (pc := 32) dX11_begins_32 rfl (narB (Or.inr rfl)) ⟨rfl, rfl, hN28, (Or.inr rfl)⟩
    · refine J.zeq (pc := 10) (tgt := 18) dX11_begins_10 (by decide) (fun q => absurd q hc) (fun _ => ?_)
      refine J.aload_n (pc := 13) dX11_begins_13 rfl 0 rfl ?_
      refine J.iconst (pc := 14) dX11_begins_14 ic_5 ?_
      obtain ⟨μ31, e30, h⟩ := bnd h
      refine J.callV (Y := mX11_begins) (Z := mX11_wrong) (pc := 15) (st := []) (k2 := 0) (n2 := 0) dX11_begins_15 ml_RX11_165 mo_X11_wrong mv_X11_wrong rfl (tX11_wrong (d + 1) e30 hN21 k0) k0 (okN hN21 k0 (by decide)).1 (okN hN21 k0 (by decide)).2 cq_11 (by decide) rfl rfl (Nat.le_of_ble_eq_true rfl) (by decide) (by decide) (fun v ν hp => ?_) (fun i ν hp => nrm hp.1)
      obtain ⟨rfl, rfl, hN32, hb33⟩ := QEl hp
      show J _ _ _ _ 18 _ ([]) _ _ _ _
      refine J.aload_n (pc := 18) dX11_begins_18 rfl 0 rfl ?_
      refine J.callV (Y := mX11_begins) (Z := mX11_isGood) (pc := 19) (st := []) (k2 := 0) (n2 := 0) dX11_begins_19 ml_RX11_158 mo_X11_isGood mv_X11_isGood rfl (tX11_isGood (d + 1) v0 μ31 hN32 k0) k0 (okN hN32 k0 (by decide)).1 (okN hN32 k0 (by decide)).2 cq_11 (by decide) rfl rfl (Nat.le_of_ble_eq_true rfl) (by decide) (by decide) (fun v ν hp => ?_) (fun i ν hp => nrm hp.1)
      obtain ⟨rfl, rfl, hN35, hb36⟩ := QEl hp
      show J _ _ _ _ 22 _ ([.int (fX11_isGood v0 μ31)]) _ _ _ _
      rcases ifc h with ⟨hc, h⟩ | ⟨hc, h⟩
      · refine J.zne (pc := 22) (tgt := 27) dX11_begins_22 (by decide) (fun _ => ?_) (fun q => absurd hc q)
        refine J.iconst (pc := 25) dX11_begins_25 ic_0 ?_
        cases h
        exact J.zret (pc := 26) dX11_begins_26 rfl (narB (Or.inl rfl)) ⟨rfl, rfl, hN35, (Or.inl rfl)⟩
      · refine J.zne (pc := 22) (tgt := 27) dX11_begins_22 (by decide) (fun q => absurd q hc) (fun _ => ?_)
        refine J.aload_n (pc := 27) dX11_begins_27 rfl 0 rfl ?_
        obtain ⟨μ38, e37, h⟩ := bnd h
        refine J.callV (Y := mX11_begins) (Z := mX11_goes) (pc := 28) (st := []) (k2 := 0) (n2 := 0) dX11_begins_28 ml_RX11_162 mo_X11_goes mv_X11_goes rfl (tX11_goes d e37 hN35 k0) k0 (okN hN35 k0 (by decide)).1 (okN hN35 k0 (by decide)).2 cq_11 (by decide) rfl rfl (Nat.le_of_ble_eq_true rfl) (by decide) (by decide) (fun v ν hp => ?_) (fun i ν hp => nrm hp.1)
        obtain ⟨rfl, rfl, hN39, hb40⟩ := QEl hp
        show J _ _ _ _ 31 _ ([]) _ _ _ _
        refine J.iconst (pc := 31) dX11_begins_31 ic_1 ?_
        cases h
        exact J.zret (pc := 32) dX11_begins_32 rfl (narB (Or.inr rfl)) ⟨rfl, rfl, hN39, (Or.inr rfl)⟩
def fX11_bits_4  : Nat → Int32 → Int32 → Int32 → Option (Int32)
  | 0, _, _, _ => none
  | n + 1, v0, v1, v2 =>
    if v2 < (6 : Int32) then
      (fX11_bits_4 n) v0 (v1 + ((v0 >>> (v2 &&& 31)) &&& (1 : Int32))) (v2 + (1 : Int32))
    else
      some v1
set_option maxHeartbeats 4000000 in
theorem tX11_bits_4 {ω : Wd} {l : Launch} (d : Nat) {μ : Mem} (hN : μ.1 = NN) {res : Int32} : ∀ n : Nat, ∀ (v0 : Int32) (v1 : Int32) (v2 : Int32), fX11_bits_4 n v0 v1 v2 = some res → J ω l mX11_bits d 4 [(0, .int v0), (1, .int v1), (2, .int v2)] [] μ 0 0 (PE (.inl (some (.int res))) μ True) := by
  intro n
  induction n with
  | zero =>
    intro v0 v1 v2 h
    have h9 : (none : Option (Int32)) = some res := h
    cases h9
  | succ n ih =>
    intro v0 v1 v2 h
    unfold fX11_bits_4 at h
    refine J.iload_n (pc := 4) dX11_bits_4 rfl 2 rfl ?_
    refine J.bipush (pc := 5) dX11_bits_5 ib_6 ?_
    rcases ifc h with ⟨hc, h⟩ | ⟨hc, h⟩
    · refine J.cge (pc := 7) (tgt := 24) dX11_bits_7 (by decide) (fun _ => ?_) (fun q => absurd hc q)
      refine J.iload_n (pc := 10) dX11_bits_10 rfl 1 rfl ?_
      refine J.iload_n (pc := 11) dX11_bits_11 rfl 0 rfl ?_
      refine J.iload_n (pc := 12) dX11_bits_12 rfl 2 rfl ?_
      refine J.ishr (pc := 13) dX11_bits_13 ?_
      refine J.iconst (pc := 14) dX11_bits_14 ic_1 ?_
      refine J.iand (pc := 15) dX11_bits_15 ?_
      refine J.iadd (pc := 16) dX11_bits_16 ?_
      refine J.istore_n (pc := 17) ([(1, .int (v1 + ((v0 >>> (v2 &&& 31)) &&& (1 : Int32)))), (0, .int v0), (2, .int v2)]) dX11_bits_17 rfl (Nat.le_of_ble_eq_true rfl) rfl ?_
      refine J.iinc (pc := 18) (j := 2) ([(2, .int (v2 + (1 : Int32))), (1, .int (v1 + ((v0 >>> (v2 &&& 31)) &&& (1 : Int32)))), (0, .int v0)]) dX11_bits_18 rfl (iincv ic_1) (Nat.le_of_ble_eq_true rfl) rfl ?_
      refine J.goto (pc := 21) (tgt := 4) dX11_bits_21 (by decide) ?_
      refine J.pick [2, 1, 0] rfl ?_
      exact ih v0 (v1 + ((v0 >>> (v2 &&& 31)) &&& (1 : Int32))) (v2 + (1 : Int32)) h
    · refine J.cge (pc := 7) (tgt := 24) dX11_bits_7 (by decide) (fun q => absurd q hc) (fun _ => ?_)
      refine J.iload_n (pc := 24) dX11_bits_24 rfl 1 rfl ?_
      cases h
      exact J.iret (pc := 25) dX11_bits_25 rfl ⟨rfl, rfl, hN, trivial⟩
def fX11_bits (v0 : Int32) : Option (Int32) :=
  (fX11_bits_4 fuel) v0 (0 : Int32) (0 : Int32)
set_option maxHeartbeats 4000000 in
theorem tX11_bits {ω : Wd} {l : Launch} (d : Nat) {v0 : Int32} {μ : Mem} {res : Int32} (h : fX11_bits v0 = some res) (hN : μ.1 = NN) : Ct ω l mX11_bits d [.int v0] μ 0 0 (PE (.inl (some (.int res))) μ True) := by
  refine Ct.of pn_RX11 (Nat.le_of_ble_eq_true rfl) ?_
  show J ω l mX11_bits d 0 [(0, .int v0)] [] μ 0 0 _
  unfold fX11_bits at h
  refine J.iconst (pc := 0) dX11_bits_0 ic_0 ?_
  refine J.istore_n (pc := 1) ([(1, .int (0 : Int32)), (0, .int v0)]) dX11_bits_1 rfl (Nat.le_of_ble_eq_true rfl) rfl ?_
  refine J.iconst (pc := 2) dX11_bits_2 ic_0 ?_
  refine J.istore_n (pc := 3) ([(2, .int (0 : Int32)), (1, .int (0 : Int32)), (0, .int v0)]) dX11_bits_3 rfl (Nat.le_of_ble_eq_true rfl) rfl ?_
  refine J.pick [2, 1, 0] rfl ?_
  exact (tX11_bits_4 d hN fuel) v0 (0 : Int32) (0 : Int32) h
def fX11_canTake (v0 : Nat) (v1 : Int32) (v2 : Int32) (v3 : Int32) (μ : Mem) : Option (Int32) :=
  if ((v3 >>> (v2 &&& 31)) &&& (1 : Int32)) = 0 then
    (gR μ v0 47 0).bind fun a1 =>
    (ldI μ a1 (((6 : Int32) * v1) + v2)).bind fun x4 =>
    if x4 < (9999 : Int32) then
      some (1 : Int32)
    else
      some (0 : Int32)
  else
    some (0 : Int32)
set_option maxHeartbeats 4000000 in
theorem tX11_canTake {ω : Wd} {l : Launch} (d : Nat) {v0 : Nat} {v1 : Int32} {v2 : Int32} {v3 : Int32} {μ : Mem} {res : Int32} (h : fX11_canTake v0 v1 v2 v3 μ = some res) (hN : μ.1 = NN) (k0 : (kd v0).1 = 21) : Ct ω l mX11_canTake d [.ref v0, .int v1, .int v2, .int v3] μ 0 0 (PE (.inl (some (.int res))) μ (isB res)) := by
  refine Ct.of pn_RX11 (Nat.le_of_ble_eq_true rfl) ?_
  show J ω l mX11_canTake d 0 [(0, .ref v0), (1, .int v1), (2, .int v2), (3, .int v3)] [] μ 0 0 _
  unfold fX11_canTake at h
  refine J.iload_n (pc := 0) dX11_canTake_0 rfl 3 rfl ?_
  refine J.iload_n (pc := 1) dX11_canTake_1 rfl 2 rfl ?_
  refine J.ishr (pc := 2) dX11_canTake_2 ?_
  refine J.iconst (pc := 3) dX11_canTake_3 ic_1 ?_
  refine J.iand (pc := 4) dX11_canTake_4 ?_
  rcases ifc h with ⟨hc, h⟩ | ⟨hc, h⟩
  · refine J.zne (pc := 5) (tgt := 29) dX11_canTake_5 (by decide) (fun _ => ?_) (fun q => absurd hc q)
    refine J.aload_n (pc := 8) dX11_canTake_8 rfl 0 rfl ?_
    obtain ⟨a1, e2, h⟩ := bnd h
    have k3 : (kd a1).1 = 0 := gR_k e2
    refine J.fR (pc := 9) dX11_canTake_9 fl_RX11_75 k0 (okN hN k0 (by decide)) rfl e2 ?_
    refine J.bipush (pc := 12) dX11_canTake_12 ib_6 ?_
    refine J.iload_n (pc := 14) dX11_canTake_14 rfl 1 rfl ?_
    refine J.imul (pc := 15) dX11_canTake_15 ?_
    refine J.iload_n (pc := 16) dX11_canTake_16 rfl 2 rfl ?_
    refine J.iadd (pc := 17) dX11_canTake_17 ?_
    obtain ⟨x4, e5, h⟩ := bnd h
    refine J.aI (pc := 18) dX11_canTake_18 k3 (okN hN k3 (by decide)) e5 ?_
    refine J.sipush (pc := 19) dX11_canTake_19 is_9999 ?_
    rcases ifc h with ⟨hc, h⟩ | ⟨hc, h⟩
    · refine J.cge (pc := 22) (tgt := 29) dX11_canTake_22 (by decide) (fun _ => ?_) (fun q => absurd hc q)
      refine J.iconst (pc := 25) dX11_canTake_25 ic_1 ?_
      refine J.goto (pc := 26) (tgt := 30) dX11_canTake_26 (by decide) ?_
      cases h
      exact J.zret (pc := 30) dX11_canTake_30 rfl (narB (Or.inr rfl)) ⟨rfl, rfl, hN, (Or.inr rfl)⟩
    · refine J.cge (pc := 22) (tgt := 29) dX11_canTake_22 (by decide) (fun q => absurd q hc) (fun _ => ?_)
      refine J.iconst (pc := 29) dX11_canTake_29 ic_0 ?_
      cases h
      exact J.zret (pc := 30) dX11_canTake_30 rfl (narB (Or.inl rfl)) ⟨rfl, rfl, hN, (Or.inl rfl)⟩
  · refine J.zne (pc := 5) (tgt := 29) dX11_canTake_5 (by decide) (fun q => absurd q hc) (fun _ => ?_)
    refine J.iconst (pc := 29) dX11_canTake_29 ic_0 ?_
    cases h
    exact J.zret (pc := 30) dX11_canTake_30 rfl (narB (Or.inl rfl)) ⟨rfl, rfl, hN, (Or.inl rfl)⟩
def fX11_isPerson (v0 : Nat) (v1 : Int32) (μ : Mem) : Option (Int32 × Mem) :=
  if v1 < 0 then
    (fX11_right v0 (0 : Int32) (1 : Int32) μ).bind fun (r3, μ2) =>
    some (r3, μ2)
  else
    if v1 < (μ.2.1 v0 2) then
      (fX11_right v0 (1 : Int32) (1 : Int32) μ).bind fun (r8, μ7) =>
      some (r8, μ7)
    else
      (fX11_right v0 (0 : Int32) (1 : Int32) μ).bind fun (r13, μ12) =>
      some (r13, μ12)
set_option maxHeartbeats 4000000 in
theorem tX11_isPerson {ω : Wd} {l : Launch} (d : Nat) {v0 : Nat} {v1 : Int32} {μ : Mem} {res : Int32 × Mem} (h : fX11_isPerson v0 v1 μ = some res) (hN : μ.1 = NN) (k0 : (kd v0).1 = 21) : Ct ω l mX11_isPerson (d + 1) [.ref v0, .int v1] μ 0 0 (PE (.inl (some (.int res.1))) res.2 (isB res.1)) := by
  refine Ct.of pn_RX11 (Nat.le_of_ble_eq_true rfl) ?_
  show J ω l mX11_isPerson (d + 1) 0 [(0, .ref v0), (1, .int v1)] [] μ 0 0 _
  unfold fX11_isPerson at h
  refine J.aload_n (pc := 0) dX11_isPerson_0 rfl 0 rfl ?_
  refine J.iload_n (pc := 1) dX11_isPerson_1 rfl 1 rfl ?_
  rcases ifc h with ⟨hc, h⟩ | ⟨hc, h⟩
  · refine J.zlt (pc := 2) (tgt := 17) dX11_isPerson_2 (by decide) (fun _ => ?_) (fun q => absurd hc q)
    refine J.iconst (pc := 17) dX11_isPerson_17 ic_0 ?_
    refine J.iconst (pc := 18) dX11_isPerson_18 ic_1 ?_
    obtain ⟨⟨r3, μ2⟩, e1, h⟩ := bnd h
    try dsimp only at h
    refine J.callV (Y := mX11_isPerson) (Z := mX11_right) (pc := 19) (st := []) (k2 := 0) (n2 := 0) dX11_isPerson_19 ml_RX11_266 mo_X11_right mv_X11_right rfl (tX11_right d e1 hN k0) k0 (okN hN k0 (by decide)).1 (okN hN k0 (by decide)).2 cq_11 (by decide) rfl rfl (Nat.le_of_ble_eq_true rfl) (by decide) (by decide) (fun v ν hp => ?_) (fun i ν hp => nrm hp.1)
    obtain ⟨rfl, rfl, hN4, hb5⟩ := QEl hp
    show J _ _ _ _ 22 _ ([.int r3]) _ _ _ _
    cases h
    exact J.zret (pc := 22) dX11_isPerson_22 rfl (narB hb5) ⟨rfl, rfl, hN4, hb5⟩
  · refine J.zlt (pc := 2) (tgt := 17) dX11_isPerson_2 (by decide) (fun q => absurd q hc) (fun _ => ?_)
    refine J.iload_n (pc := 5) dX11_isPerson_5 rfl 1 rfl ?_
    refine J.aload_n (pc := 6) dX11_isPerson_6 rfl 0 rfl ?_
    refine J.fI (pc := 7) dX11_isPerson_7 fl_RX11_276 k0 (okN hN k0 (by decide)) (Or.inl rfl) ?_
    rcases ifc h with ⟨hc, h⟩ | ⟨hc, h⟩
    · refine J.cge (pc := 10) (tgt := 17) dX11_isPerson_10 (by decide) (fun _ => ?_) (fun q => absurd hc q)
      refine J.iconst (pc := 13) dX11_isPerson_13 ic_1 ?_
      refine J.goto (pc := 14) (tgt := 18) dX11_isPerson_14 (by decide) ?_
      refine J.iconst (pc := 18) dX11_isPerson_18 ic_1 ?_
      obtain ⟨⟨r8, μ7⟩, e6, h⟩ := bnd h
      try dsimp only at h
      refine J.callV (Y := mX11_isPerson) (Z := mX11_right) (pc := 19) (st := []) (k2 := 0) (n2 := 0) dX11_isPerson_19 ml_RX11_266 mo_X11_right mv_X11_right rfl (tX11_right d e6 hN k0) k0 (okN hN k0 (by decide)).1 (okN hN k0 (by decide)).2 cq_11 (by decide) rfl rfl (Nat.le_of_ble_eq_true rfl) (by decide) (by decide) (fun v ν hp => ?_) (fun i ν hp => nrm hp.1)
      obtain ⟨rfl, rfl, hN9, hb10⟩ := QEl hp
      show J _ _ _ _ 22 _ ([.int r8]) _ _ _ _
      cases h
      exact J.zret (pc := 22) dX11_isPerson_22 rfl (narB hb10) ⟨rfl, rfl, hN9, hb10⟩
    · refine J.cge (pc := 10) (tgt := 17) dX11_isPerson_10 (by decide) (fun q => absurd q hc) (fun _ => ?_)
      refine J.iconst (pc := 17) dX11_isPerson_17 ic_0 ?_
      refine J.iconst (pc := 18) dX11_isPerson_18 ic_1 ?_
      obtain ⟨⟨r13, μ12⟩, e11, h⟩ := bnd h
      try dsimp only at h
      refine J.callV (Y := mX11_isPerson) (Z := mX11_right) (pc := 19) (st := []) (k2 := 0) (n2 := 0) dX11_isPerson_19 ml_RX11_266 mo_X11_right mv_X11_right rfl (tX11_right d e11 hN k0) k0 (okN hN k0 (by decide)).1 (okN hN k0 (by decide)).2 cq_11 (by decide) rfl rfl (Nat.le_of_ble_eq_true rfl) (by decide) (by decide) (fun v ν hp => ?_) (fun i ν hp => nrm hp.1)
      obtain ⟨rfl, rfl, hN14, hb15⟩ := QEl hp
      show J _ _ _ _ 22 _ ([.int r13]) _ _ _ _
      cases h
      exact J.zret (pc := 22) dX11_isPerson_22 rfl (narB hb15) ⟨rfl, rfl, hN14, hb15⟩
def fX11_candles_71  (K53 : Nat → Int32 → Int32 → Int32 → Int32 → Int32 → Mem → Option (Int32 × Mem)) : Nat → Nat → Int32 → Int32 → Int32 → Int32 → Int32 → Int32 → Int32 → Mem → Option (Int32 × Mem)
  | 0, _, _, _, _, _, _, _, _, _ => none
  | n + 1, v0, v1, v2, v3, v4, v5, v6, v7, μ =>
    if v7 < v2 then
      if ((v5 >>> (v7 &&& 31)) &&& (1 : Int32)) = (1 : Int32) then
        (some (sI μ v0 45 (1 : Int32))).bind fun μ1 =>
        if (μ1.2.1 v0 45) = 0 then
          (fX11_dayGoes v0 (79 : Int32) μ1).bind fun μ5 =>
          (fX11_candles_71 K53 n) v0 v1 v2 v3 v4 v5 (v6 * ((10 : Int32) - v3)) (v7 + (1 : Int32)) μ5
        else
          (fX11_dayGoes v0 (79 : Int32) μ1).bind fun μ9 =>
          (fX11_candles_71 K53 n) v0 v1 v2 v3 v4 v5 (v6 * v3) (v7 + (1 : Int32)) μ9
      else
        (some (sI μ v0 45 (0 : Int32))).bind fun μ12 =>
        if (μ12.2.1 v0 45) = 0 then
          (fX11_dayGoes v0 (79 : Int32) μ12).bind fun μ16 =>
          (fX11_candles_71 K53 n) v0 v1 v2 v3 v4 v5 (v6 * ((10 : Int32) - v3)) (v7 + (1 : Int32)) μ16
        else
          (fX11_dayGoes v0 (79 : Int32) μ12).bind fun μ20 =>
          (fX11_candles_71 K53 n) v0 v1 v2 v3 v4 v5 (v6 * v3) (v7 + (1 : Int32)) μ20
    else
      (gR μ v0 34 0).bind fun a23 =>
      (ldI μ a23 ((140 : Int32) + v1)).bind fun x26 =>
      if x26 = (-1 : Int32) then
        K53 v0 v1 v2 v3 (v4 + v6) (v5 + (1 : Int32)) μ
      else
        K53 v0 v1 v2 v3 (v4 + (0 : Int32)) (v5 + (1 : Int32)) μ
set_option maxHeartbeats 4000000 in
theorem tX11_candles_71 {ω : Wd} {l : Launch} (d : Nat) {res : Int32 × Mem} (K53 : Nat → Int32 → Int32 → Int32 → Int32 → Int32 → Mem → Option (Int32 × Mem)) (hK53 : ∀ (v0 : Nat) (v1 : Int32) (v2 : Int32) (v3 : Int32) (v4 : Int32) (v5 : Int32) (μ : Mem), K53 v0 v1 v2 v3 v4 v5 μ = some res → μ.1 = NN → (kd v0).1 = 21 → J ω l mX11_candles (d + 5) 53 [(0, .ref v0), (1, .int v1), (2, .int v2), (3, .int v3), (4, .int v4), (5, .int v5)] [] μ 0 0 (PE (.inl (some (.int res.1))) res.2 True)) : ∀ n : Nat, ∀ (v0 : Nat) (v1 : Int32) (v2 : Int32) (v3 : Int32) (v4 : Int32) (v5 : Int32) (v6 : Int32) (v7 : Int32) (μ : Mem), fX11_candles_71 K53 n v0 v1 v2 v3 v4 v5 v6 v7 μ = some res → μ.1 = NN → (kd v0).1 = 21 → J ω l mX11_candles (d + 5) 71 [(0, .ref v0), (1, .int v1), (2, .int v2), (3, .int v3), (4, .int v4), (5, .int v5), (6, .int v6), (7, .int v7)] [] μ 0 0 (PE (.inl (some (.int res.1))) res.2 True) := by
  intro n
  induction n with
  | zero =>
    intro v0 v1 v2 v3 v4 v5 v6 v7 μ h hN k0
    have h9 : (none : Option (Int32 × Mem)) = some res := h
    cases h9
  | succ n ih =>
    intro v0 v1 v2 v3 v4 v5 v6 v7 μ h hN k0
    unfold fX11_candles_71 at h
    refine J.iload (pc := 71) dX11_candles_71 7 rfl ?_
    refine J.iload_n (pc := 73) dX11_candles_73 rfl 2 rfl ?_
    rcases ifc h with ⟨hc, h⟩ | ⟨hc, h⟩
    · refine J.cge (pc := 74) (tgt := 129) dX11_candles_74 (by decide) (fun _ => ?_) (fun q => absurd hc q)
      refine J.aload_n (pc := 77) dX11_candles_77 rfl 0 rfl ?_
      refine J.iload (pc := 78) dX11_candles_78 5 rfl ?_
      refine J.iload (pc := 80) dX11_candles_80 7 rfl ?_
      refine J.ishr (pc := 82) dX11_candles_82 ?_
      refine J.iconst (pc := 83) dX11_candles_83 ic_1 ?_
      refine J.iand (pc := 84) dX11_candles_84 ?_
      refine J.iconst (pc := 85) dX11_candles_85 ic_1 ?_
      rcases ifc h with ⟨hc, h⟩ | ⟨hc, h⟩
      · refine J.cne (pc := 86) (tgt := 93) dX11_candles_86 (by decide) (fun _ => ?_) (fun q => absurd hc q)
        refine J.iconst (pc := 89) dX11_candles_89 ic_1 ?_
        refine J.goto (pc := 90) (tgt := 94) dX11_candles_90 (by decide) ?_
        obtain ⟨μ1, e2, h⟩ := bnd h
        have hN3 : μ1.1 = NN := smN e2 hN
        refine J.qZ (pc := 94) dX11_candles_94 fl_RX11_310 k0 (okN hN k0 (by decide)) rfl rfl (Or.inr rfl) e2 ?_
        refine J.iload (pc := 97) dX11_candles_97 6 rfl ?_
        refine J.aload_n (pc := 99) dX11_candles_99 rfl 0 rfl ?_
        refine J.fI (pc := 100) dX11_candles_100 fl_RX11_310 k0 (okN hN3 k0 (by decide)) (Or.inr rfl) ?_
        rcases ifc h with ⟨hc, h⟩ | ⟨hc, h⟩
        · refine J.zeq (pc := 103) (tgt := 110) dX11_candles_103 (by decide) (fun _ => ?_) (fun q => absurd hc q)
          refine J.bipush (pc := 110) dX11_candles_110 ib_10 ?_
          refine J.iload_n (pc := 112) dX11_candles_112 rfl 3 rfl ?_
          refine J.isub (pc := 113) dX11_candles_113 ?_
          refine J.imul (pc := 114) dX11_candles_114 ?_
          refine J.istore (pc := 115) ([(6, .int (v6 * ((10 : Int32) - v3))), (0, .ref v0), (1, .int v1), (2, .int v2), (3, .int v3), (4, .int v4), (5, .int v5), (7, .int v7)]) dX11_candles_115 (Nat.le_of_ble_eq_true rfl) rfl ?_
          refine J.aload_n (pc := 117) dX11_candles_117 rfl 1 rfl ?_
          refine J.bipush (pc := 118) dX11_candles_118 ib_79 ?_
          obtain ⟨μ5, e4, h⟩ := bnd h
          refine J.callV (Y := mX11_candles) (Z := mX11_dayGoes) (pc := 120) (st := []) (k2 := 0) (n2 := 0) dX11_candles_120 ml_RX11_341 mo_X11_dayGoes mv_X11_dayGoes rfl (tX11_dayGoes d e4 hN3 k0) k0 (okN hN3 k0 (by decide)).1 (okN hN3 k0 (by decide)).2 cq_11 (by decide) rfl rfl (Nat.le_of_ble_eq_true rfl) (by decide) (by decide) (fun v ν hp => ?_) (fun i ν hp => nrm hp.1)
          obtain ⟨rfl, rfl, hN6, hb7⟩ := QEl hp
          show J _ _ _ _ 123 _ ([]) _ _ _ _
          refine J.iinc (pc := 123) (j := 7) ([(7, .int (v7 + (1 : Int32))), (6, .int (v6 * ((10 : Int32) - v3))), (0, .ref v0), (1, .int v1), (2, .int v2), (3, .int v3), (4, .int v4), (5, .int v5)]) dX11_candles_123 rfl (iincv ic_1) (Nat.le_of_ble_eq_true rfl) rfl ?_
          refine J.goto (pc := 126) (tgt := 71) dX11_candles_126 (by decide) ?_
          refine J.pick [2, 3, 4, 5, 6, 7, 1, 0] rfl ?_
          exact ih v0 v1 v2 v3 v4 v5 (v6 * ((10 : Int32) - v3)) (v7 + (1 : Int32)) μ5 h hN6 k0
        · refine J.zeq (pc := 103) (tgt := 110) dX11_candles_103 (by decide) (fun q => absurd q hc) (fun _ => ?_)
          refine J.iload_n (pc := 106) dX11_candles_106 rfl 3 rfl ?_
          refine J.goto (pc := 107) (tgt := 114) dX11_candles_107 (by decide) ?_
          refine J.imul (pc := 114) dX11_candles_114 ?_
          refine J.istore (pc := 115) ([(6, .int (v6 * v3)), (0, .ref v0), (1, .int v1), (2, .int v2), (3, .int v3), (4, .int v4), (5, .int v5), (7, .int v7)]) dX11_candles_115 (Nat.le_of_ble_eq_true rfl) rfl ?_
          refine J.aload_n (pc := 117) dX11_candles_117 rfl 1 rfl ?_
          refine J.bipush (pc := 118) dX11_candles_118 ib_79 ?_
          obtain ⟨μ9, e8, h⟩ := bnd h
          refine J.callV (Y := mX11_candles) (Z := mX11_dayGoes) (pc := 120) (st := []) (k2 := 0) (n2 := 0) dX11_candles_120 ml_RX11_341 mo_X11_dayGoes mv_X11_dayGoes rfl (tX11_dayGoes d e8 hN3 k0) k0 (okN hN3 k0 (by decide)).1 (okN hN3 k0 (by decide)).2 cq_11 (by decide) rfl rfl (Nat.le_of_ble_eq_true rfl) (by decide) (by decide) (fun v ν hp => ?_) (fun i ν hp => nrm hp.1)
          obtain ⟨rfl, rfl, hN10, hb11⟩ := QEl hp
          show J _ _ _ _ 123 _ ([]) _ _ _ _
          refine J.iinc (pc := 123) (j := 7) ([(7, .int (v7 + (1 : Int32))), (6, .int (v6 * v3)), (0, .ref v0), (1, .int v1), (2, .int v2), (3, .int v3), (4, .int v4), (5, .int v5)]) dX11_candles_123 rfl (iincv ic_1) (Nat.le_of_ble_eq_true rfl) rfl ?_
          refine J.goto (pc := 126) (tgt := 71) dX11_candles_126 (by decide) ?_
          refine J.pick [2, 3, 4, 5, 6, 7, 1, 0] rfl ?_
          exact ih v0 v1 v2 v3 v4 v5 (v6 * v3) (v7 + (1 : Int32)) μ9 h hN10 k0
      · refine J.cne (pc := 86) (tgt := 93) dX11_candles_86 (by decide) (fun q => absurd q hc) (fun _ => ?_)
        refine J.iconst (pc := 93) dX11_candles_93 ic_0 ?_
        obtain ⟨μ12, e13, h⟩ := bnd h
        have hN14 : μ12.1 = NN := smN e13 hN
        refine J.qZ (pc := 94) dX11_candles_94 fl_RX11_310 k0 (okN hN k0 (by decide)) rfl rfl (Or.inl rfl) e13 ?_
        refine J.iload (pc := 97) dX11_candles_97 6 rfl ?_
        refine J.aload_n (pc := 99) dX11_candles_99 rfl 0 rfl ?_
        refine J.fI (pc := 100) dX11_candles_100 fl_RX11_310 k0 (okN hN14 k0 (by decide)) (Or.inr rfl) ?_
        rcases ifc h with ⟨hc, h⟩ | ⟨hc, h⟩
        · refine J.zeq (pc := 103) (tgt := 110) dX11_candles_103 (by decide) (fun _ => ?_) (fun q => absurd hc q)
          refine J.bipush (pc := 110) dX11_candles_110 ib_10 ?_
          refine J.iload_n (pc := 112) dX11_candles_112 rfl 3 rfl ?_
          refine J.isub (pc := 113) dX11_candles_113 ?_
          refine J.imul (pc := 114) dX11_candles_114 ?_
          refine J.istore (pc := 115) ([(6, .int (v6 * ((10 : Int32) - v3))), (0, .ref v0), (1, .int v1), (2, .int v2), (3, .int v3), (4, .int v4), (5, .int v5), (7, .int v7)]) dX11_candles_115 (Nat.le_of_ble_eq_true rfl) rfl ?_
          refine J.aload_n (pc := 117) dX11_candles_117 rfl 1 rfl ?_
          refine J.bipush (pc := 118) dX11_candles_118 ib_79 ?_
          obtain ⟨μ16, e15, h⟩ := bnd h
          refine J.callV (Y := mX11_candles) (Z := mX11_dayGoes) (pc := 120) (st := []) (k2 := 0) (n2 := 0) dX11_candles_120 ml_RX11_341 mo_X11_dayGoes mv_X11_dayGoes rfl (tX11_dayGoes d e15 hN14 k0) k0 (okN hN14 k0 (by decide)).1 (okN hN14 k0 (by decide)).2 cq_11 (by decide) rfl rfl (Nat.le_of_ble_eq_true rfl) (by decide) (by decide) (fun v ν hp => ?_) (fun i ν hp => nrm hp.1)
          obtain ⟨rfl, rfl, hN17, hb18⟩ := QEl hp
          show J _ _ _ _ 123 _ ([]) _ _ _ _
          refine J.iinc (pc := 123) (j := 7) ([(7, .int (v7 + (1 : Int32))), (6, .int (v6 * ((10 : Int32) - v3))), (0, .ref v0), (1, .int v1), (2, .int v2), (3, .int v3), (4, .int v4), (5, .int v5)]) dX11_candles_123 rfl (iincv ic_1) (Nat.le_of_ble_eq_true rfl) rfl ?_
          refine J.goto (pc := 126) (tgt := 71) dX11_candles_126 (by decide) ?_
          refine J.pick [2, 3, 4, 5, 6, 7, 1, 0] rfl ?_
          exact ih v0 v1 v2 v3 v4 v5 (v6 * ((10 : Int32) - v3)) (v7 + (1 : Int32)) μ16 h hN17 k0
        · refine J.zeq (pc := 103) (tgt := 110) dX11_candles_103 (by decide) (fun q => absurd q hc) (fun _ => ?_)
          refine J.iload_n (pc := 106) dX11_candles_106 rfl 3 rfl ?_
          refine J.goto (pc := 107) (tgt := 114) dX11_candles_107 (by decide) ?_
          refine J.imul (pc := 114) dX11_candles_114 ?_
          refine J.istore (pc := 115) ([(6, .int (v6 * v3)), (0, .ref v0), (1, .int v1), (2, .int v2), (3, .int v3), (4, .int v4), (5, .int v5), (7, .int v7)]) dX11_candles_115 (Nat.le_of_ble_eq_true rfl) rfl ?_
          refine J.aload_n (pc := 117) dX11_candles_117 rfl 1 rfl ?_
          refine J.bipush (pc := 118) dX11_candles_118 ib_79 ?_
          obtain ⟨μ20, e19, h⟩ := bnd h
          refine J.callV (Y := mX11_candles) (Z := mX11_dayGoes) (pc := 120) (st := []) (k2 := 0) (n2 := 0) dX11_candles_120 ml_RX11_341 mo_X11_dayGoes mv_X11_dayGoes rfl (tX11_dayGoes d e19 hN14 k0) k0 (okN hN14 k0 (by decide)).1 (okN hN14 k0 (by decide)).2 cq_11 (by decide) rfl rfl (Nat.le_of_ble_eq_true rfl) (by decide) (by decide) (fun v ν hp => ?_) (fun i ν hp => nrm hp.1)
          obtain ⟨rfl, rfl, hN21, hb22⟩ := QEl hp
          show J _ _ _ _ 123 _ ([]) _ _ _ _
          refine J.iinc (pc := 123) (j := 7) ([(7, .int (v7 + (1 : Int32))), (6, .int (v6 * v3)), (0, .ref v0), (1, .int v1), (2, .int v2), (3, .int v3), (4, .int v4), (5, .int v5)]) dX11_candles_123 rfl (iincv ic_1) (Nat.le_of_ble_eq_true rfl) rfl ?_
          refine J.goto (pc := 126) (tgt := 71) dX11_candles_126 (by decide) ?_
          refine J.pick [2, 3, 4, 5, 6, 7, 1, 0] rfl ?_
          exact ih v0 v1 v2 v3 v4 v5 (v6 * v3) (v7 + (1 : Int32)) μ20 h hN21 k0
    · refine J.cge (pc := 74) (tgt := 129) dX11_candles_74 (by decide) (fun q => absurd q hc) (fun _ => ?_)
      refine J.iload (pc := 129) dX11_candles_129 4 rfl ?_
      refine J.aload_n (pc := 131) dX11_candles_131 rfl 0 rfl ?_
      obtain ⟨a23, e24, h⟩ := bnd h
      have k25 : (kd a23).1 = 0 := gR_k e24
      refine J.fR (pc := 132) dX11_candles_132 fl_RX11_48 k0 (okN hN k0 (by decide)) rfl e24 ?_
      refine J.sipush (pc := 135) dX11_candles_135 is_140 ?_
      refine J.iload_n (pc := 138) dX11_candles_138 rfl 1 rfl ?_
      refine J.iadd (pc := 139) dX11_candles_139 ?_
      obtain ⟨x26, e27, h⟩ := bnd h
      refine J.aI (pc := 140) dX11_candles_140 k25 (okN hN k25 (by decide)) e27 ?_
      refine J.iconst (pc := 141) dX11_candles_141 ic_m1 ?_
      rcases ifc h with ⟨hc, h⟩ | ⟨hc, h⟩
      · refine J.cne (pc := 142) (tgt := 150) dX11_candles_142 (by decide) (fun _ => ?_) (fun q => absurd hc q)
        refine J.iload (pc := 145) dX11_candles_145 6 rfl ?_
        refine J.goto (pc := 147) (tgt := 151) dX11_candles_147 (by decide) ?_
        refine J.iadd (pc := 151) dX11_candles_151 ?_
        refine J.istore (pc := 152) ([(4, .int (v4 + v6)), (0, .ref v0), (1, .int v1), (2, .int v2), (3, .int v3), (5, .int v5), (6, .int v6), (7, .int v7)]) dX11_candles_152 (Nat.le_of_ble_eq_true rfl) rfl ?_
        refine J.iinc (pc := 154) (j := 5) ([(5, .int (v5 + (1 : Int32))), (4, .int (v4 + v6)), (0, .ref v0), (1, .int v1), (2, .int v2), (3, .int v3), (6, .int v6), (7, .int v7)]) dX11_candles_154 rfl (iincv ic_1) (Nat.le_of_ble_eq_true rfl) rfl ?_
        refine J.goto (pc := 157) (tgt := 53) dX11_candles_157 (by decide) ?_
        refine J.pick [2, 3, 4, 5, 1, 0] rfl ?_
        exact hK53 v0 v1 v2 v3 (v4 + v6) (v5 + (1 : Int32)) μ h hN k0
      · refine J.cne (pc := 142) (tgt := 150) dX11_candles_142 (by decide) (fun q => absurd q hc) (fun _ => ?_)
        refine J.iconst (pc := 150) dX11_candles_150 ic_0 ?_
        refine J.iadd (pc := 151) dX11_candles_151 ?_
        refine J.istore (pc := 152) ([(4, .int (v4 + (0 : Int32))), (0, .ref v0), (1, .int v1), (2, .int v2), (3, .int v3), (5, .int v5), (6, .int v6), (7, .int v7)]) dX11_candles_152 (Nat.le_of_ble_eq_true rfl) rfl ?_
        refine J.iinc (pc := 154) (j := 5) ([(5, .int (v5 + (1 : Int32))), (4, .int (v4 + (0 : Int32))), (0, .ref v0), (1, .int v1), (2, .int v2), (3, .int v3), (6, .int v6), (7, .int v7)]) dX11_candles_154 rfl (iincv ic_1) (Nat.le_of_ble_eq_true rfl) rfl ?_
        refine J.goto (pc := 157) (tgt := 53) dX11_candles_157 (by decide) ?_
        refine J.pick [2, 3, 4, 5, 1, 0] rfl ?_
        exact hK53 v0 v1 v2 v3 (v4 + (0 : Int32)) (v5 + (1 : Int32)) μ h hN k0
def fX11_candles_53  : Nat → Nat → Int32 → Int32 → Int32 → Int32 → Int32 → Mem → Option (Int32 × Mem)
  | 0, _, _, _, _, _, _, _ => none
  | n + 1, v0, v1, v2, v3, v4, v5, μ =>
    if v5 < ((1 : Int32) <<< (v2 &&& 31)) then
      (fX11_tries v0 μ).bind fun μ2 =>
      (fX11_candles_71 (fX11_candles_53 n) fuel) v0 v1 v2 v3 v4 v5 (1 : Int32) (0 : Int32) μ2
    else
      (some (sI μ v0 45 (0 : Int32))).bind fun μ5 =>
      some (v4, μ5)
set_option maxHeartbeats 4000000 in
theorem tX11_candles_53 {ω : Wd} {l : Launch} (d : Nat) {res : Int32 × Mem} : ∀ n : Nat, ∀ (v0 : Nat) (v1 : Int32) (v2 : Int32) (v3 : Int32) (v4 : Int32) (v5 : Int32) (μ : Mem), fX11_candles_53 n v0 v1 v2 v3 v4 v5 μ = some res → μ.1 = NN → (kd v0).1 = 21 → J ω l mX11_candles (d + 5) 53 [(0, .ref v0), (1, .int v1), (2, .int v2), (3, .int v3), (4, .int v4), (5, .int v5)] [] μ 0 0 (PE (.inl (some (.int res.1))) res.2 True) := by
  intro n
  induction n with
  | zero =>
    intro v0 v1 v2 v3 v4 v5 μ h hN k0
    have h9 : (none : Option (Int32 × Mem)) = some res := h
    cases h9
  | succ n ih =>
    intro v0 v1 v2 v3 v4 v5 μ h hN k0
    unfold fX11_candles_53 at h
    refine J.iload (pc := 53) dX11_candles_53 5 rfl ?_
    refine J.iconst (pc := 55) dX11_candles_55 ic_1 ?_
    refine J.iload_n (pc := 56) dX11_candles_56 rfl 2 rfl ?_
    refine J.ishl (pc := 57) dX11_candles_57 ?_
    rcases ifc h with ⟨hc, h⟩ | ⟨hc, h⟩
    · refine J.cge (pc := 58) (tgt := 160) dX11_candles_58 (by decide) (fun _ => ?_) (fun q => absurd hc q)
      refine J.iconst (pc := 61) dX11_candles_61 ic_1 ?_
      refine J.istore (pc := 62) ([(6, .int (1 : Int32)), (0, .ref v0), (1, .int v1), (2, .int v2), (3, .int v3), (4, .int v4), (5, .int v5)]) dX11_candles_62 (Nat.le_of_ble_eq_true rfl) rfl ?_
      refine J.aload_n (pc := 64) dX11_candles_64 rfl 1 rfl ?_
      obtain ⟨μ2, e1, h⟩ := bnd h
      refine J.callV (Y := mX11_candles) (Z := mX11_tries) (pc := 65) (st := []) (k2 := 0) (n2 := 0) dX11_candles_65 ml_RX11_389 mo_X11_tries mv_X11_tries rfl (tX11_tries (d + 4) e1 hN k0) k0 (okN hN k0 (by decide)).1 (okN hN k0 (by decide)).2 cq_11 (by decide) rfl rfl (Nat.le_of_ble_eq_true rfl) (by decide) (by decide) (fun v ν hp => ?_) (fun i ν hp => nrm hp.1)
      obtain ⟨rfl, rfl, hN3, hb4⟩ := QEl hp
      show J _ _ _ _ 68 _ ([]) _ _ _ _
      refine J.iconst (pc := 68) dX11_candles_68 ic_0 ?_
      refine J.istore (pc := 69) ([(7, .int (0 : Int32)), (6, .int (1 : Int32)), (0, .ref v0), (1, .int v1), (2, .int v2), (3, .int v3), (4, .int v4), (5, .int v5)]) dX11_candles_69 (Nat.le_of_ble_eq_true rfl) rfl ?_
      refine J.pick [2, 3, 4, 5, 6, 7, 1, 0] rfl ?_
      exact (tX11_candles_71 d (fX11_candles_53 n) ih fuel) v0 v1 v2 v3 v4 v5 (1 : Int32) (0 : Int32) μ2 h hN3 k0
    · refine J.cge (pc := 58) (tgt := 160) dX11_candles_58 (by decide) (fun q => absurd q hc) (fun _ => ?_)
      refine J.aload_n (pc := 160) dX11_candles_160 rfl 0 rfl ?_
      refine J.iconst (pc := 161) dX11_candles_161 ic_0 ?_
      obtain ⟨μ5, e6, h⟩ := bnd h
      have hN7 : μ5.1 = NN := smN e6 hN
      refine J.qZ (pc := 162) dX11_candles_162 fl_RX11_310 k0 (okN hN k0 (by decide)) rfl rfl (Or.inl rfl) e6 ?_
      refine J.iload (pc := 165) dX11_candles_165 4 rfl ?_
      cases h
      exact J.iret (pc := 167) dX11_candles_167 rfl ⟨rfl, rfl, hN7, trivial⟩
def fX11_candles (v0 : Nat) (v1 : Int32) (v2 : Int32) (v3 : Int32) (μ : Mem) : Option (Int32 × Mem) :=
  (some (sI μ v0 0 (0 : Int32))).bind fun μ1 =>
  (fX11_isPerson v0 v1 μ1).bind fun (r6, μ5) =>
  if r6 = 0 then
    some ((0 : Int32), μ5)
  else
    if (fX11_within v2 (1 : Int32) (5 : Int32)) = 0 then
      (fX11_right v0 (0 : Int32) (2 : Int32) μ5).bind fun (r14, μ13) =>
      if r14 = 0 then
        some ((0 : Int32), μ13)
      else
        (fX11_candles_53 fuel) v0 v1 v2 v3 (0 : Int32) (0 : Int32) μ13
    else
      if (fX11_within v3 (0 : Int32) (10 : Int32)) = 0 then
        (fX11_right v0 (0 : Int32) (2 : Int32) μ5).bind fun (r22, μ21) =>
        if r22 = 0 then
          some ((0 : Int32), μ21)
        else
          (fX11_candles_53 fuel) v0 v1 v2 v3 (0 : Int32) (0 : Int32) μ21
      else
        (fX11_right v0 (1 : Int32) (2 : Int32) μ5).bind fun (r27, μ26) =>
        if r27 = 0 then
          some ((0 : Int32), μ26)
        else
          (fX11_candles_53 fuel) v0 v1 v2 v3 (0 : Int32) (0 : Int32) μ26
set_option maxHeartbeats 4000000 in
theorem tX11_candles {ω : Wd} {l : Launch} (d : Nat) {v0 : Nat} {v1 : Int32} {v2 : Int32} {v3 : Int32} {μ : Mem} {res : Int32 × Mem} (h : fX11_candles v0 v1 v2 v3 μ = some res) (hN : μ.1 = NN) (k0 : (kd v0).1 = 21) : Ct ω l mX11_candles (d + 5) [.ref v0, .int v1, .int v2, .int v3] μ 0 0 (PE (.inl (some (.int res.1))) res.2 True) := by
  refine Ct.of pn_RX11 (Nat.le_of_ble_eq_true rfl) ?_
  show J ω l mX11_candles (d + 5) 0 [(0, .ref v0), (1, .int v1), (2, .int v2), (3, .int v3)] [] μ 0 0 _
  unfold fX11_candles at h
  refine J.aload_n (pc := 0) dX11_candles_0 rfl 0 rfl ?_
  refine J.iconst (pc := 1) dX11_candles_1 ic_0 ?_
  obtain ⟨μ1, e2, h⟩ := bnd h
  have hN3 : μ1.1 = NN := smN e2 hN
  refine J.qI (pc := 2) dX11_candles_2 fl_RX11_99 k0 (okN hN k0 (by decide)) rfl rfl e2 ?_
  refine J.aload_n (pc := 5) dX11_candles_5 rfl 0 rfl ?_
  refine J.iload_n (pc := 6) dX11_candles_6 rfl 1 rfl ?_
  obtain ⟨⟨r6, μ5⟩, e4, h⟩ := bnd h
  try dsimp only at h
  refine J.callV (Y := mX11_candles) (Z := mX11_isPerson) (pc := 7) (st := []) (k2 := 0) (n2 := 0) dX11_candles_7 ml_RX11_368 mo_X11_isPerson mv_X11_isPerson rfl (tX11_isPerson (d + 3) e4 hN3 k0) k0 (okN hN3 k0 (by decide)).1 (okN hN3 k0 (by decide)).2 cq_11 (by decide) rfl rfl (Nat.le_of_ble_eq_true rfl) (by decide) (by decide) (fun v ν hp => ?_) (fun i ν hp => nrm hp.1)
  obtain ⟨rfl, rfl, hN7, hb8⟩ := QEl hp
  show J _ _ _ _ 10 _ ([.int r6]) _ _ _ _
  rcases ifc h with ⟨hc, h⟩ | ⟨hc, h⟩
  · refine J.zeq (pc := 10) (tgt := 45) dX11_candles_10 (by decide) (fun _ => ?_) (fun q => absurd hc q)
    refine J.iconst (pc := 45) dX11_candles_45 ic_0 ?_
    cases h
    exact J.iret (pc := 46) dX11_candles_46 rfl ⟨rfl, rfl, hN7, trivial⟩
  · refine J.zeq (pc := 10) (tgt := 45) dX11_candles_10 (by decide) (fun q => absurd q hc) (fun _ => ?_)
    refine J.aload_n (pc := 13) dX11_candles_13 rfl 0 rfl ?_
    refine J.iload_n (pc := 14) dX11_candles_14 rfl 2 rfl ?_
    refine J.iconst (pc := 15) dX11_candles_15 ic_1 ?_
    refine J.iconst (pc := 16) dX11_candles_16 ic_5 ?_
    refine J.callS (Y := mX11_candles) (Z := mX11_within) (pc := 17) (st := [.ref v0]) (k2 := 0) (n2 := 0) dX11_candles_17 ml_RX11_344 mo_X11_within ms_X11_within rfl (tX11_within (d + 4) v2 (1 : Int32) (5 : Int32) μ5 hN7 ) rfl rfl (Nat.le_of_ble_eq_true rfl) (by decide) (by decide) (fun v ν hp => ?_) (fun i ν hp => nrm hp.1)
    obtain ⟨rfl, rfl, hN10, hb11⟩ := QEl hp
    show J _ _ _ _ 20 _ ([.int (fX11_within v2 (1 : Int32) (5 : Int32)), .ref v0]) _ _ _ _
    rcases ifc h with ⟨hc, h⟩ | ⟨hc, h⟩
    · refine J.zeq (pc := 20) (tgt := 37) dX11_candles_20 (by decide) (fun _ => ?_) (fun q => absurd hc q)
      refine J.iconst (pc := 37) dX11_candles_37 ic_0 ?_
      refine J.iconst (pc := 38) dX11_candles_38 ic_2 ?_
      obtain ⟨⟨r14, μ13⟩, e12, h⟩ := bnd h
      try dsimp only at h
      refine J.callV (Y := mX11_candles) (Z := mX11_right) (pc := 39) (st := []) (k2 := 0) (n2 := 0) dX11_candles_39 ml_RX11_266 mo_X11_right mv_X11_right rfl (tX11_right (d + 4) e12 hN10 k0) k0 (okN hN10 k0 (by decide)).1 (okN hN10 k0 (by decide)).2 cq_11 (by decide) rfl rfl (Nat.le_of_ble_eq_true rfl) (by decide) (by decide) (fun v ν hp => ?_) (fun i ν hp => nrm hp.1)
      obtain ⟨rfl, rfl, hN15, hb16⟩ := QEl hp
      show J _ _ _ _ 42 _ ([.int r14]) _ _ _ _
      rcases ifc h with ⟨hc, h⟩ | ⟨hc, h⟩
      · refine J.zne (pc := 42) (tgt := 47) dX11_candles_42 (by decide) (fun _ => ?_) (fun q => absurd hc q)
        refine J.iconst (pc := 45) dX11_candles_45 ic_0 ?_
        cases h
        exact J.iret (pc := 46) dX11_candles_46 rfl ⟨rfl, rfl, hN15, trivial⟩
      · refine J.zne (pc := 42) (tgt := 47) dX11_candles_42 (by decide) (fun q => absurd q hc) (fun _ => ?_)
        refine J.iconst (pc := 47) dX11_candles_47 ic_0 ?_
        refine J.istore (pc := 48) ([(4, .int (0 : Int32)), (0, .ref v0), (1, .int v1), (2, .int v2), (3, .int v3)]) dX11_candles_48 (Nat.le_of_ble_eq_true rfl) rfl ?_
        refine J.iconst (pc := 50) dX11_candles_50 ic_0 ?_
        refine J.istore (pc := 51) ([(5, .int (0 : Int32)), (4, .int (0 : Int32)), (0, .ref v0), (1, .int v1), (2, .int v2), (3, .int v3)]) dX11_candles_51 (Nat.le_of_ble_eq_true rfl) rfl ?_
        refine J.pick [2, 3, 4, 5, 1, 0] rfl ?_
        exact (tX11_candles_53 d fuel) v0 v1 v2 v3 (0 : Int32) (0 : Int32) μ13 h hN15 k0
    · refine J.zeq (pc := 20) (tgt := 37) dX11_candles_20 (by decide) (fun q => absurd q hc) (fun _ => ?_)
      refine J.iload_n (pc := 23) dX11_candles_23 rfl 3 rfl ?_
      refine J.iconst (pc := 24) dX11_candles_24 ic_0 ?_
      refine J.bipush (pc := 25) dX11_candles_25 ib_10 ?_
      refine J.callS (Y := mX11_candles) (Z := mX11_within) (pc := 27) (st := [.ref v0]) (k2 := 0) (n2 := 0) dX11_candles_27 ml_RX11_344 mo_X11_within ms_X11_within rfl (tX11_within (d + 4) v3 (0 : Int32) (10 : Int32) μ5 hN10 ) rfl rfl (Nat.le_of_ble_eq_true rfl) (by decide) (by decide) (fun v ν hp => ?_) (fun i ν hp => nrm hp.1)
      obtain ⟨rfl, rfl, hN18, hb19⟩ := QEl hp
      show J _ _ _ _ 30 _ ([.int (fX11_within v3 (0 : Int32) (10 : Int32)), .ref v0]) _ _ _ _
      rcases ifc h with ⟨hc, h⟩ | ⟨hc, h⟩
      · refine J.zeq (pc := 30) (tgt := 37) dX11_candles_30 (by decide) (fun _ => ?_) (fun q => absurd hc q)
        refine J.iconst (pc := 37) dX11_candles_37 ic_0 ?_
        refine J.iconst (pc := 38) dX11_candles_38 ic_2 ?_
        obtain ⟨⟨r22, μ21⟩, e20, h⟩ := bnd h
        try dsimp only at h
        refine J.callV (Y := mX11_candles) (Z := mX11_right) (pc := 39) (st := []) (k2 := 0) (n2 := 0) dX11_candles_39 ml_RX11_266 mo_X11_right mv_X11_right rfl (tX11_right (d + 4) e20 hN18 k0) k0 (okN hN18 k0 (by decide)).1 (okN hN18 k0 (by decide)).2 cq_11 (by decide) rfl rfl (Nat.le_of_ble_eq_true rfl) (by decide) (by decide) (fun v ν hp => ?_) (fun i ν hp => nrm hp.1)
        obtain ⟨rfl, rfl, hN23, hb24⟩ := QEl hp
        show J _ _ _ _ 42 _ ([.int r22]) _ _ _ _
        rcases ifc h with ⟨hc, h⟩ | ⟨hc, h⟩
        · refine J.zne (pc := 42) (tgt := 47) dX11_candles_42 (by decide) (fun _ => ?_) (fun q => absurd hc q)
          refine J.iconst (pc := 45) dX11_candles_45 ic_0 ?_
          cases h
          exact J.iret (pc := 46) dX11_candles_46 rfl ⟨rfl, rfl, hN23, trivial⟩
        · refine J.zne (pc := 42) (tgt := 47) dX11_candles_42 (by decide) (fun q => absurd q hc) (fun _ => ?_)
          refine J.iconst (pc := 47) dX11_candles_47 ic_0 ?_
          refine J.istore (pc := 48) ([(4, .int (0 : Int32)), (0, .ref v0), (1, .int v1), (2, .int v2), (3, .int v3)]) dX11_candles_48 (Nat.le_of_ble_eq_true rfl) rfl ?_
          refine J.iconst (pc := 50) dX11_candles_50 ic_0 ?_
          refine J.istore (pc := 51) ([(5, .int (0 : Int32)), (4, .int (0 : Int32)), (0, .ref v0), (1, .int v1), (2, .int v2), (3, .int v3)]) dX11_candles_51 (Nat.le_of_ble_eq_true rfl) rfl ?_
          refine J.pick [2, 3, 4, 5, 1, 0] rfl ?_
          exact (tX11_candles_53 d fuel) v0 v1 v2 v3 (0 : Int32) (0 : Int32) μ21 h hN23 k0
      · refine J.zeq (pc := 30) (tgt := 37) dX11_candles_30 (by decide) (fun q => absurd q hc) (fun _ => ?_)
        refine J.iconst (pc := 33) dX11_candles_33 ic_1 ?_
        refine J.goto (pc := 34) (tgt := 38) dX11_candles_34 (by decide) ?_
        refine J.iconst (pc := 38) dX11_candles_38 ic_2 ?_
        obtain ⟨⟨r27, μ26⟩, e25, h⟩ := bnd h
        try dsimp only at h
        refine J.callV (Y := mX11_candles) (Z := mX11_right) (pc := 39) (st := []) (k2 := 0) (n2 := 0) dX11_candles_39 ml_RX11_266 mo_X11_right mv_X11_right rfl (tX11_right (d + 4) e25 hN18 k0) k0 (okN hN18 k0 (by decide)).1 (okN hN18 k0 (by decide)).2 cq_11 (by decide) rfl rfl (Nat.le_of_ble_eq_true rfl) (by decide) (by decide) (fun v ν hp => ?_) (fun i ν hp => nrm hp.1)
        obtain ⟨rfl, rfl, hN28, hb29⟩ := QEl hp
        show J _ _ _ _ 42 _ ([.int r27]) _ _ _ _
        rcases ifc h with ⟨hc, h⟩ | ⟨hc, h⟩
        · refine J.zne (pc := 42) (tgt := 47) dX11_candles_42 (by decide) (fun _ => ?_) (fun q => absurd hc q)
          refine J.iconst (pc := 45) dX11_candles_45 ic_0 ?_
          cases h
          exact J.iret (pc := 46) dX11_candles_46 rfl ⟨rfl, rfl, hN28, trivial⟩
        · refine J.zne (pc := 42) (tgt := 47) dX11_candles_42 (by decide) (fun q => absurd q hc) (fun _ => ?_)
          refine J.iconst (pc := 47) dX11_candles_47 ic_0 ?_
          refine J.istore (pc := 48) ([(4, .int (0 : Int32)), (0, .ref v0), (1, .int v1), (2, .int v2), (3, .int v3)]) dX11_candles_48 (Nat.le_of_ble_eq_true rfl) rfl ?_
          refine J.iconst (pc := 50) dX11_candles_50 ic_0 ?_
          refine J.istore (pc := 51) ([(5, .int (0 : Int32)), (4, .int (0 : Int32)), (0, .ref v0), (1, .int v1), (2, .int v2), (3, .int v3)]) dX11_candles_51 (Nat.le_of_ble_eq_true rfl) rfl ?_
          refine J.pick [2, 3, 4, 5, 1, 0] rfl ?_
          exact (tX11_candles_53 d fuel) v0 v1 v2 v3 (0 : Int32) (0 : Int32) μ26 h hN28 k0
def fX11_copies_2  : Nat → Nat → Nat → Int32 → Mem → Option (Mem)
  | 0, _, _, _, _ => none
  | n + 1, v1, v2, v3, μ =>
    if v3 < (Int32.ofNat (kd v1).2) then
      (ldI μ v1 v3).bind fun x1 =>
      (stI μ v2 v3 x1).bind fun μ3 =>
      (fX11_copies_2 n) v1 v2 (v3 + (1 : Int32)) μ3
    else
      some μ
set_option maxHeartbeats 4000000 in
theorem tX11_copies_2 {ω : Wd} {l : Launch} (d : Nat) {res : Mem} : ∀ n : Nat, ∀ (v1 : Nat) (v2 : Nat) (v3 : Int32) (μ : Mem), fX11_copies_2 n v1 v2 v3 μ = some res → μ.1 = NN → (kd v1).1 = 0 → (kd v2).1 = 0 → J ω l mX11_copies d 2 [(1, .ref v1), (2, .ref v2), (3, .int v3)] [] μ 0 0 (PE (.inl none) res True) := by
  intro n
  induction n with
  | zero =>
    intro v1 v2 v3 μ h hN k1 k2
    have h9 : (none : Option (Mem)) = some res := h
    cases h9
  | succ n ih =>
    intro v1 v2 v3 μ h hN k1 k2
    unfold fX11_copies_2 at h
    refine J.iload_n (pc := 2) dX11_copies_2 rfl 2 rfl ?_
    refine J.aload_n (pc := 3) dX11_copies_3 rfl 0 rfl ?_
    refine J.len (pc := 4) dX11_copies_4 k1 (okN hN k1 (by decide)) ?_
    rcases ifc h with ⟨hc, h⟩ | ⟨hc, h⟩
    · refine J.cge (pc := 5) (tgt := 20) dX11_copies_5 (by decide) (fun _ => ?_) (fun q => absurd hc q)
      refine J.aload_n (pc := 8) dX11_copies_8 rfl 1 rfl ?_
      refine J.iload_n (pc := 9) dX11_copies_9 rfl 2 rfl ?_
      refine J.aload_n (pc := 10) dX11_copies_10 rfl 0 rfl ?_
      refine J.iload_n (pc := 11) dX11_copies_11 rfl 2 rfl ?_
      obtain ⟨x1, e2, h⟩ := bnd h
      refine J.aI (pc := 12) dX11_copies_12 k1 (okN hN k1 (by decide)) e2 ?_
      obtain ⟨μ3, e4, h⟩ := bnd h
      have hN5 : μ3.1 = NN := stI_N e4 hN
      refine J.wI (pc := 13) dX11_copies_13 k2 (okN hN k2 (by decide)) e4 ?_
      refine J.iinc (pc := 14) (j := 2) ([(3, .int (v3 + (1 : Int32))), (1, .ref v1), (2, .ref v2)]) dX11_copies_14 rfl (iincv ic_1) (Nat.le_of_ble_eq_true rfl) rfl ?_
      refine J.goto (pc := 17) (tgt := 2) dX11_copies_17 (by decide) ?_
      refine J.pick [1, 2, 0] rfl ?_
      exact ih v1 v2 (v3 + (1 : Int32)) μ3 h hN5 k1 k2
    · refine J.cge (pc := 5) (tgt := 20) dX11_copies_5 (by decide) (fun q => absurd q hc) (fun _ => ?_)
      cases h
      exact J.vret (pc := 20) dX11_copies_20 rfl ⟨rfl, rfl, hN, trivial⟩
def fX11_copies (v0 : Nat) (v1 : Nat) (v2 : Nat) (μ : Mem) : Option (Mem) :=
  (fX11_copies_2 fuel) v1 v2 (0 : Int32) μ
set_option maxHeartbeats 4000000 in
theorem tX11_copies {ω : Wd} {l : Launch} (d : Nat) {v0 : Nat} {v1 : Nat} {v2 : Nat} {μ : Mem} {res : Mem} (h : fX11_copies v0 v1 v2 μ = some res) (hN : μ.1 = NN) (k0 : (kd v0).1 = 21) (k1 : (kd v1).1 = 0) (k2 : (kd v2).1 = 0) : Ct ω l mX11_copies d [.ref v0, .ref v1, .ref v2] μ 0 0 (PE (.inl none) res True) := by
  refine Ct.of pn_RX11 (Nat.le_of_ble_eq_true rfl) ?_
  show J ω l mX11_copies d 0 [(0, .ref v0), (1, .ref v1), (2, .ref v2)] [] μ 0 0 _
  unfold fX11_copies at h
  refine J.iconst (pc := 0) dX11_copies_0 ic_0 ?_
  refine J.istore_n (pc := 1) ([(3, .int (0 : Int32)), (0, .ref v0), (1, .ref v1), (2, .ref v2)]) dX11_copies_1 rfl (Nat.le_of_ble_eq_true rfl) rfl ?_
  refine J.pick [2, 3, 0] rfl ?_
  exact (tX11_copies_2 d fuel) v1 v2 (0 : Int32) μ h hN k1 k2
def fX11_isOpen (v0 : Int32) : Int32 :=
  if v0 < (14 : Int32) then
    (0 : Int32)
  else
    (1 : Int32)
set_option maxHeartbeats 4000000 in
theorem tX11_isOpen {ω : Wd} {l : Launch} (d : Nat) (v0 : Int32) (μ : Mem) (hN : μ.1 = NN) : Ct ω l mX11_isOpen d [.int v0] μ 0 0 (PE (.inl (some (.int (fX11_isOpen v0)))) μ (isB (fX11_isOpen v0))) := by
  refine Ct.of pn_RX11 (Nat.le_of_ble_eq_true rfl) ?_
  show J ω l mX11_isOpen d 0 [(0, .int v0)] [] μ 0 0 _
  generalize h : fX11_isOpen v0 = res
  unfold fX11_isOpen at h
  refine J.iload_n (pc := 0) dX11_isOpen_0 rfl 0 rfl ?_
  refine J.bipush (pc := 1) dX11_isOpen_1 ib_14 ?_
  rcases ifc h with ⟨hc, h⟩ | ⟨hc, h⟩
  · refine J.clt (pc := 3) (tgt := 10) dX11_isOpen_3 (by decide) (fun _ => ?_) (fun q => absurd hc q)
    refine J.iconst (pc := 10) dX11_isOpen_10 ic_0 ?_
    cases h
    exact J.zret (pc := 11) dX11_isOpen_11 rfl (narB (Or.inl rfl)) ⟨rfl, rfl, hN, (Or.inl rfl)⟩
  · refine J.clt (pc := 3) (tgt := 10) dX11_isOpen_3 (by decide) (fun q => absurd q hc) (fun _ => ?_)
    refine J.iconst (pc := 6) dX11_isOpen_6 ic_1 ?_
    refine J.goto (pc := 7) (tgt := 11) dX11_isOpen_7 (by decide) ?_
    cases h
    exact J.zret (pc := 11) dX11_isOpen_11 rfl (narB (Or.inr rfl)) ⟨rfl, rfl, hN, (Or.inr rfl)⟩
def fX11_puts (v0 : Nat) (v1 : Int32) (μ : Mem) : Option (Mem) :=
  (gR μ v0 31 0).bind fun a1 =>
  (stI μ a1 (μ.2.1 v0 24) v1).bind fun μ4 =>
  (some (sI μ4 v0 24 ((μ4.2.1 v0 24) + (1 : Int32)))).bind fun μ7 =>
  some μ7
set_option maxHeartbeats 4000000 in
theorem tX11_puts {ω : Wd} {l : Launch} (d : Nat) {v0 : Nat} {v1 : Int32} {μ : Mem} {res : Mem} (h : fX11_puts v0 v1 μ = some res) (hN : μ.1 = NN) (k0 : (kd v0).1 = 21) : Ct ω l mX11_puts d [.ref v0, .int v1] μ 0 0 (PE (.inl none) res True) := by
  refine Ct.of pn_RX11 (Nat.le_of_ble_eq_true rfl) ?_
  show J ω l mX11_puts d 0 [(0, .ref v0), (1, .int v1)] [] μ 0 0 _
  unfold fX11_puts at h
  refine J.aload_n (pc := 0) dX11_puts_0 rfl 0 rfl ?_
  obtain ⟨a1, e2, h⟩ := bnd h
  have k3 : (kd a1).1 = 0 := gR_k e2
  refine J.fR (pc := 1) dX11_puts_1 fl_RX11_38 k0 (okN hN k0 (by decide)) rfl e2 ?_
  refine J.aload_n (pc := 4) dX11_puts_4 rfl 0 rfl ?_
  refine J.fI (pc := 5) dX11_puts_5 fl_RX11_168 k0 (okN hN k0 (by decide)) (Or.inl rfl) ?_
  refine J.iload_n (pc := 8) dX11_puts_8 rfl 1 rfl ?_
  obtain ⟨μ4, e5, h⟩ := bnd h
  have hN6 : μ4.1 = NN := stI_N e5 hN
  refine J.wI (pc := 9) dX11_puts_9 k3 (okN hN k3 (by decide)) e5 ?_
  refine J.aload_n (pc := 10) dX11_puts_10 rfl 0 rfl ?_
  refine J.dup (pc := 11) dX11_puts_11 rfl ?_
  refine J.fI (pc := 12) dX11_puts_12 fl_RX11_168 k0 (okN hN6 k0 (by decide)) (Or.inl rfl) ?_
  refine J.iconst (pc := 15) dX11_puts_15 ic_1 ?_
  refine J.iadd (pc := 16) dX11_puts_16 ?_
  obtain ⟨μ7, e8, h⟩ := bnd h
  have hN9 : μ7.1 = NN := smN e8 hN6
  refine J.qI (pc := 17) dX11_puts_17 fl_RX11_168 k0 (okN hN6 k0 (by decide)) rfl rfl e8 ?_
  cases h
  exact J.vret (pc := 20) dX11_puts_20 rfl ⟨rfl, rfl, hN9, trivial⟩
def fX11_strength (v0 : Int32) : Int32 :=
  if v0 = (5 : Int32) then
    (1 : Int32)
  else
    if v0 = (4 : Int32) then
      (2 : Int32)
    else
      if v0 = (3 : Int32) then
        (3 : Int32)
      else
        if v0 = (6 : Int32) then
          (4 : Int32)
        else
          if v0 = (7 : Int32) then
            (4 : Int32)
          else
            if v0 = (8 : Int32) then
              (5 : Int32)
            else
              if v0 = (9 : Int32) then
                (5 : Int32)
              else
                (6 : Int32)
set_option maxHeartbeats 4000000 in
theorem tX11_strength {ω : Wd} {l : Launch} (d : Nat) (v0 : Int32) (μ : Mem) (hN : μ.1 = NN) : Ct ω l mX11_strength d [.int v0] μ 0 0 (PE (.inl (some (.int (fX11_strength v0)))) μ True) := by
  refine Ct.of pn_RX11 (Nat.le_of_ble_eq_true rfl) ?_
  show J ω l mX11_strength d 0 [(0, .int v0)] [] μ 0 0 _
  generalize h : fX11_strength v0 = res
  unfold fX11_strength at h
  refine J.iload_n (pc := 0) dX11_strength_0 rfl 0 rfl ?_
  refine J.iconst (pc := 1) dX11_strength_1 ic_5 ?_
  rcases ifc h with ⟨hc, h⟩ | ⟨hc, h⟩
  · refine J.cne (pc := 2) (tgt := 9) dX11_strength_2 (by decide) (fun _ => ?_) (fun q => absurd hc q)
    refine J.iconst (pc := 5) dX11_strength_5 ic_1 ?_
    refine J.goto (pc := 6) (tgt := 61) dX11_strength_6 (by decide) ?_
    cases h
    exact J.iret (pc := 61) dX11_strength_61 rfl ⟨rfl, rfl, hN, trivial⟩
  · refine J.cne (pc := 2) (tgt := 9) dX11_strength_2 (by decide) (fun q => absurd q hc) (fun _ => ?_)
    refine J.iload_n (pc := 9) dX11_strength_9 rfl 0 rfl ?_
    refine J.iconst (pc := 10) dX11_strength_10 ic_4 ?_
    rcases ifc h with ⟨hc, h⟩ | ⟨hc, h⟩
    · refine J.cne (pc := 11) (tgt := 18) dX11_strength_11 (by decide) (fun _ => ?_) (fun q => absurd hc q)
      refine J.iconst (pc := 14) dX11_strength_14 ic_2 ?_
      refine J.goto (pc := 15) (tgt := 61) dX11_strength_15 (by decide) ?_
      cases h
      exact J.iret (pc := 61) dX11_strength_61 rfl ⟨rfl, rfl, hN, trivial⟩
    · refine J.cne (pc := 11) (tgt := 18) dX11_strength_11 (by decide) (fun q => absurd q hc) (fun _ => ?_)
      refine J.iload_n (pc := 18) dX11_strength_18 rfl 0 rfl ?_
      refine J.iconst (pc := 19) dX11_strength_19 ic_3 ?_
      rcases ifc h with ⟨hc, h⟩ | ⟨hc, h⟩
      · refine J.cne (pc := 20) (tgt := 27) dX11_strength_20 (by decide) (fun _ => ?_) (fun q => absurd hc q)
        refine J.iconst (pc := 23) dX11_strength_23 ic_3 ?_
        refine J.goto (pc := 24) (tgt := 61) dX11_strength_24 (by decide) ?_
        cases h
        exact J.iret (pc := 61) dX11_strength_61 rfl ⟨rfl, rfl, hN, trivial⟩
      · refine J.cne (pc := 20) (tgt := 27) dX11_strength_20 (by decide) (fun q => absurd q hc) (fun _ => ?_)
        refine J.iload_n (pc := 27) dX11_strength_27 rfl 0 rfl ?_
        refine J.bipush (pc := 28) dX11_strength_28 ib_6 ?_
        rcases ifc h with ⟨hc, h⟩ | ⟨hc, h⟩
        · refine J.ceq (pc := 30) (tgt := 39) dX11_strength_30 (by decide) (fun _ => ?_) (fun q => absurd hc q)
          refine J.iconst (pc := 39) dX11_strength_39 ic_4 ?_
          refine J.goto (pc := 40) (tgt := 61) dX11_strength_40 (by decide) ?_
          cases h
          exact J.iret (pc := 61) dX11_strength_61 rfl ⟨rfl, rfl, hN, trivial⟩
        · refine J.ceq (pc := 30) (tgt := 39) dX11_strength_30 (by decide) (fun q => absurd q hc) (fun _ => ?_)
          refine J.iload_n (pc := 33) dX11_strength_33 rfl 0 rfl ?_
          refine J.bipush (pc := 34) dX11_strength_34 ib_7 ?_
          rcases ifc h with ⟨hc, h⟩ | ⟨hc, h⟩
          · refine J.cne (pc := 36) (tgt := 43) dX11_strength_36 (by decide) (fun _ => ?_) (fun q => absurd hc q)
            refine J.iconst (pc := 39) dX11_strength_39 ic_4 ?_
            refine J.goto (pc := 40) (tgt := 61) dX11_strength_40 (by decide) ?_
            cases h
            exact J.iret (pc := 61) dX11_strength_61 rfl ⟨rfl, rfl, hN, trivial⟩
          · refine J.cne (pc := 36) (tgt := 43) dX11_strength_36 (by decide) (fun q => absurd q hc) (fun _ => ?_)
            refine J.iload_n (pc := 43) dX11_strength_43 rfl 0 rfl ?_
            refine J.bipush (pc := 44) dX11_strength_44 ib_8 ?_
            rcases ifc h with ⟨hc, h⟩ | ⟨hc, h⟩
            · refine J.ceq (pc := 46) (tgt := 55) dX11_strength_46 (by decide) (fun _ => ?_) (fun q => absurd hc q)
              refine J.iconst (pc := 55) dX11_strength_55 ic_5 ?_
              refine J.goto (pc := 56) (tgt := 61) dX11_strength_56 (by decide) ?_
              cases h
              exact J.iret (pc := 61) dX11_strength_61 rfl ⟨rfl, rfl, hN, trivial⟩
            · refine J.ceq (pc := 46) (tgt := 55) dX11_strength_46 (by decide) (fun q => absurd q hc) (fun _ => ?_)
              refine J.iload_n (pc := 49) dX11_strength_49 rfl 0 rfl ?_
              refine J.bipush (pc := 50) dX11_strength_50 ib_9 ?_
              rcases ifc h with ⟨hc, h⟩ | ⟨hc, h⟩
              · refine J.cne (pc := 52) (tgt := 59) dX11_strength_52 (by decide) (fun _ => ?_) (fun q => absurd hc q)
                refine J.iconst (pc := 55) dX11_strength_55 ic_5 ?_
                refine J.goto (pc := 56) (tgt := 61) dX11_strength_56 (by decide) ?_
                cases h
                exact J.iret (pc := 61) dX11_strength_61 rfl ⟨rfl, rfl, hN, trivial⟩
              · refine J.cne (pc := 52) (tgt := 59) dX11_strength_52 (by decide) (fun q => absurd q hc) (fun _ => ?_)
                refine J.bipush (pc := 59) dX11_strength_59 ib_6 ?_
                cases h
                exact J.iret (pc := 61) dX11_strength_61 rfl ⟨rfl, rfl, hN, trivial⟩
def fX11_drops_0  : Nat → Nat → Int32 → Mem → Option (Mem)
  | 0, _, _, _ => none
  | n + 1, v0, v1, μ =>
    if 0 < (μ.2.1 v0 27) then
      (gR μ v0 32 0).bind fun a1 =>
      (ldI μ a1 ((μ.2.1 v0 27) - (1 : Int32))).bind fun x4 =>
      if (fX11_isOpen x4) = 0 then
        (gR μ v0 32 0).bind fun a9 =>
        (ldI μ a9 ((μ.2.1 v0 27) - (1 : Int32))).bind fun x12 =>
        if (fX11_strength x12) < v1 then
          some μ
        else
          (some (sI μ v0 27 ((μ.2.1 v0 27) - (1 : Int32)))).bind fun μ17 =>
          (gR μ17 v0 32 0).bind fun a20 =>
          (ldI μ17 a20 (μ17.2.1 v0 27)).bind fun x23 =>
          (fX11_puts v0 x23 μ17).bind fun μ26 =>
          (fX11_drops_0 n) v0 v1 μ26
      else
        some μ
    else
      some μ
set_option maxHeartbeats 4000000 in
theorem tX11_drops_0 {ω : Wd} {l : Launch} (d : Nat) {res : Mem} : ∀ n : Nat, ∀ (v0 : Nat) (v1 : Int32) (μ : Mem), fX11_drops_0 n v0 v1 μ = some res → μ.1 = NN → (kd v0).1 = 21 → J ω l mX11_drops (d + 1) 0 [(0, .ref v0), (1, .int v1)] [] μ 0 0 (PE (.inl none) res True) := by
  intro n
  induction n with
  | zero =>
    intro v0 v1 μ h hN k0
    have h9 : (none : Option (Mem)) = some res := h
    cases h9
  | succ n ih =>
    intro v0 v1 μ h hN k0
    unfold fX11_drops_0 at h
    refine J.aload_n (pc := 0) dX11_drops_0 rfl 0 rfl ?_
    refine J.fI (pc := 1) dX11_drops_1 fl_RX11_171 k0 (okN hN k0 (by decide)) (Or.inl rfl) ?_
    rcases ifc h with ⟨hc, h⟩ | ⟨hc, h⟩
    · refine J.zle (pc := 4) (tgt := 68) dX11_drops_4 (by decide) (fun _ => ?_) (fun q => absurd hc q)
      refine J.aload_n (pc := 7) dX11_drops_7 rfl 0 rfl ?_
      obtain ⟨a1, e2, h⟩ := bnd h
      have k3 : (kd a1).1 = 0 := gR_k e2
      refine J.fR (pc := 8) dX11_drops_8 fl_RX11_41 k0 (okN hN k0 (by decide)) rfl e2 ?_
      refine J.aload_n (pc := 11) dX11_drops_11 rfl 0 rfl ?_
      refine J.fI (pc := 12) dX11_drops_12 fl_RX11_171 k0 (okN hN k0 (by decide)) (Or.inl rfl) ?_
      refine J.iconst (pc := 15) dX11_drops_15 ic_1 ?_
      refine J.isub (pc := 16) dX11_drops_16 ?_
      obtain ⟨x4, e5, h⟩ := bnd h
      refine J.aI (pc := 17) dX11_drops_17 k3 (okN hN k3 (by decide)) e5 ?_
      refine J.callS (Y := mX11_drops) (Z := mX11_isOpen) (pc := 18) (st := []) (k2 := 0) (n2 := 0) dX11_drops_18 ml_RX11_174 mo_X11_isOpen ms_X11_isOpen rfl (tX11_isOpen d x4 μ hN ) rfl rfl (Nat.le_of_ble_eq_true rfl) (by decide) (by decide) (fun v ν hp => ?_) (fun i ν hp => nrm hp.1)
      obtain ⟨rfl, rfl, hN7, hb8⟩ := QEl hp
      show J _ _ _ _ 21 _ ([.int (fX11_isOpen x4)]) _ _ _ _
      rcases ifc h with ⟨hc, h⟩ | ⟨hc, h⟩
      · refine J.zne (pc := 21) (tgt := 68) dX11_drops_21 (by decide) (fun _ => ?_) (fun q => absurd hc q)
        refine J.aload_n (pc := 24) dX11_drops_24 rfl 0 rfl ?_
        obtain ⟨a9, e10, h⟩ := bnd h
        have k11 : (kd a9).1 = 0 := gR_k e10
        refine J.fR (pc := 25) dX11_drops_25 fl_RX11_41 k0 (okN hN7 k0 (by decide)) rfl e10 ?_
        refine J.aload_n (pc := 28) dX11_drops_28 rfl 0 rfl ?_
        refine J.fI (pc := 29) dX11_drops_29 fl_RX11_171 k0 (okN hN7 k0 (by decide)) (Or.inl rfl) ?_
        refine J.iconst (pc := 32) dX11_drops_32 ic_1 ?_
        refine J.isub (pc := 33) dX11_drops_33 ?_
        obtain ⟨x12, e13, h⟩ := bnd h
        refine J.aI (pc := 34) dX11_drops_34 k11 (okN hN7 k11 (by decide)) e13 ?_
        refine J.callS (Y := mX11_drops) (Z := mX11_strength) (pc := 35) (st := []) (k2 := 0) (n2 := 0) dX11_drops_35 ml_RX11_177 mo_X11_strength ms_X11_strength rfl (tX11_strength d x12 μ hN7 ) rfl rfl (Nat.le_of_ble_eq_true rfl) (by decide) (by decide) (fun v ν hp => ?_) (fun i ν hp => nrm hp.1)
        obtain ⟨rfl, rfl, hN15, hb16⟩ := QEl hp
        show J _ _ _ _ 38 _ ([.int (fX11_strength x12)]) _ _ _ _
        refine J.iload_n (pc := 38) dX11_drops_38 rfl 1 rfl ?_
        rcases ifc h with ⟨hc, h⟩ | ⟨hc, h⟩
        · refine J.clt (pc := 39) (tgt := 68) dX11_drops_39 (by decide) (fun _ => ?_) (fun q => absurd hc q)
          cases h
          exact J.vret (pc := 68) dX11_drops_68 rfl ⟨rfl, rfl, hN15, trivial⟩
        · refine J.clt (pc := 39) (tgt := 68) dX11_drops_39 (by decide) (fun q => absurd q hc) (fun _ => ?_)
          refine J.aload_n (pc := 42) dX11_drops_42 rfl 0 rfl ?_
          refine J.dup (pc := 43) dX11_drops_43 rfl ?_
          refine J.fI (pc := 44) dX11_drops_44 fl_RX11_171 k0 (okN hN15 k0 (by decide)) (Or.inl rfl) ?_
          refine J.iconst (pc := 47) dX11_drops_47 ic_1 ?_
          refine J.isub (pc := 48) dX11_drops_48 ?_
          obtain ⟨μ17, e18, h⟩ := bnd h
          have hN19 : μ17.1 = NN := smN e18 hN15
          refine J.qI (pc := 49) dX11_drops_49 fl_RX11_171 k0 (okN hN15 k0 (by decide)) rfl rfl e18 ?_
          refine J.aload_n (pc := 52) dX11_drops_52 rfl 0 rfl ?_
          refine J.aload_n (pc := 53) dX11_drops_53 rfl 0 rfl ?_
          obtain ⟨a20, e21, h⟩ := bnd h
          have k22 : (kd a20).1 = 0 := gR_k e21
          refine J.fR (pc := 54) dX11_drops_54 fl_RX11_41 k0 (okN hN19 k0 (by decide)) rfl e21 ?_
          refine J.aload_n (pc := 57) dX11_drops_57 rfl 0 rfl ?_
          refine J.fI (pc := 58) dX11_drops_58 fl_RX11_171 k0 (okN hN19 k0 (by decide)) (Or.inl rfl) ?_
          obtain ⟨x23, e24, h⟩ := bnd h
          refine J.aI (pc := 61) dX11_drops_61 k22 (okN hN19 k22 (by decide)) e24 ?_
          obtain ⟨μ26, e25, h⟩ := bnd h
          refine J.callV (Y := mX11_drops) (Z := mX11_puts) (pc := 62) (st := []) (k2 := 0) (n2 := 0) dX11_drops_62 ml_RX11_180 mo_X11_puts mv_X11_puts rfl (tX11_puts d e25 hN19 k0) k0 (okN hN19 k0 (by decide)).1 (okN hN19 k0 (by decide)).2 cq_11 (by decide) rfl rfl (Nat.le_of_ble_eq_true rfl) (by decide) (by decide) (fun v ν hp => ?_) (fun i ν hp => nrm hp.1)
          obtain ⟨rfl, rfl, hN27, hb28⟩ := QEl hp
          show J _ _ _ _ 65 _ ([]) _ _ _ _
          refine J.goto (pc := 65) (tgt := 0) dX11_drops_65 (by decide) ?_
          exact ih v0 v1 μ26 h hN27 k0
      · refine J.zne (pc := 21) (tgt := 68) dX11_drops_21 (by decide) (fun q => absurd q hc) (fun _ => ?_)
        cases h
        exact J.vret (pc := 68) dX11_drops_68 rfl ⟨rfl, rfl, hN7, trivial⟩
    · refine J.zle (pc := 4) (tgt := 68) dX11_drops_4 (by decide) (fun q => absurd q hc) (fun _ => ?_)
      cases h
      exact J.vret (pc := 68) dX11_drops_68 rfl ⟨rfl, rfl, hN, trivial⟩
def fX11_drops (v0 : Nat) (v1 : Int32) (μ : Mem) : Option (Mem) :=
  (fX11_drops_0 fuel) v0 v1 μ
set_option maxHeartbeats 4000000 in
theorem tX11_drops {ω : Wd} {l : Launch} (d : Nat) {v0 : Nat} {v1 : Int32} {μ : Mem} {res : Mem} (h : fX11_drops v0 v1 μ = some res) (hN : μ.1 = NN) (k0 : (kd v0).1 = 21) : Ct ω l mX11_drops (d + 1) [.ref v0, .int v1] μ 0 0 (PE (.inl none) res True) := by
  refine Ct.of pn_RX11 (Nat.le_of_ble_eq_true rfl) ?_
  show J ω l mX11_drops (d + 1) 0 [(0, .ref v0), (1, .int v1)] [] μ 0 0 _
  unfold fX11_drops at h
  exact (tX11_drops_0 d fuel) v0 v1 μ h hN k0
