def fX4_many (v0 : Nat) (μ : Mem) : Option (Int32) :=
  (gR μ v0 2 3).bind fun a1 =>
  (ldR μ a1 (0 : Int32) 0).bind fun a4 =>
  (ldI μ a4 (0 : Int32)).bind fun x7 =>
  some (((x7 + (1000 : Int32)) - (1 : Int32)) / (1000 : Int32))
set_option maxHeartbeats 4000000 in
theorem tX4_many {ω : Wd} {l : Launch} (d : Nat) {v0 : Nat} {μ : Mem} {res : Int32} (h : fX4_many v0 μ = some res) (hN : μ.1 = NN) (k0 : (kd v0).1 = 14) : Ct ω l mX4_many d [.ref v0] μ 0 0 (PE (.inl (some (.int res))) μ True) := by
  refine Ct.of pn_RX4 (Nat.le_of_ble_eq_true rfl) ?_
  show J ω l mX4_many d 0 [(0, .ref v0)] [] μ 0 0 _
  unfold fX4_many at h
  refine J.aload_n (pc := 0) dX4_many_0 rfl 0 rfl ?_
  obtain ⟨a1, e2, h⟩ := bnd h
  have k3 : (kd a1).1 = 3 := gR_k e2
  refine J.fR (pc := 1) dX4_many_1 fl_RX4_20 k0 (okN hN k0 (by decide)) rfl e2 ?_
  refine J.iconst (pc := 4) dX4_many_4 ic_0 ?_
  obtain ⟨a4, e5, h⟩ := bnd h
  have k6 : (kd a4).1 = 0 := ldR_k e5
  refine J.aR (pc := 5) dX4_many_5 (Or.inl k3) (okN hN k3 (by decide)) e5 ?_
  refine J.iconst (pc := 6) dX4_many_6 ic_0 ?_
  obtain ⟨x7, e8, h⟩ := bnd h
  refine J.aI (pc := 7) dX4_many_7 k6 (okN hN k6 (by decide)) e8 ?_
  refine J.sipush (pc := 8) dX4_many_8 is_1000 ?_
  refine J.iadd (pc := 11) dX4_many_11 ?_
  refine J.iconst (pc := 12) dX4_many_12 ic_1 ?_
  refine J.isub (pc := 13) dX4_many_13 ?_
  refine J.sipush (pc := 14) dX4_many_14 is_1000 ?_
  refine J.idiv (pc := 17) dX4_many_17 (by decide) ?_
  cases h
  exact J.iret (pc := 18) dX4_many_18 rfl ⟨rfl, rfl, hN, trivial⟩
def fX4_farInAll (v0 : Nat) (μ : Mem) : Option (Int32) :=
  (fX4_many v0 μ).bind fun r2 =>
  (gR μ v0 2 3).bind fun a5 =>
  (ldR μ a5 (0 : Int32) 0).bind fun a8 =>
  (ldI μ a8 (0 : Int32)).bind fun x11 =>
  some ((r2 * (1000 : Int32)) - x11)
set_option maxHeartbeats 4000000 in
theorem tX4_farInAll {ω : Wd} {l : Launch} (d : Nat) {v0 : Nat} {μ : Mem} {res : Int32} (h : fX4_farInAll v0 μ = some res) (hN : μ.1 = NN) (k0 : (kd v0).1 = 14) : Ct ω l mX4_farInAll (d + 1) [.ref v0] μ 0 0 (PE (.inl (some (.int res))) μ True) := by
  refine Ct.of pn_RX4 (Nat.le_of_ble_eq_true rfl) ?_
  show J ω l mX4_farInAll (d + 1) 0 [(0, .ref v0)] [] μ 0 0 _
  unfold fX4_farInAll at h
  refine J.aload_n (pc := 0) dX4_farInAll_0 rfl 0 rfl ?_
  obtain ⟨r2, e1, h⟩ := bnd h
  refine J.callV (Y := mX4_farInAll) (Z := mX4_many) (pc := 1) (st := []) (k2 := 0) (n2 := 0) dX4_farInAll_1 ml_RX4_56 mo_X4_many mv_X4_many rfl (tX4_many d e1 hN k0) k0 (okN hN k0 (by decide)).1 (okN hN k0 (by decide)).2 cq_4 (by decide) rfl rfl (Nat.le_of_ble_eq_true rfl) (by decide) (by decide) (fun v ν hp => ?_) (fun i ν hp => nrm hp.1)
  obtain ⟨rfl, rfl, hN3, hb4⟩ := QEl hp
  show J _ _ _ _ 4 _ ([.int r2]) _ _ _ _
  refine J.sipush (pc := 4) dX4_farInAll_4 is_1000 ?_
  refine J.imul (pc := 7) dX4_farInAll_7 ?_
  refine J.aload_n (pc := 8) dX4_farInAll_8 rfl 0 rfl ?_
  obtain ⟨a5, e6, h⟩ := bnd h
  have k7 : (kd a5).1 = 3 := gR_k e6
  refine J.fR (pc := 9) dX4_farInAll_9 fl_RX4_20 k0 (okN hN3 k0 (by decide)) rfl e6 ?_
  refine J.iconst (pc := 12) dX4_farInAll_12 ic_0 ?_
  obtain ⟨a8, e9, h⟩ := bnd h
  have k10 : (kd a8).1 = 0 := ldR_k e9
  refine J.aR (pc := 13) dX4_farInAll_13 (Or.inl k7) (okN hN3 k7 (by decide)) e9 ?_
  refine J.iconst (pc := 14) dX4_farInAll_14 ic_0 ?_
  obtain ⟨x11, e12, h⟩ := bnd h
  refine J.aI (pc := 15) dX4_farInAll_15 k10 (okN hN3 k10 (by decide)) e12 ?_
  refine J.isub (pc := 16) dX4_farInAll_16 ?_
  cases h
  exact J.iret (pc := 17) dX4_farInAll_17 rfl ⟨rfl, rfl, hN3, trivial⟩
def fX10_errands (v0 : Nat) (v1 : Int32) (μ : Mem) : Option ((Int32 ⊕ Nat) × Mem) :=
  (fX10_needWhat v0 v1 (2 : Int32)).bind fun
  | .inl _ =>
    (gR μ v0 16 14).bind fun a4 =>
    (fX10_here v0 μ).bind fun (a9, μ8) =>
    (gR μ8 v0 7 19).bind fun a12 =>
    (gR μ8 v0 4 11).bind fun a15 =>
    (fX4_weigh a4 a9 a12 (μ8.2.1 a15 1) μ8).bind fun μ19 =>
    if v1 = 0 then
      (gR μ19 v0 16 14).bind fun a22 =>
      (fX4_many a22 μ19).bind fun r26 =>
      some (.inl r26, μ19)
    else
      (gR μ19 v0 16 14).bind fun a29 =>
      (fX4_farInAll a29 μ19).bind fun r33 =>
      some (.inl r33, μ19)
  | .inr i36 =>
    some (.inr i36, μ)
set_option maxHeartbeats 4000000 in
theorem tX10_errands {ω : Wd} {l : Launch} (d : Nat) {v0 : Nat} {v1 : Int32} {μ : Mem} {res : (Int32 ⊕ Nat) × Mem} (h : fX10_errands v0 v1 μ = some res) (hN : μ.1 = NN) (k0 : (kd v0).1 = 20) : Ct ω l mX10_errands (d + 9) [.ref v0, .int v1] μ 1 6 (PE (oI res.1) res.2 True) := by
  refine Ct.of pn_RX10 (Nat.le_of_ble_eq_true rfl) ?_
  show J ω l mX10_errands (d + 9) 0 [(0, .ref v0), (1, .int v1)] [] μ 1 6 _
  unfold fX10_errands at h
  refine J.aload_n (pc := 0) dX10_errands_0 rfl 0 rfl ?_
  refine J.iload_n (pc := 1) dX10_errands_1 rfl 1 rfl ?_
  refine J.iconst (pc := 2) dX10_errands_2 ic_2 ?_
  obtain ⟨q, e1, h⟩ := bnd h
  rcases q with u | i36
  · try dsimp only at h
    refine J.callV (Y := mX10_errands) (Z := mX10_needWhat) (pc := 3) (st := []) (k2 := 0) (n2 := 0) dX10_errands_3 ml_RX10_140 mo_X10_needWhat mv_X10_needWhat rfl (tX10_needWhat d e1 hN k0) k0 (okN hN k0 (by decide)).1 (okN hN k0 (by decide)).2 cq_10 (by decide) rfl rfl (Nat.le_of_ble_eq_true rfl) (by decide) (by decide) (fun v ν hp => ?_) (fun i ν hp => nrm hp.1)
    obtain ⟨rfl, rfl, hN2, hb3⟩ := QEl hp
    show J _ _ _ _ 6 _ ([]) _ _ _ _
    refine J.aload_n (pc := 6) dX10_errands_6 rfl 0 rfl ?_
    obtain ⟨a4, e5, h⟩ := bnd h
    have k6 : (kd a4).1 = 14 := gR_k e5
    refine J.fR (pc := 7) dX10_errands_7 fl_RX10_93 k0 (okN hN2 k0 (by decide)) rfl e5 ?_
    refine J.aload_n (pc := 10) dX10_errands_10 rfl 0 rfl ?_
    obtain ⟨⟨a9, μ8⟩, e7, h⟩ := bnd h
    try dsimp only at h
    refine J.callV (Y := mX10_errands) (Z := mX10_here) (pc := 11) (st := [.ref a4]) (k2 := 0) (n2 := 0) dX10_errands_11 ml_RX10_153 mo_X10_here mv_X10_here rfl (tX10_here (d + 7) e7 hN2 k0) k0 (okN hN2 k0 (by decide)).1 (okN hN2 k0 (by decide)).2 cq_10 (by decide) rfl rfl (Nat.le_of_ble_eq_true rfl) (by decide) (by decide) (fun v ν hp => ?_) (fun i ν hp => nrm hp.1)
    obtain ⟨rfl, rfl, hN10, hb11⟩ := QEl hp
    show J _ _ _ _ 14 _ ([.ref a9, .ref a4]) _ _ _ _
    refine J.aload_n (pc := 14) dX10_errands_14 rfl 0 rfl ?_
    obtain ⟨a12, e13, h⟩ := bnd h
    have k14 : (kd a12).1 = 19 := gR_k e13
    refine J.fR (pc := 15) dX10_errands_15 fl_RX10_45 k0 (okN hN10 k0 (by decide)) rfl e13 ?_
    refine J.aload_n (pc := 18) dX10_errands_18 rfl 0 rfl ?_
    obtain ⟨a15, e16, h⟩ := bnd h
    have k17 : (kd a15).1 = 11 := gR_k e16
    refine J.fR (pc := 19) dX10_errands_19 fl_RX10_26 k0 (okN hN10 k0 (by decide)) rfl e16 ?_
    refine J.fI (pc := 22) dX10_errands_22 fl_RX10_147 k17 (okN hN10 k17 (by decide)) (Or.inl rfl) ?_
    obtain ⟨μ19, e18, h⟩ := bnd h
    refine J.callV (Y := mX10_errands) (Z := mX4_weigh) (pc := 25) (st := []) (k2 := 0) (n2 := 0) dX10_errands_25 ml_RX10_322 mo_X4_weigh mv_X4_weigh rfl (tX4_weigh (d + 6) e18 hN10 k6 hb11 k14) k6 (okN hN10 k6 (by decide)).1 (okN hN10 k6 (by decide)).2 cq_4 (by decide) rfl rfl (Nat.le_of_ble_eq_true rfl) (by decide) (by decide) (fun v ν hp => ?_) (fun i ν hp => nrm hp.1)
    obtain ⟨rfl, rfl, hN20, hb21⟩ := QEl hp
    show J _ _ _ _ 28 _ ([]) _ _ _ _
    refine J.iload_n (pc := 28) dX10_errands_28 rfl 1 rfl ?_
    rcases ifc h with ⟨hc, h⟩ | ⟨hc, h⟩
    · refine J.zne (pc := 29) (tgt := 42) dX10_errands_29 (by decide) (fun _ => ?_) (fun q => absurd hc q)
      refine J.aload_n (pc := 32) dX10_errands_32 rfl 0 rfl ?_
      obtain ⟨a22, e23, h⟩ := bnd h
      have k24 : (kd a22).1 = 14 := gR_k e23
      refine J.fR (pc := 33) dX10_errands_33 fl_RX10_93 k0 (okN hN20 k0 (by decide)) rfl e23 ?_
      obtain ⟨r26, e25, h⟩ := bnd h
      refine J.callV (Y := mX10_errands) (Z := mX4_many) (pc := 36) (st := []) (k2 := 0) (n2 := 0) dX10_errands_36 ml_RX10_326 mo_X4_many mv_X4_many rfl (tX4_many (d + 8) e25 hN20 k24) k24 (okN hN20 k24 (by decide)).1 (okN hN20 k24 (by decide)).2 cq_4 (by decide) rfl rfl (Nat.le_of_ble_eq_true rfl) (by decide) (by decide) (fun v ν hp => ?_) (fun i ν hp => nrm hp.1)
      obtain ⟨rfl, rfl, hN27, hb28⟩ := QEl hp
      show J _ _ _ _ 39 _ ([.int r26]) _ _ _ _
      refine J.goto (pc := 39) (tgt := 49) dX10_errands_39 (by decide) ?_
      cases h
      exact J.iret (pc := 49) dX10_errands_49 rfl ⟨rfl, rfl, hN27, trivial⟩
    · refine J.zne (pc := 29) (tgt := 42) dX10_errands_29 (by decide) (fun q => absurd q hc) (fun _ => ?_)
      refine J.aload_n (pc := 42) dX10_errands_42 rfl 0 rfl ?_
      obtain ⟨a29, e30, h⟩ := bnd h
      have k31 : (kd a29).1 = 14 := gR_k e30
      refine J.fR (pc := 43) dX10_errands_43 fl_RX10_93 k0 (okN hN20 k0 (by decide)) rfl e30 ?_
      obtain ⟨r33, e32, h⟩ := bnd h
      refine J.callV (Y := mX10_errands) (Z := mX4_farInAll) (pc := 46) (st := []) (k2 := 0) (n2 := 0) dX10_errands_46 ml_RX10_329 mo_X4_farInAll mv_X4_farInAll rfl (tX4_farInAll (d + 7) e32 hN20 k31) k31 (okN hN20 k31 (by decide)).1 (okN hN20 k31 (by decide)).2 cq_4 (by decide) rfl rfl (Nat.le_of_ble_eq_true rfl) (by decide) (by decide) (fun v ν hp => ?_) (fun i ν hp => nrm hp.1)
      obtain ⟨rfl, rfl, hN34, hb35⟩ := QEl hp
      show J _ _ _ _ 49 _ ([.int r33]) _ _ _ _
      cases h
      exact J.iret (pc := 49) dX10_errands_49 rfl ⟨rfl, rfl, hN34, trivial⟩
  · try dsimp only at h
    refine J.callV (Y := mX10_errands) (Z := mX10_needWhat) (pc := 3) (st := []) (k2 := 0) (n2 := 0) dX10_errands_3 ml_RX10_140 mo_X10_needWhat mv_X10_needWhat rfl (tX10_needWhat d e1 hN k0) k0 (okN hN k0 (by decide)).1 (okN hN k0 (by decide)).2 cq_10 (by decide) rfl rfl (Nat.le_of_ble_eq_true rfl) (by decide) (by decide) (fun v ν hp => nlm hp.1) (fun i ν hp => ?_)
    obtain ⟨rfl, rfl, hN9, -⟩ := QEr hp
    cases h
    exact JX.out rfl ⟨rfl, rfl, hN9, trivial⟩
def fL_errands (v0 : Nat) (v1 : Int32) (v2 : Nat) (μ : Mem) : Option (Int32 × Mem) :=
  (fX10_errands v0 v1 μ).bind fun
  | (.inl r3, μ2) =>
    (stL μ2 v2 (0 : Int32) (r3.toInt64)).bind fun μ6 =>
    some ((0 : Int32), μ6)
  | (.inr i9, μ2) =>
    if i9 = 0 then some ((1 : Int32), μ2) else
    none
set_option maxHeartbeats 4000000 in
theorem tL_errands {ω : Wd} {l : Launch} (d : Nat) {v0 : Nat} {v1 : Int32} {v2 : Nat} {μ : Mem} {res : Int32 × Mem} (h : fL_errands v0 v1 v2 μ = some res) (hN : μ.1 = NN) (k0 : (kd v0).1 = 20) (k2 : (kd v2).1 = 1) : Ct ω l mL_errands (d + 10) [.ref v0, .int v1, .ref v2] μ 1 6 (PE (.inl (some (.int res.1))) res.2 True) := by
  refine Ct.of pn_RL (Nat.le_of_ble_eq_true rfl) ?_
  show J ω l mL_errands (d + 10) 0 [(0, .ref v0), (1, .int v1), (2, .ref v2)] [] μ 1 6 _
  unfold fL_errands at h
  refine J.aload_n (pc := 0) dL_errands_0 rfl 2 rfl ?_
  refine J.iconst (pc := 1) dL_errands_1 ic_0 ?_
  refine J.aload_n (pc := 2) dL_errands_2 rfl 0 rfl ?_
  refine J.iload_n (pc := 3) dL_errands_3 rfl 1 rfl ?_
  obtain ⟨⟨q, μ2⟩, e1, h⟩ := bnd h
  rcases q with r3 | i9
  · try dsimp only at h
    refine J.callV (Y := mL_errands) (Z := mX10_errands) (pc := 4) (st := [.int (0 : Int32), .ref v2]) (k2 := 0) (n2 := 0) dL_errands_4 ml_RL_71 mo_X10_errands mv_X10_errands rfl (tX10_errands d e1 hN k0) k0 (okN hN k0 (by decide)).1 (okN hN k0 (by decide)).2 cq_10 (by decide) rfl rfl (Nat.le_of_ble_eq_true rfl) (by decide) (by decide) (fun v ν hp => ?_) (fun i ν hp => nrm hp.1)
    obtain ⟨rfl, rfl, hN4, hb5⟩ := QEl hp
    show J _ _ _ _ 7 _ ([.int r3, .int (0 : Int32), .ref v2]) _ _ _ _
    refine J.i2l (pc := 7) dL_errands_7 ?_
    obtain ⟨μ6, e7, h⟩ := bnd h
    have hN8 : μ6.1 = NN := stL_N e7 hN4
    refine J.wL (pc := 8) dL_errands_8 k2 (okN hN4 k2 (by decide)) e7 ?_
    refine J.goto (pc := 9) (tgt := 15) dL_errands_9 (by decide) ?_
    refine J.iconst (pc := 15) dL_errands_15 ic_0 ?_
    cases h
    exact J.iret (pc := 16) dL_errands_16 rfl ⟨rfl, rfl, hN8, trivial⟩
  · try dsimp only at h
    refine J.callV (Y := mL_errands) (Z := mX10_errands) (pc := 4) (st := [.int (0 : Int32), .ref v2]) (k2 := 0) (n2 := 0) dL_errands_4 ml_RL_71 mo_X10_errands mv_X10_errands rfl (tX10_errands d e1 hN k0) k0 (okN hN k0 (by decide)).1 (okN hN k0 (by decide)).2 cq_10 (by decide) rfl rfl (Nat.le_of_ble_eq_true rfl) (by decide) (by decide) (fun v ν hp => nlm hp.1) (fun i ν hp => ?_)
    obtain ⟨rfl, rfl, hN9, -⟩ := QEr hp
    rcases ifc h with ⟨hc, h⟩ | ⟨hc, h⟩
    · subst hc
      cases h
      exact JX.catch1 (i := 0) (by decide) rfl rfl (Nat.le_of_ble_eq_true rfl) (Nat.le_of_ble_eq_true rfl) (Or.inr ⟨3, Nat.le_of_ble_eq_true rfl, rfl, dL_errands_12⟩) dL_errands_13 ic_1 dL_errands_14 rfl ⟨rfl, rfl, hN9, trivial⟩
    cases h
def fX5_spread_15  : Nat → Nat → Int64 → Int32 → Mem → Option (Int32 × Mem)
  | 0, _, _, _, _ => none
  | n + 1, v0, v2, v4, μ =>
    if v4 < (48 : Int32) then
      (gR μ v0 3 1).bind fun a1 =>
      (ldL μ a1 v4).bind fun x4 =>
      if (((fX5_beside v0 x4 μ) &&& (μ.2.2.1 v0 1)) &&& (v2 ^^^ (-1 : Int64))) = (0 : Int64) then
        some (v4, μ)
      else
        (gR μ v0 3 1).bind fun a9 =>
        (stL μ a9 (v4 + (1 : Int32)) (((fX5_beside v0 x4 μ) &&& (μ.2.2.1 v0 1)) &&& (v2 ^^^ (-1 : Int64)))).bind fun μ12 =>
        (fX5_spread_15 n) v0 (v2 ||| (((fX5_beside v0 x4 μ) &&& (μ.2.2.1 v0 1)) &&& (v2 ^^^ (-1 : Int64)))) (v4 + (1 : Int32)) μ12
    else
      some ((48 : Int32), μ)
set_option maxHeartbeats 4000000 in
theorem tX5_spread_15 {ω : Wd} {l : Launch} (d : Nat) {res : Int32 × Mem} : ∀ n : Nat, ∀ (v0 : Nat) (v2 : Int64) (v4 : Int32) (μ : Mem), fX5_spread_15 n v0 v2 v4 μ = some res → μ.1 = NN → (kd v0).1 = 15 → J ω l mX5_spread (d + 1) 15 [(0, .ref v0), (2, .long v2), (4, .int v4)] [] μ 0 0 (PE (.inl (some (.int res.1))) res.2 True) := by
  intro n
  induction n with
  | zero =>
    intro v0 v2 v4 μ h hN k0
    have h9 : (none : Option (Int32 × Mem)) = some res := h
    cases h9
  | succ n ih =>
    intro v0 v2 v4 μ h hN k0
    unfold fX5_spread_15 at h
    refine J.iload (pc := 15) dX5_spread_15 2 rfl ?_
    refine J.bipush (pc := 17) dX5_spread_17 ib_48 ?_
    rcases ifc h with ⟨hc, h⟩ | ⟨hc, h⟩
    · refine J.cge (pc := 19) (tgt := 78) dX5_spread_19 (by decide) (fun _ => ?_) (fun q => absurd hc q)
      refine J.aload_n (pc := 22) dX5_spread_22 rfl 0 rfl ?_
      refine J.aload_n (pc := 23) dX5_spread_23 rfl 0 rfl ?_
      obtain ⟨a1, e2, h⟩ := bnd h
      have k3 : (kd a1).1 = 1 := gR_k e2
      refine J.fR (pc := 24) dX5_spread_24 fl_RX5_21 k0 (okN hN k0 (by decide)) rfl e2 ?_
      refine J.iload (pc := 27) dX5_spread_27 2 rfl ?_
      obtain ⟨x4, e5, h⟩ := bnd h
      refine J.aL (pc := 29) dX5_spread_29 k3 (okN hN k3 (by decide)) e5 ?_
      refine J.callV (Y := mX5_spread) (Z := mX5_beside) (pc := 30) (st := []) (k2 := 0) (n2 := 0) dX5_spread_30 ml_RX5_44 mo_X5_beside mv_X5_beside rfl (tX5_beside d v0 x4 μ hN k0) k0 (okN hN k0 (by decide)).1 (okN hN k0 (by decide)).2 cq_5 (by decide) rfl rfl (Nat.le_of_ble_eq_true rfl) (by decide) (by decide) (fun v ν hp => ?_) (fun i ν hp => nrm hp.1)
      obtain ⟨rfl, rfl, hN7, hb8⟩ := QEl hp
      show J _ _ _ _ 33 _ ([.long (fX5_beside v0 x4 μ)]) _ _ _ _
      refine J.aload_n (pc := 33) dX5_spread_33 rfl 0 rfl ?_
      refine J.fL (pc := 34) dX5_spread_34 fl_RX5_15 k0 (okN hN7 k0 (by decide)) rfl ?_
      refine J.land (pc := 37) dX5_spread_37 ?_
      refine J.lload_n (pc := 38) dX5_spread_38 rfl 1 rfl ?_
      refine J.ldc2 (pc := 39) dX5_spread_39 kl_RX5_48 ?_
      refine J.lxor (pc := 42) dX5_spread_42 ?_
      refine J.land (pc := 43) dX5_spread_43 ?_
      refine J.lstore (pc := 44) ([(5, .long (((fX5_beside v0 x4 μ) &&& (μ.2.2.1 v0 1)) &&& (v2 ^^^ (-1 : Int64)))), (0, .ref v0), (2, .long v2), (4, .int v4)]) dX5_spread_44 (Nat.le_of_ble_eq_true rfl) rfl ?_
      refine J.lload (pc := 46) dX5_spread_46 0 rfl ?_
      refine J.lconst (pc := 48) dX5_spread_48 lc_0 ?_
      rcases ifc h with ⟨hc, h⟩ | ⟨hc, h⟩
      · refine J.mne (pc := 49) (tgt := 56) dX5_spread_49 dX5_spread_50 (by decide) (fun _ => ?_) (fun q => absurd hc q)
        refine J.iload (pc := 53) dX5_spread_53 3 rfl ?_
        cases h
        exact J.iret (pc := 55) dX5_spread_55 rfl ⟨rfl, rfl, hN7, trivial⟩
      · refine J.mne (pc := 49) (tgt := 56) dX5_spread_49 dX5_spread_50 (by decide) (fun q => absurd q hc) (fun _ => ?_)
        refine J.aload_n (pc := 56) dX5_spread_56 rfl 1 rfl ?_
        obtain ⟨a9, e10, h⟩ := bnd h
        have k11 : (kd a9).1 = 1 := gR_k e10
        refine J.fR (pc := 57) dX5_spread_57 fl_RX5_21 k0 (okN hN7 k0 (by decide)) rfl e10 ?_
        refine J.iload (pc := 60) dX5_spread_60 3 rfl ?_
        refine J.iconst (pc := 62) dX5_spread_62 ic_1 ?_
        refine J.iadd (pc := 63) dX5_spread_63 ?_
        refine J.lload (pc := 64) dX5_spread_64 0 rfl ?_
        obtain ⟨μ12, e13, h⟩ := bnd h
        have hN14 : μ12.1 = NN := stL_N e13 hN7
        refine J.wL (pc := 66) dX5_spread_66 k11 (okN hN7 k11 (by decide)) e13 ?_
        refine J.lload_n (pc := 67) dX5_spread_67 rfl 2 rfl ?_
        refine J.lload (pc := 68) dX5_spread_68 0 rfl ?_
        refine J.lor (pc := 70) dX5_spread_70 ?_
        refine J.lstore_n (pc := 71) ([(2, .long (v2 ||| (((fX5_beside v0 x4 μ) &&& (μ.2.2.1 v0 1)) &&& (v2 ^^^ (-1 : Int64))))), (5, .long (((fX5_beside v0 x4 μ) &&& (μ.2.2.1 v0 1)) &&& (v2 ^^^ (-1 : Int64)))), (0, .ref v0), (4, .int v4)]) dX5_spread_71 rfl (Nat.le_of_ble_eq_true rfl) rfl ?_
        refine J.iinc (pc := 72) (j := 3) ([(4, .int (v4 + (1 : Int32))), (2, .long (v2 ||| (((fX5_beside v0 x4 μ) &&& (μ.2.2.1 v0 1)) &&& (v2 ^^^ (-1 : Int64))))), (5, .long (((fX5_beside v0 x4 μ) &&& (μ.2.2.1 v0 1)) &&& (v2 ^^^ (-1 : Int64)))), (0, .ref v0)]) dX5_spread_72 rfl (iincv ic_1) (Nat.le_of_ble_eq_true rfl) rfl ?_
        refine J.goto (pc := 75) (tgt := 15) dX5_spread_75 (by decide) ?_
        refine J.pick [3, 1, 0] rfl ?_
        exact ih v0 (v2 ||| (((fX5_beside v0 x4 μ) &&& (μ.2.2.1 v0 1)) &&& (v2 ^^^ (-1 : Int64)))) (v4 + (1 : Int32)) μ12 h hN14 k0
    · refine J.cge (pc := 19) (tgt := 78) dX5_spread_19 (by decide) (fun q => absurd q hc) (fun _ => ?_)
      refine J.bipush (pc := 78) dX5_spread_78 ib_48 ?_
      cases h
      exact J.iret (pc := 80) dX5_spread_80 rfl ⟨rfl, rfl, hN, trivial⟩
def fX5_spread (v0 : Nat) (v1 : Int32) (μ : Mem) : Option (Int32 × Mem) :=
  (gR μ v0 3 1).bind fun a4 =>
  (stL μ a4 (0 : Int32) (fX10_bit v1)).bind fun μ7 =>
  (fX5_spread_15 fuel) v0 (fX10_bit v1) (0 : Int32) μ7
set_option maxHeartbeats 4000000 in
theorem tX5_spread {ω : Wd} {l : Launch} (d : Nat) {v0 : Nat} {v1 : Int32} {μ : Mem} {res : Int32 × Mem} (h : fX5_spread v0 v1 μ = some res) (hN : μ.1 = NN) (k0 : (kd v0).1 = 15) : Ct ω l mX5_spread (d + 1) [.ref v0, .int v1] μ 0 0 (PE (.inl (some (.int res.1))) res.2 True) := by
  refine Ct.of pn_RX5 (Nat.le_of_ble_eq_true rfl) ?_
  show J ω l mX5_spread (d + 1) 0 [(0, .ref v0), (1, .int v1)] [] μ 0 0 _
  unfold fX5_spread at h
  refine J.iload_n (pc := 0) dX5_spread_0 rfl 1 rfl ?_
  refine J.callSN (Y := mX5_spread) (Z := mX10_bit) (pc := 1) (st := []) (k2 := 0) (n2 := 0) dX5_spread_1 ml_RX5_40 mo_X10_bit ms_X10_bit rfl (tX10_bit d v1 μ hN ) (fun i ν hp => nrm hp.1) rfl rfl (Nat.le_of_ble_eq_true rfl) (by decide) (by decide) (fun v ν hp => ?_)
  obtain ⟨rfl, rfl, hN2, hb3⟩ := QEl hp
  show J _ _ _ _ 4 _ ([.long (fX10_bit v1)]) _ _ _ _
  refine J.lstore_n (pc := 4) ([(2, .long (fX10_bit v1)), (0, .ref v0), (1, .int v1)]) dX5_spread_4 rfl (Nat.le_of_ble_eq_true rfl) rfl ?_
  refine J.aload_n (pc := 5) dX5_spread_5 rfl 1 rfl ?_
  obtain ⟨a4, e5, h⟩ := bnd h
  have k6 : (kd a4).1 = 1 := gR_k e5
  refine J.fR (pc := 6) dX5_spread_6 fl_RX5_21 k0 (okN hN2 k0 (by decide)) rfl e5 ?_
  refine J.iconst (pc := 9) dX5_spread_9 ic_0 ?_
  refine J.lload_n (pc := 10) dX5_spread_10 rfl 0 rfl ?_
  obtain ⟨μ7, e8, h⟩ := bnd h
  have hN9 : μ7.1 = NN := stL_N e8 hN2
  refine J.wL (pc := 11) dX5_spread_11 k6 (okN hN2 k6 (by decide)) e8 ?_
  refine J.iconst (pc := 12) dX5_spread_12 ic_0 ?_
  refine J.istore (pc := 13) ([(4, .int (0 : Int32)), (2, .long (fX10_bit v1)), (0, .ref v0), (1, .int v1)]) dX5_spread_13 (Nat.le_of_ble_eq_true rfl) rfl ?_
  refine J.pick [2, 1, 0] rfl ?_
  exact (tX5_spread_15 d fuel) v0 (fX10_bit v1) (0 : Int32) μ7 h hN9 k0
def fX10_farthest (v0 : Nat) (v1 : Int32) (v2 : Int32) (μ : Mem) : Option ((Int32 ⊕ Nat) × Mem) :=
  (fX10_inside v0 v1 μ).bind fun
  | .inl r2 =>
    (fX10_needWhat v0 v2 (2 : Int32)).bind fun
    | .inl _ =>
      (fX10_here v0 μ).bind fun (a10, μ9) =>
      (fX5_spread a10 r2 μ9).bind fun (r15, μ14) =>
      if v2 = 0 then
        (gR μ14 v0 15 15).bind fun a18 =>
        (gR μ14 a18 3 1).bind fun a21 =>
        (ldL μ14 a21 r15).bind fun x24 =>
        some (.inl (fX10_outside (fX10_lowest x24)), μ14)
      else
        some (.inl r15, μ14)
    | .inr i32 =>
      some (.inr i32, μ)
  | .inr i33 =>
    some (.inr i33, μ)
set_option maxHeartbeats 4000000 in
theorem tX10_farthest {ω : Wd} {l : Launch} (d : Nat) {v0 : Nat} {v1 : Int32} {v2 : Int32} {μ : Mem} {res : (Int32 ⊕ Nat) × Mem} (h : fX10_farthest v0 v1 v2 μ = some res) (hN : μ.1 = NN) (k0 : (kd v0).1 = 20) : Ct ω l mX10_farthest (d + 9) [.ref v0, .int v1, .int v2] μ 2 12 (PE (oI res.1) res.2 True) := by
  refine Ct.of pn_RX10 (Nat.le_of_ble_eq_true rfl) ?_
  show J ω l mX10_farthest (d + 9) 0 [(0, .ref v0), (1, .int v1), (2, .int v2)] [] μ 2 12 _
  unfold fX10_farthest at h
  refine J.aload_n (pc := 0) dX10_farthest_0 rfl 0 rfl ?_
  refine J.iload_n (pc := 1) dX10_farthest_1 rfl 1 rfl ?_
  obtain ⟨q, e1, h⟩ := bnd h
  rcases q with r2 | i33
  · try dsimp only at h
    refine J.callV (Y := mX10_farthest) (Z := mX10_inside) (pc := 2) (st := []) (k2 := 1) (n2 := 6) dX10_farthest_2 ml_RX10_233 mo_X10_inside mv_X10_inside rfl (tX10_inside d e1 hN k0) k0 (okN hN k0 (by decide)).1 (okN hN k0 (by decide)).2 cq_10 (by decide) rfl rfl (Nat.le_of_ble_eq_true rfl) (by decide) (by decide) (fun v ν hp => ?_) (fun i ν hp => nrm hp.1)
    obtain ⟨rfl, rfl, hN3, hb4⟩ := QEl hp
    show J _ _ _ _ 5 _ ([.int r2]) _ _ _ _
    refine J.istore_n (pc := 5) ([(3, .int r2), (0, .ref v0), (1, .int v1), (2, .int v2)]) dX10_farthest_5 rfl (Nat.le_of_ble_eq_true rfl) rfl ?_
    refine J.aload_n (pc := 6) dX10_farthest_6 rfl 1 rfl ?_
    refine J.iload_n (pc := 7) dX10_farthest_7 rfl 3 rfl ?_
    refine J.iconst (pc := 8) dX10_farthest_8 ic_2 ?_
    obtain ⟨q, e5, h⟩ := bnd h
    rcases q with u | i32
    · try dsimp only at h
      refine J.callV (Y := mX10_farthest) (Z := mX10_needWhat) (pc := 9) (st := []) (k2 := 0) (n2 := 0) dX10_farthest_9 ml_RX10_140 mo_X10_needWhat mv_X10_needWhat rfl (tX10_needWhat d e5 hN3 k0) k0 (okN hN3 k0 (by decide)).1 (okN hN3 k0 (by decide)).2 cq_10 (by decide) rfl rfl (Nat.le_of_ble_eq_true rfl) (by decide) (by decide) (fun v ν hp => ?_) (fun i ν hp => nrm hp.1)
      obtain ⟨rfl, rfl, hN6, hb7⟩ := QEl hp
      show J _ _ _ _ 12 _ ([]) _ _ _ _
      refine J.aload_n (pc := 12) dX10_farthest_12 rfl 1 rfl ?_
      obtain ⟨⟨a10, μ9⟩, e8, h⟩ := bnd h
      try dsimp only at h
      refine J.callV (Y := mX10_farthest) (Z := mX10_here) (pc := 13) (st := []) (k2 := 0) (n2 := 0) dX10_farthest_13 ml_RX10_153 mo_X10_here mv_X10_here rfl (tX10_here (d + 7) e8 hN6 k0) k0 (okN hN6 k0 (by decide)).1 (okN hN6 k0 (by decide)).2 cq_10 (by decide) rfl rfl (Nat.le_of_ble_eq_true rfl) (by decide) (by decide) (fun v ν hp => ?_) (fun i ν hp => nrm hp.1)
      obtain ⟨rfl, rfl, hN11, hb12⟩ := QEl hp
      show J _ _ _ _ 16 _ ([.ref a10]) _ _ _ _
      refine J.iload_n (pc := 16) dX10_farthest_16 rfl 0 rfl ?_
      obtain ⟨⟨r15, μ14⟩, e13, h⟩ := bnd h
      try dsimp only at h
      refine J.callV (Y := mX10_farthest) (Z := mX5_spread) (pc := 17) (st := []) (k2 := 0) (n2 := 0) dX10_farthest_17 ml_RX10_304 mo_X5_spread mv_X5_spread rfl (tX5_spread (d + 7) e13 hN11 hb12) hb12 (okN hN11 hb12 (by decide)).1 (okN hN11 hb12 (by decide)).2 cq_5 (by decide) rfl rfl (Nat.le_of_ble_eq_true rfl) (by decide) (by decide) (fun v ν hp => ?_) (fun i ν hp => nrm hp.1)
      obtain ⟨rfl, rfl, hN16, hb17⟩ := QEl hp
      show J _ _ _ _ 20 _ ([.int r15]) _ _ _ _
      refine J.istore (pc := 20) ([(4, .int r15), (3, .int r2), (0, .ref v0), (1, .int v1), (2, .int v2)]) dX10_farthest_20 (Nat.le_of_ble_eq_true rfl) rfl ?_
      refine J.iload_n (pc := 22) dX10_farthest_22 rfl 4 rfl ?_
      rcases ifc h with ⟨hc, h⟩ | ⟨hc, h⟩
      · refine J.zne (pc := 23) (tgt := 45) dX10_farthest_23 (by decide) (fun _ => ?_) (fun q => absurd hc q)
        refine J.aload_n (pc := 26) dX10_farthest_26 rfl 2 rfl ?_
        obtain ⟨a18, e19, h⟩ := bnd h
        have k20 : (kd a18).1 = 15 := gR_k e19
        refine J.fR (pc := 27) dX10_farthest_27 fl_RX10_86 k0 (okN hN16 k0 (by decide)) rfl e19 ?_
        obtain ⟨a21, e22, h⟩ := bnd h
        have k23 : (kd a21).1 = 1 := gR_k e22
        refine J.fR (pc := 30) dX10_farthest_30 fl_RX10_307 k20 (okN hN16 k20 (by decide)) rfl e22 ?_
        refine J.iload (pc := 33) dX10_farthest_33 0 rfl ?_
        obtain ⟨x24, e25, h⟩ := bnd h
        refine J.aL (pc := 35) dX10_farthest_35 k23 (okN hN16 k23 (by decide)) e25 ?_
        refine J.callS (Y := mX10_farthest) (Z := mX10_lowest) (pc := 36) (st := []) (k2 := 0) (n2 := 0) dX10_farthest_36 ml_RX10_310 mo_X10_lowest ms_X10_lowest rfl (tX10_lowest (d + 7) x24 μ14 hN16 ) rfl rfl (Nat.le_of_ble_eq_true rfl) (by decide) (by decide) (fun v ν hp => ?_) (fun i ν hp => nrm hp.1)
        obtain ⟨rfl, rfl, hN27, hb28⟩ := QEl hp
        show J _ _ _ _ 39 _ ([.int (fX10_lowest x24)]) _ _ _ _
        refine J.callS (Y := mX10_farthest) (Z := mX10_outside) (pc := 39) (st := []) (k2 := 0) (n2 := 0) dX10_farthest_39 ml_RX10_214 mo_X10_outside ms_X10_outside rfl (tX10_outside (d + 8) (fX10_lowest x24) μ14 hN27 ) rfl rfl (Nat.le_of_ble_eq_true rfl) (by decide) (by decide) (fun v ν hp => ?_) (fun i ν hp => nrm hp.1)
        obtain ⟨rfl, rfl, hN30, hb31⟩ := QEl hp
        show J _ _ _ _ 42 _ ([.int (fX10_outside (fX10_lowest x24))]) _ _ _ _
        refine J.goto (pc := 42) (tgt := 47) dX10_farthest_42 (by decide) ?_
        cases h
        exact J.iret (pc := 47) dX10_farthest_47 rfl ⟨rfl, rfl, hN30, trivial⟩
      · refine J.zne (pc := 23) (tgt := 45) dX10_farthest_23 (by decide) (fun q => absurd q hc) (fun _ => ?_)
        refine J.iload (pc := 45) dX10_farthest_45 0 rfl ?_
        cases h
        exact J.iret (pc := 47) dX10_farthest_47 rfl ⟨rfl, rfl, hN16, trivial⟩
    · try dsimp only at h
      refine J.callV (Y := mX10_farthest) (Z := mX10_needWhat) (pc := 9) (st := []) (k2 := 0) (n2 := 0) dX10_farthest_9 ml_RX10_140 mo_X10_needWhat mv_X10_needWhat rfl (tX10_needWhat d e5 hN3 k0) k0 (okN hN3 k0 (by decide)).1 (okN hN3 k0 (by decide)).2 cq_10 (by decide) rfl rfl (Nat.le_of_ble_eq_true rfl) (by decide) (by decide) (fun v ν hp => nlm hp.1) (fun i ν hp => ?_)
      obtain ⟨rfl, rfl, hN9, -⟩ := QEr hp
      cases h
      exact JX.out rfl ⟨rfl, rfl, hN9, trivial⟩
  · try dsimp only at h
    refine J.callV (Y := mX10_farthest) (Z := mX10_inside) (pc := 2) (st := []) (k2 := 1) (n2 := 6) dX10_farthest_2 ml_RX10_233 mo_X10_inside mv_X10_inside rfl (tX10_inside d e1 hN k0) k0 (okN hN k0 (by decide)).1 (okN hN k0 (by decide)).2 cq_10 (by decide) rfl rfl (Nat.le_of_ble_eq_true rfl) (by decide) (by decide) (fun v ν hp => nlm hp.1) (fun i ν hp => ?_)
    obtain ⟨rfl, rfl, hN9, -⟩ := QEr hp
    cases h
    exact JX.out rfl ⟨rfl, rfl, hN9, trivial⟩
def fL_farthest (v0 : Nat) (v1 : Int32) (v2 : Int32) (v3 : Nat) (μ : Mem) : Option (Int32 × Mem) :=
  (fX10_farthest v0 v1 v2 μ).bind fun
  | (.inl r3, μ2) =>
    (stL μ2 v3 (0 : Int32) (r3.toInt64)).bind fun μ6 =>
    some ((0 : Int32), μ6)
  | (.inr i9, μ2) =>
    if i9 = 0 then some ((1 : Int32), μ2) else
    none
set_option maxHeartbeats 4000000 in
theorem tL_farthest {ω : Wd} {l : Launch} (d : Nat) {v0 : Nat} {v1 : Int32} {v2 : Int32} {v3 : Nat} {μ : Mem} {res : Int32 × Mem} (h : fL_farthest v0 v1 v2 v3 μ = some res) (hN : μ.1 = NN) (k0 : (kd v0).1 = 20) (k3 : (kd v3).1 = 1) : Ct ω l mL_farthest (d + 10) [.ref v0, .int v1, .int v2, .ref v3] μ 2 12 (PE (.inl (some (.int res.1))) res.2 True) := by
  refine Ct.of pn_RL (Nat.le_of_ble_eq_true rfl) ?_
  show J ω l mL_farthest (d + 10) 0 [(0, .ref v0), (1, .int v1), (2, .int v2), (3, .ref v3)] [] μ 2 12 _
  unfold fL_farthest at h
  refine J.aload_n (pc := 0) dL_farthest_0 rfl 3 rfl ?_
  refine J.iconst (pc := 1) dL_farthest_1 ic_0 ?_
  refine J.aload_n (pc := 2) dL_farthest_2 rfl 0 rfl ?_
  refine J.iload_n (pc := 3) dL_farthest_3 rfl 1 rfl ?_
  refine J.iload_n (pc := 4) dL_farthest_4 rfl 2 rfl ?_
  obtain ⟨⟨q, μ2⟩, e1, h⟩ := bnd h
  rcases q with r3 | i9
  · try dsimp only at h
    refine J.callV (Y := mL_farthest) (Z := mX10_farthest) (pc := 5) (st := [.int (0 : Int32), .ref v3]) (k2 := 0) (n2 := 0) dL_farthest_5 ml_RL_65 mo_X10_farthest mv_X10_farthest rfl (tX10_farthest d e1 hN k0) k0 (okN hN k0 (by decide)).1 (okN hN k0 (by decide)).2 cq_10 (by decide) rfl rfl (Nat.le_of_ble_eq_true rfl) (by decide) (by decide) (fun v ν hp => ?_) (fun i ν hp => nrm hp.1)
    obtain ⟨rfl, rfl, hN4, hb5⟩ := QEl hp
    show J _ _ _ _ 8 _ ([.int r3, .int (0 : Int32), .ref v3]) _ _ _ _
    refine J.i2l (pc := 8) dL_farthest_8 ?_
    obtain ⟨μ6, e7, h⟩ := bnd h
    have hN8 : μ6.1 = NN := stL_N e7 hN4
    refine J.wL (pc := 9) dL_farthest_9 k3 (okN hN4 k3 (by decide)) e7 ?_
    refine J.goto (pc := 10) (tgt := 17) dL_farthest_10 (by decide) ?_
    refine J.iconst (pc := 17) dL_farthest_17 ic_0 ?_
    cases h
    exact J.iret (pc := 18) dL_farthest_18 rfl ⟨rfl, rfl, hN8, trivial⟩
  · try dsimp only at h
    refine J.callV (Y := mL_farthest) (Z := mX10_farthest) (pc := 5) (st := [.int (0 : Int32), .ref v3]) (k2 := 0) (n2 := 0) dL_farthest_5 ml_RL_65 mo_X10_farthest mv_X10_farthest rfl (tX10_farthest d e1 hN k0) k0 (okN hN k0 (by decide)).1 (okN hN k0 (by decide)).2 cq_10 (by decide) rfl rfl (Nat.le_of_ble_eq_true rfl) (by decide) (by decide) (fun v ν hp => nlm hp.1) (fun i ν hp => ?_)
    obtain ⟨rfl, rfl, hN9, -⟩ := QEr hp
    rcases ifc h with ⟨hc, h⟩ | ⟨hc, h⟩
    · subst hc
      cases h
      exact JX.catch1 (i := 0) (by decide) rfl rfl (Nat.le_of_ble_eq_true rfl) (Nat.le_of_ble_eq_true rfl) (Or.inl ⟨4, Nat.le_of_ble_eq_true rfl, rfl, dL_farthest_13⟩) dL_farthest_15 ic_1 dL_farthest_16 rfl ⟨rfl, rfl, hN9, trivial⟩
    cases h
def fX10_gainOf (v0 : Nat) (v1 : Int32) (μ : Mem) : Option (Int32) :=
  (gR μ v0 14 12).bind fun a1 =>
  (gR μ a1 0 19).bind fun a4 =>
  (gR μ a4 6 0).bind fun a7 =>
  (ldI μ a7 v1).bind fun x10 =>
  (gR μ v0 7 19).bind fun a12 =>
  (gR μ a12 6 0).bind fun a15 =>
  (ldI μ a15 v1).bind fun x18 =>
  (gR μ v0 14 12).bind fun a20 =>
  (gR μ a20 4 0).bind fun a23 =>
  (ldI μ a23 v1).bind fun x26 =>
  if 0 < x26 then
    some (((2 : Int32) * (x10 - x18)) + (5 : Int32))
  else
    some (((2 : Int32) * (x10 - x18)) + (0 : Int32))
set_option maxHeartbeats 4000000 in
theorem tX10_gainOf {ω : Wd} {l : Launch} (d : Nat) {v0 : Nat} {v1 : Int32} {μ : Mem} {res : Int32} (h : fX10_gainOf v0 v1 μ = some res) (hN : μ.1 = NN) (k0 : (kd v0).1 = 20) : Ct ω l mX10_gainOf d [.ref v0, .int v1] μ 0 0 (PE (.inl (some (.int res))) μ True) := by
  refine Ct.of pn_RX10 (Nat.le_of_ble_eq_true rfl) ?_
  show J ω l mX10_gainOf d 0 [(0, .ref v0), (1, .int v1)] [] μ 0 0 _
  unfold fX10_gainOf at h
  refine J.aload_n (pc := 0) dX10_gainOf_0 rfl 0 rfl ?_
  obtain ⟨a1, e2, h⟩ := bnd h
  have k3 : (kd a1).1 = 12 := gR_k e2
  refine J.fR (pc := 1) dX10_gainOf_1 fl_RX10_79 k0 (okN hN k0 (by decide)) rfl e2 ?_
  obtain ⟨a4, e5, h⟩ := bnd h
  have k6 : (kd a4).1 = 19 := gR_k e5
  refine J.fR (pc := 4) dX10_gainOf_4 fl_RX10_242 k3 (okN hN k3 (by decide)) rfl e5 ?_
  obtain ⟨a7, e8, h⟩ := bnd h
  have k9 : (kd a7).1 = 0 := gR_k e8
  refine J.fR (pc := 7) dX10_gainOf_7 fl_RX10_223 k6 (okN hN k6 (by decide)) rfl e8 ?_
  refine J.iload_n (pc := 10) dX10_gainOf_10 rfl 1 rfl ?_
  obtain ⟨x10, e11, h⟩ := bnd h
  refine J.aI (pc := 11) dX10_gainOf_11 k9 (okN hN k9 (by decide)) e11 ?_
  refine J.aload_n (pc := 12) dX10_gainOf_12 rfl 0 rfl ?_
  obtain ⟨a12, e13, h⟩ := bnd h
  have k14 : (kd a12).1 = 19 := gR_k e13
  refine J.fR (pc := 13) dX10_gainOf_13 fl_RX10_45 k0 (okN hN k0 (by decide)) rfl e13 ?_
  obtain ⟨a15, e16, h⟩ := bnd h
  have k17 : (kd a15).1 = 0 := gR_k e16
  refine J.fR (pc := 16) dX10_gainOf_16 fl_RX10_223 k14 (okN hN k14 (by decide)) rfl e16 ?_
  refine J.iload_n (pc := 19) dX10_gainOf_19 rfl 1 rfl ?_
  obtain ⟨x18, e19, h⟩ := bnd h
  refine J.aI (pc := 20) dX10_gainOf_20 k17 (okN hN k17 (by decide)) e19 ?_
  refine J.isub (pc := 21) dX10_gainOf_21 ?_
  refine J.istore_n (pc := 22) ([(2, .int (x10 - x18)), (0, .ref v0), (1, .int v1)]) dX10_gainOf_22 rfl (Nat.le_of_ble_eq_true rfl) rfl ?_
  refine J.iconst (pc := 23) dX10_gainOf_23 ic_2 ?_
  refine J.iload_n (pc := 24) dX10_gainOf_24 rfl 0 rfl ?_
  refine J.imul (pc := 25) dX10_gainOf_25 ?_
  refine J.aload_n (pc := 26) dX10_gainOf_26 rfl 1 rfl ?_
  obtain ⟨a20, e21, h⟩ := bnd h
  have k22 : (kd a20).1 = 12 := gR_k e21
  refine J.fR (pc := 27) dX10_gainOf_27 fl_RX10_79 k0 (okN hN k0 (by decide)) rfl e21 ?_
  obtain ⟨a23, e24, h⟩ := bnd h
  have k25 : (kd a23).1 = 0 := gR_k e24
  refine J.fR (pc := 30) dX10_gainOf_30 fl_RX10_272 k22 (okN hN k22 (by decide)) rfl e24 ?_
  refine J.iload_n (pc := 33) dX10_gainOf_33 rfl 2 rfl ?_
  obtain ⟨x26, e27, h⟩ := bnd h
  refine J.aI (pc := 34) dX10_gainOf_34 k25 (okN hN k25 (by decide)) e27 ?_
  rcases ifc h with ⟨hc, h⟩ | ⟨hc, h⟩
  · refine J.zle (pc := 35) (tgt := 42) dX10_gainOf_35 (by decide) (fun _ => ?_) (fun q => absurd hc q)
    refine J.iconst (pc := 38) dX10_gainOf_38 ic_5 ?_
    refine J.goto (pc := 39) (tgt := 43) dX10_gainOf_39 (by decide) ?_
    refine J.iadd (pc := 43) dX10_gainOf_43 ?_
    cases h
    exact J.iret (pc := 44) dX10_gainOf_44 rfl ⟨rfl, rfl, hN, trivial⟩
  · refine J.zle (pc := 35) (tgt := 42) dX10_gainOf_35 (by decide) (fun q => absurd q hc) (fun _ => ?_)
    refine J.iconst (pc := 42) dX10_gainOf_42 ic_0 ?_
    refine J.iadd (pc := 43) dX10_gainOf_43 ?_
    cases h
    exact J.iret (pc := 44) dX10_gainOf_44 rfl ⟨rfl, rfl, hN, trivial⟩
def fX10_play_58  : Nat → Nat → Int32 → Int32 → Int32 → Int32 → Mem → Option (Mem)
  | 0, _, _, _, _, _, _ => none
  | n + 1, v0, v1, v2, v3, v4, μ =>
    if v4 < (6 : Int32) then
      (gR μ v0 14 12).bind fun a1 =>
      (fX2_pass a1 (1 : Int32) μ).bind fun μ5 =>
      (fX10_play_58 n) v0 v1 v2 v3 (v4 + (1 : Int32)) μ5
    else
      (gR μ v0 19 3).bind fun a8 =>
      (ldR μ a8 (0 : Int32) 0).bind fun a11 =>
      (fX10_gainOf v0 v1 μ).bind fun r15 =>
      (stI μ a11 v3 r15).bind fun μ18 =>
      (gR μ18 v0 19 3).bind fun a21 =>
      (ldR μ18 a21 (1 : Int32) 0).bind fun a24 =>
      (fX10_gainOf v0 v2 μ18).bind fun r28 =>
      (stI μ18 a24 v3 r28).bind fun μ31 =>
      some μ31
set_option maxHeartbeats 4000000 in
theorem tX10_play_58 {ω : Wd} {l : Launch} (d : Nat) {res : Mem} : ∀ n : Nat, ∀ (v0 : Nat) (v1 : Int32) (v2 : Int32) (v3 : Int32) (v4 : Int32) (μ : Mem), fX10_play_58 n v0 v1 v2 v3 v4 μ = some res → μ.1 = NN → (kd v0).1 = 20 → J ω l mX10_play (d + 5) 58 [(0, .ref v0), (1, .int v1), (2, .int v2), (3, .int v3), (4, .int v4)] [] μ 0 0 (PE (.inl none) res True) := by
  intro n
  induction n with
  | zero =>
    intro v0 v1 v2 v3 v4 μ h hN k0
    have h9 : (none : Option (Mem)) = some res := h
    cases h9
  | succ n ih =>
    intro v0 v1 v2 v3 v4 μ h hN k0
    unfold fX10_play_58 at h
    refine J.iload (pc := 58) dX10_play_58 4 rfl ?_
    refine J.bipush (pc := 60) dX10_play_60 ib_6 ?_
    rcases ifc h with ⟨hc, h⟩ | ⟨hc, h⟩
    · refine J.cge (pc := 62) (tgt := 79) dX10_play_62 (by decide) (fun _ => ?_) (fun q => absurd hc q)
      refine J.aload_n (pc := 65) dX10_play_65 rfl 0 rfl ?_
      obtain ⟨a1, e2, h⟩ := bnd h
      have k3 : (kd a1).1 = 12 := gR_k e2
      refine J.fR (pc := 66) dX10_play_66 fl_RX10_79 k0 (okN hN k0 (by decide)) rfl e2 ?_
      refine J.iconst (pc := 69) dX10_play_69 ic_1 ?_
      obtain ⟨μ5, e4, h⟩ := bnd h
      refine J.callV (Y := mX10_play) (Z := mX2_pass) (pc := 70) (st := []) (k2 := 0) (n2 := 0) dX10_play_70 ml_RX10_268 mo_X2_pass mv_X2_pass rfl (tX2_pass d e4 hN k3) k3 (okN hN k3 (by decide)).1 (okN hN k3 (by decide)).2 cq_2 (by decide) rfl rfl (Nat.le_of_ble_eq_true rfl) (by decide) (by decide) (fun v ν hp => ?_) (fun i ν hp => nrm hp.1)
      obtain ⟨rfl, rfl, hN6, hb7⟩ := QEl hp
      show J _ _ _ _ 73 _ ([]) _ _ _ _
      refine J.iinc (pc := 73) (j := 4) ([(4, .int (v4 + (1 : Int32))), (0, .ref v0), (1, .int v1), (2, .int v2), (3, .int v3)]) dX10_play_73 rfl (iincv ic_1) (Nat.le_of_ble_eq_true rfl) rfl ?_
      refine J.goto (pc := 76) (tgt := 58) dX10_play_76 (by decide) ?_
      refine J.pick [1, 2, 3, 4, 0] rfl ?_
      exact ih v0 v1 v2 v3 (v4 + (1 : Int32)) μ5 h hN6 k0
    · refine J.cge (pc := 62) (tgt := 79) dX10_play_62 (by decide) (fun q => absurd q hc) (fun _ => ?_)
      refine J.aload_n (pc := 79) dX10_play_79 rfl 0 rfl ?_
      obtain ⟨a8, e9, h⟩ := bnd h
      have k10 : (kd a8).1 = 3 := gR_k e9
      refine J.fR (pc := 80) dX10_play_80 fl_RX10_110 k0 (okN hN k0 (by decide)) rfl e9 ?_
      refine J.iconst (pc := 83) dX10_play_83 ic_0 ?_
      obtain ⟨a11, e12, h⟩ := bnd h
      have k13 : (kd a11).1 = 0 := ldR_k e12
      refine J.aR (pc := 84) dX10_play_84 (Or.inl k10) (okN hN k10 (by decide)) e12 ?_
      refine J.iload_n (pc := 85) dX10_play_85 rfl 3 rfl ?_
      refine J.aload_n (pc := 86) dX10_play_86 rfl 0 rfl ?_
      refine J.iload_n (pc := 87) dX10_play_87 rfl 1 rfl ?_
      obtain ⟨r15, e14, h⟩ := bnd h
      refine J.callV (Y := mX10_play) (Z := mX10_gainOf) (pc := 88) (st := [.int v3, .ref a11]) (k2 := 0) (n2 := 0) dX10_play_88 ml_RX10_377 mo_X10_gainOf mv_X10_gainOf rfl (tX10_gainOf (d + 4) e14 hN k0) k0 (okN hN k0 (by decide)).1 (okN hN k0 (by decide)).2 cq_10 (by decide) rfl rfl (Nat.le_of_ble_eq_true rfl) (by decide) (by decide) (fun v ν hp => ?_) (fun i ν hp => nrm hp.1)
      obtain ⟨rfl, rfl, hN16, hb17⟩ := QEl hp
      show J _ _ _ _ 91 _ ([.int r15, .int v3, .ref a11]) _ _ _ _
      obtain ⟨μ18, e19, h⟩ := bnd h
      have hN20 : μ18.1 = NN := stI_N e19 hN16
      refine J.wI (pc := 91) dX10_play_91 k13 (okN hN16 k13 (by decide)) e19 ?_
      refine J.aload_n (pc := 92) dX10_play_92 rfl 0 rfl ?_
      obtain ⟨a21, e22, h⟩ := bnd h
      have k23 : (kd a21).1 = 3 := gR_k e22
      refine J.fR (pc := 93) dX10_play_93 fl_RX10_110 k0 (okN hN20 k0 (by decide)) rfl e22 ?_
      refine J.iconst (pc := 96) dX10_play_96 ic_1 ?_
      obtain ⟨a24, e25, h⟩ := bnd h
      have k26 : (kd a24).1 = 0 := ldR_k e25
      refine J.aR (pc := 97) dX10_play_97 (Or.inl k23) (okN hN20 k23 (by decide)) e25 ?_
      refine J.iload_n (pc := 98) dX10_play_98 rfl 3 rfl ?_
      refine J.aload_n (pc := 99) dX10_play_99 rfl 0 rfl ?_
      refine J.iload_n (pc := 100) dX10_play_100 rfl 2 rfl ?_
      obtain ⟨r28, e27, h⟩ := bnd h
      refine J.callV (Y := mX10_play) (Z := mX10_gainOf) (pc := 101) (st := [.int v3, .ref a24]) (k2 := 0) (n2 := 0) dX10_play_101 ml_RX10_377 mo_X10_gainOf mv_X10_gainOf rfl (tX10_gainOf (d + 4) e27 hN20 k0) k0 (okN hN20 k0 (by decide)).1 (okN hN20 k0 (by decide)).2 cq_10 (by decide) rfl rfl (Nat.le_of_ble_eq_true rfl) (by decide) (by decide) (fun v ν hp => ?_) (fun i ν hp => nrm hp.1)
      obtain ⟨rfl, rfl, hN29, hb30⟩ := QEl hp
      show J _ _ _ _ 104 _ ([.int r28, .int v3, .ref a24]) _ _ _ _
      obtain ⟨μ31, e32, h⟩ := bnd h
      have hN33 : μ31.1 = NN := stI_N e32 hN29
      refine J.wI (pc := 104) dX10_play_104 k26 (okN hN29 k26 (by decide)) e32 ?_
      cases h
      exact J.vret (pc := 105) dX10_play_105 rfl ⟨rfl, rfl, hN33, trivial⟩
def fX10_play (v0 : Nat) (v1 : Int32) (v2 : Int32) (v3 : Int32) (μ : Mem) : Option (Mem) :=
  (gR μ v0 14 12).bind fun a1 =>
  (gR μ v0 4 11).bind fun a4 =>
  (gR μ v0 7 19).bind fun a7 =>
  (fX2_begin a1 a4 a7 μ).bind fun μ11 =>
  if (v3 / (2 : Int32)) = (1 : Int32) then
    (gR μ11 v0 14 12).bind fun a14 =>
    (gR μ11 a14 0 19).bind fun a17 =>
    (gR μ11 a17 5 0).bind fun a20 =>
    (stI μ11 a20 v1 (-1 : Int32)).bind fun μ23 =>
    if (v3 - v3 / (2 : Int32) * (2 : Int32)) = (1 : Int32) then
      (gR μ23 v0 14 12).bind fun a26 =>
      (gR μ23 a26 0 19).bind fun a29 =>
      (gR μ23 a29 5 0).bind fun a32 =>
      (stI μ23 a32 v2 (-1 : Int32)).bind fun μ35 =>
      (fX10_play_58 fuel) v0 v1 v2 v3 (0 : Int32) μ35
    else
      (fX10_play_58 fuel) v0 v1 v2 v3 (0 : Int32) μ23
  else
    if (v3 - v3 / (2 : Int32) * (2 : Int32)) = (1 : Int32) then
      (gR μ11 v0 14 12).bind fun a38 =>
      (gR μ11 a38 0 19).bind fun a41 =>
      (gR μ11 a41 5 0).bind fun a44 =>
      (stI μ11 a44 v2 (-1 : Int32)).bind fun μ47 =>
      (fX10_play_58 fuel) v0 v1 v2 v3 (0 : Int32) μ47
    else
      (fX10_play_58 fuel) v0 v1 v2 v3 (0 : Int32) μ11
set_option maxHeartbeats 4000000 in
theorem tX10_play {ω : Wd} {l : Launch} (d : Nat) {v0 : Nat} {v1 : Int32} {v2 : Int32} {v3 : Int32} {μ : Mem} {res : Mem} (h : fX10_play v0 v1 v2 v3 μ = some res) (hN : μ.1 = NN) (k0 : (kd v0).1 = 20) : Ct ω l mX10_play (d + 5) [.ref v0, .int v1, .int v2, .int v3] μ 0 0 (PE (.inl none) res True) := by
  refine Ct.of pn_RX10 (Nat.le_of_ble_eq_true rfl) ?_
  show J ω l mX10_play (d + 5) 0 [(0, .ref v0), (1, .int v1), (2, .int v2), (3, .int v3)] [] μ 0 0 _
  unfold fX10_play at h
  refine J.aload_n (pc := 0) dX10_play_0 rfl 0 rfl ?_
  obtain ⟨a1, e2, h⟩ := bnd h
  have k3 : (kd a1).1 = 12 := gR_k e2
  refine J.fR (pc := 1) dX10_play_1 fl_RX10_79 k0 (okN hN k0 (by decide)) rfl e2 ?_
  refine J.aload_n (pc := 4) dX10_play_4 rfl 0 rfl ?_
  obtain ⟨a4, e5, h⟩ := bnd h
  have k6 : (kd a4).1 = 11 := gR_k e5
  refine J.fR (pc := 5) dX10_play_5 fl_RX10_26 k0 (okN hN k0 (by decide)) rfl e5 ?_
  refine J.aload_n (pc := 8) dX10_play_8 rfl 0 rfl ?_
  obtain ⟨a7, e8, h⟩ := bnd h
  have k9 : (kd a7).1 = 19 := gR_k e8
  refine J.fR (pc := 9) dX10_play_9 fl_RX10_45 k0 (okN hN k0 (by decide)) rfl e8 ?_
  obtain ⟨μ11, e10, h⟩ := bnd h
  refine J.callV (Y := mX10_play) (Z := mX2_begin) (pc := 12) (st := []) (k2 := 0) (n2 := 0) dX10_play_12 ml_RX10_264 mo_X2_begin mv_X2_begin rfl (tX2_begin (d + 2) e10 hN k3 k6 k9) k3 (okN hN k3 (by decide)).1 (okN hN k3 (by decide)).2 cq_2 (by decide) rfl rfl (Nat.le_of_ble_eq_true rfl) (by decide) (by decide) (fun v ν hp => ?_) (fun i ν hp => nrm hp.1)
  obtain ⟨rfl, rfl, hN12, hb13⟩ := QEl hp
  show J _ _ _ _ 15 _ ([]) _ _ _ _
  refine J.iload_n (pc := 15) dX10_play_15 rfl 3 rfl ?_
  refine J.iconst (pc := 16) dX10_play_16 ic_2 ?_
  refine J.idiv (pc := 17) dX10_play_17 (by decide) ?_
  refine J.iconst (pc := 18) dX10_play_18 ic_1 ?_
  rcases ifc h with ⟨hc, h⟩ | ⟨hc, h⟩
  · refine J.cne (pc := 19) (tgt := 35) dX10_play_19 (by decide) (fun _ => ?_) (fun q => absurd hc q)
    refine J.aload_n (pc := 22) dX10_play_22 rfl 0 rfl ?_
    obtain ⟨a14, e15, h⟩ := bnd h
    have k16 : (kd a14).1 = 12 := gR_k e15
    refine J.fR (pc := 23) dX10_play_23 fl_RX10_79 k0 (okN hN12 k0 (by decide)) rfl e15 ?_
    obtain ⟨a17, e18, h⟩ := bnd h
    have k19 : (kd a17).1 = 19 := gR_k e18
    refine J.fR (pc := 26) dX10_play_26 fl_RX10_242 k16 (okN hN12 k16 (by decide)) rfl e18 ?_
    obtain ⟨a20, e21, h⟩ := bnd h
    have k22 : (kd a20).1 = 0 := gR_k e21
    refine J.fR (pc := 29) dX10_play_29 fl_RX10_220 k19 (okN hN12 k19 (by decide)) rfl e21 ?_
    refine J.iload_n (pc := 32) dX10_play_32 rfl 1 rfl ?_
    refine J.iconst (pc := 33) dX10_play_33 ic_m1 ?_
    obtain ⟨μ23, e24, h⟩ := bnd h
    have hN25 : μ23.1 = NN := stI_N e24 hN12
    refine J.wI (pc := 34) dX10_play_34 k22 (okN hN12 k22 (by decide)) e24 ?_
    refine J.iload_n (pc := 35) dX10_play_35 rfl 3 rfl ?_
    refine J.iconst (pc := 36) dX10_play_36 ic_2 ?_
    refine J.irem (pc := 37) dX10_play_37 (by decide) ?_
    refine J.iconst (pc := 38) dX10_play_38 ic_1 ?_
    rcases ifc h with ⟨hc, h⟩ | ⟨hc, h⟩
    · refine J.cne (pc := 39) (tgt := 55) dX10_play_39 (by decide) (fun _ => ?_) (fun q => absurd hc q)
      refine J.aload_n (pc := 42) dX10_play_42 rfl 0 rfl ?_
      obtain ⟨a26, e27, h⟩ := bnd h
      have k28 : (kd a26).1 = 12 := gR_k e27
      refine J.fR (pc := 43) dX10_play_43 fl_RX10_79 k0 (okN hN25 k0 (by decide)) rfl e27 ?_
      obtain ⟨a29, e30, h⟩ := bnd h
      have k31 : (kd a29).1 = 19 := gR_k e30
      refine J.fR (pc := 46) dX10_play_46 fl_RX10_242 k28 (okN hN25 k28 (by decide)) rfl e30 ?_
      obtain ⟨a32, e33, h⟩ := bnd h
      have k34 : (kd a32).1 = 0 := gR_k e33
      refine J.fR (pc := 49) dX10_play_49 fl_RX10_220 k31 (okN hN25 k31 (by decide)) rfl e33 ?_
      refine J.iload_n (pc := 52) dX10_play_52 rfl 2 rfl ?_
      refine J.iconst (pc := 53) dX10_play_53 ic_m1 ?_
      obtain ⟨μ35, e36, h⟩ := bnd h
      have hN37 : μ35.1 = NN := stI_N e36 hN25
      refine J.wI (pc := 54) dX10_play_54 k34 (okN hN25 k34 (by decide)) e36 ?_
      refine J.iconst (pc := 55) dX10_play_55 ic_0 ?_
      refine J.istore (pc := 56) ([(4, .int (0 : Int32)), (0, .ref v0), (1, .int v1), (2, .int v2), (3, .int v3)]) dX10_play_56 (Nat.le_of_ble_eq_true rfl) rfl ?_
      refine J.pick [1, 2, 3, 4, 0] rfl ?_
      exact (tX10_play_58 d fuel) v0 v1 v2 v3 (0 : Int32) μ35 h hN37 k0
    · refine J.cne (pc := 39) (tgt := 55) dX10_play_39 (by decide) (fun q => absurd q hc) (fun _ => ?_)
      refine J.iconst (pc := 55) dX10_play_55 ic_0 ?_
      refine J.istore (pc := 56) ([(4, .int (0 : Int32)), (0, .ref v0), (1, .int v1), (2, .int v2), (3, .int v3)]) dX10_play_56 (Nat.le_of_ble_eq_true rfl) rfl ?_
      refine J.pick [1, 2, 3, 4, 0] rfl ?_
      exact (tX10_play_58 d fuel) v0 v1 v2 v3 (0 : Int32) μ23 h hN25 k0
  · refine J.cne (pc := 19) (tgt := 35) dX10_play_19 (by decide) (fun q => absurd q hc) (fun _ => ?_)
    refine J.iload_n (pc := 35) dX10_play_35 rfl 3 rfl ?_
    refine J.iconst (pc := 36) dX10_play_36 ic_2 ?_
    refine J.irem (pc := 37) dX10_play_37 (by decide) ?_
    refine J.iconst (pc := 38) dX10_play_38 ic_1 ?_
    rcases ifc h with ⟨hc, h⟩ | ⟨hc, h⟩
    · refine J.cne (pc := 39) (tgt := 55) dX10_play_39 (by decide) (fun _ => ?_) (fun q => absurd hc q)
      refine J.aload_n (pc := 42) dX10_play_42 rfl 0 rfl ?_
      obtain ⟨a38, e39, h⟩ := bnd h
      have k40 : (kd a38).1 = 12 := gR_k e39
      refine J.fR (pc := 43) dX10_play_43 fl_RX10_79 k0 (okN hN12 k0 (by decide)) rfl e39 ?_
      obtain ⟨a41, e42, h⟩ := bnd h
      have k43 : (kd a41).1 = 19 := gR_k e42
      refine J.fR (pc := 46) dX10_play_46 fl_RX10_242 k40 (okN hN12 k40 (by decide)) rfl e42 ?_
      obtain ⟨a44, e45, h⟩ := bnd h
      have k46 : (kd a44).1 = 0 := gR_k e45
      refine J.fR (pc := 49) dX10_play_49 fl_RX10_220 k43 (okN hN12 k43 (by decide)) rfl e45 ?_
      refine J.iload_n (pc := 52) dX10_play_52 rfl 2 rfl ?_
      refine J.iconst (pc := 53) dX10_play_53 ic_m1 ?_
      obtain ⟨μ47, e48, h⟩ := bnd h
      have hN49 : μ47.1 = NN := stI_N e48 hN12
      refine J.wI (pc := 54) dX10_play_54 k46 (okN hN12 k46 (by decide)) e48 ?_
      refine J.iconst (pc := 55) dX10_play_55 ic_0 ?_
      refine J.istore (pc := 56) ([(4, .int (0 : Int32)), (0, .ref v0), (1, .int v1), (2, .int v2), (3, .int v3)]) dX10_play_56 (Nat.le_of_ble_eq_true rfl) rfl ?_
      refine J.pick [1, 2, 3, 4, 0] rfl ?_
      exact (tX10_play_58 d fuel) v0 v1 v2 v3 (0 : Int32) μ47 h hN49 k0
    · refine J.cne (pc := 39) (tgt := 55) dX10_play_39 (by decide) (fun q => absurd q hc) (fun _ => ?_)
      refine J.iconst (pc := 55) dX10_play_55 ic_0 ?_
      refine J.istore (pc := 56) ([(4, .int (0 : Int32)), (0, .ref v0), (1, .int v1), (2, .int v2), (3, .int v3)]) dX10_play_56 (Nat.le_of_ble_eq_true rfl) rfl ?_
      refine J.pick [1, 2, 3, 4, 0] rfl ?_
      exact (tX10_play_58 d fuel) v0 v1 v2 v3 (0 : Int32) μ11 h hN12 k0
def fX10_rests (v0 : Nat) (v1 : Int32) (μ : Mem) : Option (Int32) :=
  (gR μ v0 19 3).bind fun a1 =>
  (ldR μ a1 (0 : Int32) 0).bind fun a4 =>
  (ldI μ a4 v1).bind fun x7 =>
  (gR μ v0 19 3).bind fun a9 =>
  (ldR μ a9 (0 : Int32) 0).bind fun a12 =>
  (ldI μ a12 (v1 ^^^ (2 : Int32))).bind fun x15 =>
  if x7 < x15 then
    some (0 : Int32)
  else
    (gR μ v0 19 3).bind fun a17 =>
    (ldR μ a17 (1 : Int32) 0).bind fun a20 =>
    (ldI μ a20 v1).bind fun x23 =>
    (gR μ v0 19 3).bind fun a25 =>
    (ldR μ a25 (1 : Int32) 0).bind fun a28 =>
    (ldI μ a28 (v1 ^^^ (1 : Int32))).bind fun x31 =>
    if x23 < x31 then
      some (0 : Int32)
    else
      some (1 : Int32)
set_option maxHeartbeats 4000000 in
theorem tX10_rests {ω : Wd} {l : Launch} (d : Nat) {v0 : Nat} {v1 : Int32} {μ : Mem} {res : Int32} (h : fX10_rests v0 v1 μ = some res) (hN : μ.1 = NN) (k0 : (kd v0).1 = 20) : Ct ω l mX10_rests d [.ref v0, .int v1] μ 0 0 (PE (.inl (some (.int res))) μ (isB res)) := by
  refine Ct.of pn_RX10 (Nat.le_of_ble_eq_true rfl) ?_
  show J ω l mX10_rests d 0 [(0, .ref v0), (1, .int v1)] [] μ 0 0 _
  unfold fX10_rests at h
  refine J.aload_n (pc := 0) dX10_rests_0 rfl 0 rfl ?_
  obtain ⟨a1, e2, h⟩ := bnd h
  have k3 : (kd a1).1 = 3 := gR_k e2
  refine J.fR (pc := 1) dX10_rests_1 fl_RX10_110 k0 (okN hN k0 (by decide)) rfl e2 ?_
  refine J.iconst (pc := 4) dX10_rests_4 ic_0 ?_
  obtain ⟨a4, e5, h⟩ := bnd h
  have k6 : (kd a4).1 = 0 := ldR_k e5
  refine J.aR (pc := 5) dX10_rests_5 (Or.inl k3) (okN hN k3 (by decide)) e5 ?_
  refine J.iload_n (pc := 6) dX10_rests_6 rfl 1 rfl ?_
  obtain ⟨x7, e8, h⟩ := bnd h
  refine J.aI (pc := 7) dX10_rests_7 k6 (okN hN k6 (by decide)) e8 ?_
  refine J.aload_n (pc := 8) dX10_rests_8 rfl 0 rfl ?_
  obtain ⟨a9, e10, h⟩ := bnd h
  have k11 : (kd a9).1 = 3 := gR_k e10
  refine J.fR (pc := 9) dX10_rests_9 fl_RX10_110 k0 (okN hN k0 (by decide)) rfl e10 ?_
  refine J.iconst (pc := 12) dX10_rests_12 ic_0 ?_
  obtain ⟨a12, e13, h⟩ := bnd h
  have k14 : (kd a12).1 = 0 := ldR_k e13
  refine J.aR (pc := 13) dX10_rests_13 (Or.inl k11) (okN hN k11 (by decide)) e13 ?_
  refine J.iload_n (pc := 14) dX10_rests_14 rfl 1 rfl ?_
  refine J.iconst (pc := 15) dX10_rests_15 ic_2 ?_
  refine J.ixor (pc := 16) dX10_rests_16 ?_
  obtain ⟨x15, e16, h⟩ := bnd h
  refine J.aI (pc := 17) dX10_rests_17 k14 (okN hN k14 (by decide)) e16 ?_
  rcases ifc h with ⟨hc, h⟩ | ⟨hc, h⟩
  · refine J.clt (pc := 18) (tgt := 46) dX10_rests_18 (by decide) (fun _ => ?_) (fun q => absurd hc q)
    refine J.iconst (pc := 46) dX10_rests_46 ic_0 ?_
    cases h
    exact J.zret (pc := 47) dX10_rests_47 rfl (narB (Or.inl rfl)) ⟨rfl, rfl, hN, (Or.inl rfl)⟩
  · refine J.clt (pc := 18) (tgt := 46) dX10_rests_18 (by decide) (fun q => absurd q hc) (fun _ => ?_)
    refine J.aload_n (pc := 21) dX10_rests_21 rfl 0 rfl ?_
    obtain ⟨a17, e18, h⟩ := bnd h
    have k19 : (kd a17).1 = 3 := gR_k e18
    refine J.fR (pc := 22) dX10_rests_22 fl_RX10_110 k0 (okN hN k0 (by decide)) rfl e18 ?_
    refine J.iconst (pc := 25) dX10_rests_25 ic_1 ?_
    obtain ⟨a20, e21, h⟩ := bnd h
    have k22 : (kd a20).1 = 0 := ldR_k e21
    refine J.aR (pc := 26) dX10_rests_26 (Or.inl k19) (okN hN k19 (by decide)) e21 ?_
    refine J.iload_n (pc := 27) dX10_rests_27 rfl 1 rfl ?_
    obtain ⟨x23, e24, h⟩ := bnd h
    refine J.aI (pc := 28) dX10_rests_28 k22 (okN hN k22 (by decide)) e24 ?_
    refine J.aload_n (pc := 29) dX10_rests_29 rfl 0 rfl ?_
    obtain ⟨a25, e26, h⟩ := bnd h
    have k27 : (kd a25).1 = 3 := gR_k e26
    refine J.fR (pc := 30) dX10_rests_30 fl_RX10_110 k0 (okN hN k0 (by decide)) rfl e26 ?_
    refine J.iconst (pc := 33) dX10_rests_33 ic_1 ?_
    obtain ⟨a28, e29, h⟩ := bnd h
    have k30 : (kd a28).1 = 0 := ldR_k e29
    refine J.aR (pc := 34) dX10_rests_34 (Or.inl k27) (okN hN k27 (by decide)) e29 ?_
    refine J.iload_n (pc := 35) dX10_rests_35 rfl 1 rfl ?_
    refine J.iconst (pc := 36) dX10_rests_36 ic_1 ?_
    refine J.ixor (pc := 37) dX10_rests_37 ?_
    obtain ⟨x31, e32, h⟩ := bnd h
    refine J.aI (pc := 38) dX10_rests_38 k30 (okN hN k30 (by decide)) e32 ?_
    rcases ifc h with ⟨hc, h⟩ | ⟨hc, h⟩
    · refine J.clt (pc := 39) (tgt := 46) dX10_rests_39 (by decide) (fun _ => ?_) (fun q => absurd hc q)
      refine J.iconst (pc := 46) dX10_rests_46 ic_0 ?_
      cases h
      exact J.zret (pc := 47) dX10_rests_47 rfl (narB (Or.inl rfl)) ⟨rfl, rfl, hN, (Or.inl rfl)⟩
    · refine J.clt (pc := 39) (tgt := 46) dX10_rests_39 (by decide) (fun q => absurd q hc) (fun _ => ?_)
      refine J.iconst (pc := 42) dX10_rests_42 ic_1 ?_
      refine J.goto (pc := 43) (tgt := 47) dX10_rests_43 (by decide) ?_
      cases h
      exact J.zret (pc := 47) dX10_rests_47 rfl (narB (Or.inr rfl)) ⟨rfl, rfl, hN, (Or.inr rfl)⟩
def fX10_game_92  : Nat → Nat → Int32 → Int32 → Int32 → Int32 → Mem → Option ((Int32 ⊕ Nat) × Mem)
  | 0, _, _, _, _, _, _ => none
  | n + 1, v0, v3, v4, v5, v6, μ =>
    if v6 < (4 : Int32) then
      (fX10_rests v0 v6 μ).bind fun r2 =>
      if r2 = 0 then
        (fX10_game_92 n) v0 v3 v4 v5 (v6 + (1 : Int32)) μ
      else
        if v4 = 0 then
          (fX10_game_92 n) v0 v3 (v4 + (1 : Int32)) (((v6 / (2 : Int32)) * (10 : Int32)) + (v6 - v6 / (2 : Int32) * (2 : Int32))) (v6 + (1 : Int32)) μ
        else
          (fX10_game_92 n) v0 v3 (v4 + (1 : Int32)) v5 (v6 + (1 : Int32)) μ
    else
      if v3 = 0 then
        some (.inl v4, μ)
      else
        some (.inl v5, μ)
set_option maxHeartbeats 4000000 in
theorem tX10_game_92 {ω : Wd} {l : Launch} (d : Nat) {res : (Int32 ⊕ Nat) × Mem} : ∀ n : Nat, ∀ (v0 : Nat) (v3 : Int32) (v4 : Int32) (v5 : Int32) (v6 : Int32) (μ : Mem), fX10_game_92 n v0 v3 v4 v5 v6 μ = some res → μ.1 = NN → (kd v0).1 = 20 → J ω l mX10_game (d + 9) 92 [(0, .ref v0), (3, .int v3), (4, .int v4), (5, .int v5), (6, .int v6)] [] μ 0 0 (PE (oI res.1) res.2 True) := by
  intro n
  induction n with
  | zero =>
    intro v0 v3 v4 v5 v6 μ h hN k0
    have h9 : (none : Option ((Int32 ⊕ Nat) × Mem)) = some res := h
    cases h9
  | succ n ih =>
    intro v0 v3 v4 v5 v6 μ h hN k0
    unfold fX10_game_92 at h
    refine J.iload (pc := 92) dX10_game_92 4 rfl ?_
    refine J.iconst (pc := 94) dX10_game_94 ic_4 ?_
    rcases ifc h with ⟨hc, h⟩ | ⟨hc, h⟩
    · refine J.cge (pc := 95) (tgt := 140) dX10_game_95 (by decide) (fun _ => ?_) (fun q => absurd hc q)
      refine J.aload_n (pc := 98) dX10_game_98 rfl 0 rfl ?_
      refine J.iload (pc := 99) dX10_game_99 4 rfl ?_
      obtain ⟨r2, e1, h⟩ := bnd h
      refine J.callV (Y := mX10_game) (Z := mX10_rests) (pc := 101) (st := []) (k2 := 0) (n2 := 0) dX10_game_101 ml_RX10_374 mo_X10_rests mv_X10_rests rfl (tX10_rests (d + 8) e1 hN k0) k0 (okN hN k0 (by decide)).1 (okN hN k0 (by decide)).2 cq_10 (by decide) rfl rfl (Nat.le_of_ble_eq_true rfl) (by decide) (by decide) (fun v ν hp => ?_) (fun i ν hp => nrm hp.1)
      obtain ⟨rfl, rfl, hN3, hb4⟩ := QEl hp
      show J _ _ _ _ 104 _ ([.int r2]) _ _ _ _
      rcases ifc h with ⟨hc, h⟩ | ⟨hc, h⟩
      · refine J.zeq (pc := 104) (tgt := 134) dX10_game_104 (by decide) (fun _ => ?_) (fun q => absurd hc q)
        refine J.iinc (pc := 134) (j := 4) ([(6, .int (v6 + (1 : Int32))), (0, .ref v0), (3, .int v3), (4, .int v4), (5, .int v5)]) dX10_game_134 rfl (iincv ic_1) (Nat.le_of_ble_eq_true rfl) rfl ?_
        refine J.goto (pc := 137) (tgt := 92) dX10_game_137 (by decide) ?_
        refine J.pick [1, 2, 3, 4, 0] rfl ?_
        exact ih v0 v3 v4 v5 (v6 + (1 : Int32)) μ h hN3 k0
      · refine J.zeq (pc := 104) (tgt := 134) dX10_game_104 (by decide) (fun q => absurd q hc) (fun _ => ?_)
        refine J.iload (pc := 107) dX10_game_107 2 rfl ?_
        rcases ifc h with ⟨hc, h⟩ | ⟨hc, h⟩
        · refine J.zne (pc := 109) (tgt := 127) dX10_game_109 (by decide) (fun _ => ?_) (fun q => absurd hc q)
          refine J.iload (pc := 112) dX10_game_112 4 rfl ?_
          refine J.iconst (pc := 114) dX10_game_114 ic_2 ?_
          refine J.idiv (pc := 115) dX10_game_115 (by decide) ?_
          refine J.bipush (pc := 116) dX10_game_116 ib_10 ?_
          refine J.imul (pc := 118) dX10_game_118 ?_
          refine J.iload (pc := 119) dX10_game_119 4 rfl ?_
          refine J.iconst (pc := 121) dX10_game_121 ic_2 ?_
          refine J.irem (pc := 122) dX10_game_122 (by decide) ?_
          refine J.iadd (pc := 123) dX10_game_123 ?_
          refine J.goto (pc := 124) (tgt := 129) dX10_game_124 (by decide) ?_
          refine J.istore (pc := 129) ([(5, .int (((v6 / (2 : Int32)) * (10 : Int32)) + (v6 - v6 / (2 : Int32) * (2 : Int32)))), (0, .ref v0), (3, .int v3), (4, .int v4), (6, .int v6)]) dX10_game_129 (Nat.le_of_ble_eq_true rfl) rfl ?_
          refine J.iinc (pc := 131) (j := 3) ([(4, .int (v4 + (1 : Int32))), (5, .int (((v6 / (2 : Int32)) * (10 : Int32)) + (v6 - v6 / (2 : Int32) * (2 : Int32)))), (0, .ref v0), (3, .int v3), (6, .int v6)]) dX10_game_131 rfl (iincv ic_1) (Nat.le_of_ble_eq_true rfl) rfl ?_
          refine J.iinc (pc := 134) (j := 4) ([(6, .int (v6 + (1 : Int32))), (4, .int (v4 + (1 : Int32))), (5, .int (((v6 / (2 : Int32)) * (10 : Int32)) + (v6 - v6 / (2 : Int32) * (2 : Int32)))), (0, .ref v0), (3, .int v3)]) dX10_game_134 rfl (iincv ic_1) (Nat.le_of_ble_eq_true rfl) rfl ?_
          refine J.goto (pc := 137) (tgt := 92) dX10_game_137 (by decide) ?_
          refine J.pick [3, 4, 1, 2, 0] rfl ?_
          exact ih v0 v3 (v4 + (1 : Int32)) (((v6 / (2 : Int32)) * (10 : Int32)) + (v6 - v6 / (2 : Int32) * (2 : Int32))) (v6 + (1 : Int32)) μ h hN3 k0
        · refine J.zne (pc := 109) (tgt := 127) dX10_game_109 (by decide) (fun q => absurd q hc) (fun _ => ?_)
          refine J.iload (pc := 127) dX10_game_127 3 rfl ?_
          refine J.istore (pc := 129) ([(5, .int v5), (0, .ref v0), (3, .int v3), (4, .int v4), (6, .int v6)]) dX10_game_129 (Nat.le_of_ble_eq_true rfl) rfl ?_
          refine J.iinc (pc := 131) (j := 3) ([(4, .int (v4 + (1 : Int32))), (5, .int v5), (0, .ref v0), (3, .int v3), (6, .int v6)]) dX10_game_131 rfl (iincv ic_1) (Nat.le_of_ble_eq_true rfl) rfl ?_
          refine J.iinc (pc := 134) (j := 4) ([(6, .int (v6 + (1 : Int32))), (4, .int (v4 + (1 : Int32))), (5, .int v5), (0, .ref v0), (3, .int v3)]) dX10_game_134 rfl (iincv ic_1) (Nat.le_of_ble_eq_true rfl) rfl ?_
          refine J.goto (pc := 137) (tgt := 92) dX10_game_137 (by decide) ?_
          refine J.pick [3, 4, 1, 2, 0] rfl ?_
          exact ih v0 v3 (v4 + (1 : Int32)) v5 (v6 + (1 : Int32)) μ h hN3 k0
    · refine J.cge (pc := 95) (tgt := 140) dX10_game_95 (by decide) (fun q => absurd q hc) (fun _ => ?_)
      refine J.iload_n (pc := 140) dX10_game_140 rfl 1 rfl ?_
      rcases ifc h with ⟨hc, h⟩ | ⟨hc, h⟩
      · refine J.zne (pc := 141) (tgt := 149) dX10_game_141 (by decide) (fun _ => ?_) (fun q => absurd hc q)
        refine J.iload (pc := 144) dX10_game_144 2 rfl ?_
        refine J.goto (pc := 146) (tgt := 151) dX10_game_146 (by decide) ?_
        cases h
        exact J.iret (pc := 151) dX10_game_151 rfl ⟨rfl, rfl, hN, trivial⟩
      · refine J.zne (pc := 141) (tgt := 149) dX10_game_141 (by decide) (fun q => absurd q hc) (fun _ => ?_)
        refine J.iload (pc := 149) dX10_game_149 3 rfl ?_
        cases h
        exact J.iret (pc := 151) dX10_game_151 rfl ⟨rfl, rfl, hN, trivial⟩
def fX10_game_63  : Nat → Nat → Int32 → Int32 → Int32 → Int32 → Mem → Option ((Int32 ⊕ Nat) × Mem)
  | 0, _, _, _, _, _, _ => none
  | n + 1, v0, v1, v2, v3, v4, μ =>
    if v4 < (4 : Int32) then
      (fX10_play v0 v1 v2 v4 μ).bind fun μ2 =>
      (fX10_game_63 n) v0 v1 v2 v3 (v4 + (1 : Int32)) μ2
    else
      (fX10_game_92 fuel) v0 v3 (0 : Int32) (-1 : Int32) (0 : Int32) μ
set_option maxHeartbeats 4000000 in
theorem tX10_game_63 {ω : Wd} {l : Launch} (d : Nat) {res : (Int32 ⊕ Nat) × Mem} : ∀ n : Nat, ∀ (v0 : Nat) (v1 : Int32) (v2 : Int32) (v3 : Int32) (v4 : Int32) (μ : Mem), fX10_game_63 n v0 v1 v2 v3 v4 μ = some res → μ.1 = NN → (kd v0).1 = 20 → J ω l mX10_game (d + 9) 63 [(0, .ref v0), (1, .int v1), (2, .int v2), (3, .int v3), (4, .int v4)] [] μ 0 0 (PE (oI res.1) res.2 True) := by
  intro n
  induction n with
  | zero =>
    intro v0 v1 v2 v3 v4 μ h hN k0
    have h9 : (none : Option ((Int32 ⊕ Nat) × Mem)) = some res := h
    cases h9
  | succ n ih =>
    intro v0 v1 v2 v3 v4 μ h hN k0
    unfold fX10_game_63 at h
    refine J.iload (pc := 63) dX10_game_63 4 rfl ?_
    refine J.iconst (pc := 65) dX10_game_65 ic_4 ?_
    rcases ifc h with ⟨hc, h⟩ | ⟨hc, h⟩
    · refine J.cge (pc := 66) (tgt := 83) dX10_game_66 (by decide) (fun _ => ?_) (fun q => absurd hc q)
      refine J.aload_n (pc := 69) dX10_game_69 rfl 0 rfl ?_
      refine J.iload_n (pc := 70) dX10_game_70 rfl 1 rfl ?_
      refine J.iload_n (pc := 71) dX10_game_71 rfl 2 rfl ?_
      refine J.iload (pc := 72) dX10_game_72 4 rfl ?_
      obtain ⟨μ2, e1, h⟩ := bnd h
      refine J.callV (Y := mX10_game) (Z := mX10_play) (pc := 74) (st := []) (k2 := 0) (n2 := 0) dX10_game_74 ml_RX10_371 mo_X10_play mv_X10_play rfl (tX10_play (d + 3) e1 hN k0) k0 (okN hN k0 (by decide)).1 (okN hN k0 (by decide)).2 cq_10 (by decide) rfl rfl (Nat.le_of_ble_eq_true rfl) (by decide) (by decide) (fun v ν hp => ?_) (fun i ν hp => nrm hp.1)
      obtain ⟨rfl, rfl, hN3, hb4⟩ := QEl hp
      show J _ _ _ _ 77 _ ([]) _ _ _ _
      refine J.iinc (pc := 77) (j := 4) ([(4, .int (v4 + (1 : Int32))), (0, .ref v0), (1, .int v1), (2, .int v2), (3, .int v3)]) dX10_game_77 rfl (iincv ic_1) (Nat.le_of_ble_eq_true rfl) rfl ?_
      refine J.goto (pc := 80) (tgt := 63) dX10_game_80 (by decide) ?_
      refine J.pick [1, 2, 3, 4, 0] rfl ?_
      exact ih v0 v1 v2 v3 (v4 + (1 : Int32)) μ2 h hN3 k0
    · refine J.cge (pc := 66) (tgt := 83) dX10_game_66 (by decide) (fun q => absurd q hc) (fun _ => ?_)
      refine J.iconst (pc := 83) dX10_game_83 ic_0 ?_
      refine J.istore (pc := 84) ([(4, .int (0 : Int32)), (0, .ref v0), (1, .int v1), (2, .int v2), (3, .int v3)]) dX10_game_84 (Nat.le_of_ble_eq_true rfl) rfl ?_
      refine J.iconst (pc := 86) dX10_game_86 ic_m1 ?_
      refine J.istore (pc := 87) ([(5, .int (-1 : Int32)), (4, .int (0 : Int32)), (0, .ref v0), (1, .int v1), (2, .int v2), (3, .int v3)]) dX10_game_87 (Nat.le_of_ble_eq_true rfl) rfl ?_
      refine J.iconst (pc := 89) dX10_game_89 ic_0 ?_
      refine J.istore (pc := 90) ([(6, .int (0 : Int32)), (5, .int (-1 : Int32)), (4, .int (0 : Int32)), (0, .ref v0), (1, .int v1), (2, .int v2), (3, .int v3)]) dX10_game_90 (Nat.le_of_ble_eq_true rfl) rfl ?_
      refine J.pick [3, 6, 2, 1, 0] rfl ?_
      exact (tX10_game_92 d fuel) v0 v3 (0 : Int32) (-1 : Int32) (0 : Int32) μ h hN k0
def fX10_game (v0 : Nat) (v1 : Int32) (v2 : Int32) (v3 : Int32) (μ : Mem) : Option ((Int32 ⊕ Nat) × Mem) :=
  (fX10_needPerson v0 v1 μ).bind fun
  | .inl _ =>
    (fX10_needPerson v0 v2 μ).bind fun
    | .inl _ =>
      (fX10_needWhat v0 v3 (2 : Int32)).bind fun
      | .inl _ =>
        if v1 = v2 then
          some (.inr 1, μ)
        else
          (gR μ v0 7 19).bind fun a10 =>
          (gR μ a10 5 0).bind fun a13 =>
          (ldI μ a13 v1).bind fun x16 =>
          if x16 = (-1 : Int32) then
            some (.inl (-1 : Int32), μ)
          else
            (gR μ v0 7 19).bind fun a18 =>
            (gR μ a18 5 0).bind fun a21 =>
            (ldI μ a21 v2).bind fun x24 =>
            if x24 = (-1 : Int32) then
              some (.inl (-1 : Int32), μ)
            else
              (fX10_game_63 fuel) v0 v1 v2 v3 (0 : Int32) μ
      | .inr i26 =>
        some (.inr i26, μ)
    | .inr i27 =>
      some (.inr i27, μ)
  | .inr i28 =>
    some (.inr i28, μ)
set_option maxHeartbeats 4000000 in
theorem tX10_game {ω : Wd} {l : Launch} (d : Nat) {v0 : Nat} {v1 : Int32} {v2 : Int32} {v3 : Int32} {μ : Mem} {res : (Int32 ⊕ Nat) × Mem} (h : fX10_game v0 v1 v2 v3 μ = some res) (hN : μ.1 = NN) (k0 : (kd v0).1 = 20) : Ct ω l mX10_game (d + 9) [.ref v0, .int v1, .int v2, .int v3] μ 4 24 (PE (oI res.1) res.2 True) := by
  refine Ct.of pn_RX10 (Nat.le_of_ble_eq_true rfl) ?_
  show J ω l mX10_game (d + 9) 0 [(0, .ref v0), (1, .int v1), (2, .int v2), (3, .int v3)] [] μ 4 24 _
  unfold fX10_game at h
  refine J.aload_n (pc := 0) dX10_game_0 rfl 0 rfl ?_
  refine J.iload_n (pc := 1) dX10_game_1 rfl 1 rfl ?_
  obtain ⟨q, e1, h⟩ := bnd h
  rcases q with u | i28
  · try dsimp only at h
    refine J.callV (Y := mX10_game) (Z := mX10_needPerson) (pc := 2) (st := []) (k2 := 3) (n2 := 18) dX10_game_2 ml_RX10_211 mo_X10_needPerson mv_X10_needPerson rfl (tX10_needPerson d e1 hN k0) k0 (okN hN k0 (by decide)).1 (okN hN k0 (by decide)).2 cq_10 (by decide) rfl rfl (Nat.le_of_ble_eq_true rfl) (by decide) (by decide) (fun v ν hp => ?_) (fun i ν hp => nrm hp.1)
    obtain ⟨rfl, rfl, hN2, hb3⟩ := QEl hp
    show J _ _ _ _ 5 _ ([]) _ _ _ _
    refine J.aload_n (pc := 5) dX10_game_5 rfl 0 rfl ?_
    refine J.iload_n (pc := 6) dX10_game_6 rfl 2 rfl ?_
    obtain ⟨q, e4, h⟩ := bnd h
    rcases q with u | i27
    · try dsimp only at h
      refine J.callV (Y := mX10_game) (Z := mX10_needPerson) (pc := 7) (st := []) (k2 := 2) (n2 := 12) dX10_game_7 ml_RX10_211 mo_X10_needPerson mv_X10_needPerson rfl (tX10_needPerson d e4 hN2 k0) k0 (okN hN2 k0 (by decide)).1 (okN hN2 k0 (by decide)).2 cq_10 (by decide) rfl rfl (Nat.le_of_ble_eq_true rfl) (by decide) (by decide) (fun v ν hp => ?_) (fun i ν hp => nrm hp.1)
      obtain ⟨rfl, rfl, hN5, hb6⟩ := QEl hp
      show J _ _ _ _ 10 _ ([]) _ _ _ _
      refine J.aload_n (pc := 10) dX10_game_10 rfl 0 rfl ?_
      refine J.iload_n (pc := 11) dX10_game_11 rfl 3 rfl ?_
      refine J.iconst (pc := 12) dX10_game_12 ic_2 ?_
      obtain ⟨q, e7, h⟩ := bnd h
      rcases q with u | i26
      · try dsimp only at h
        refine J.callV (Y := mX10_game) (Z := mX10_needWhat) (pc := 13) (st := []) (k2 := 1) (n2 := 6) dX10_game_13 ml_RX10_140 mo_X10_needWhat mv_X10_needWhat rfl (tX10_needWhat d e7 hN5 k0) k0 (okN hN5 k0 (by decide)).1 (okN hN5 k0 (by decide)).2 cq_10 (by decide) rfl rfl (Nat.le_of_ble_eq_true rfl) (by decide) (by decide) (fun v ν hp => ?_) (fun i ν hp => nrm hp.1)
        obtain ⟨rfl, rfl, hN8, hb9⟩ := QEl hp
        show J _ _ _ _ 16 _ ([]) _ _ _ _
        refine J.iload_n (pc := 16) dX10_game_16 rfl 1 rfl ?_
        refine J.iload_n (pc := 17) dX10_game_17 rfl 2 rfl ?_
        rcases ifc h with ⟨hc, h⟩ | ⟨hc, h⟩
        · refine J.cne (pc := 18) (tgt := 32) dX10_game_18 (by decide) (fun _ => ?_) (fun q => absurd hc q)
          cases h
          exact J.throwAW (pc := 21) (j := 14) rfl rfl hN8 dX10_game_21 dX10_game_24 dX10_game_25 dX10_game_28 dX10_game_31 rfl (Nat.le_of_ble_eq_true rfl) (Nat.le_of_ble_eq_true rfl) ⟨rfl, rfl, hN8, trivial⟩
        · refine J.cne (pc := 18) (tgt := 32) dX10_game_18 (by decide) (fun q => absurd q hc) (fun _ => ?_)
          refine J.aload_n (pc := 32) dX10_game_32 rfl 0 rfl ?_
          obtain ⟨a10, e11, h⟩ := bnd h
          have k12 : (kd a10).1 = 19 := gR_k e11
          refine J.fR (pc := 33) dX10_game_33 fl_RX10_45 k0 (okN hN8 k0 (by decide)) rfl e11 ?_
          obtain ⟨a13, e14, h⟩ := bnd h
          have k15 : (kd a13).1 = 0 := gR_k e14
          refine J.fR (pc := 36) dX10_game_36 fl_RX10_220 k12 (okN hN8 k12 (by decide)) rfl e14 ?_
          refine J.iload_n (pc := 39) dX10_game_39 rfl 1 rfl ?_
          obtain ⟨x16, e17, h⟩ := bnd h
          refine J.aI (pc := 40) dX10_game_40 k15 (okN hN8 k15 (by decide)) e17 ?_
          refine J.iconst (pc := 41) dX10_game_41 ic_m1 ?_
          rcases ifc h with ⟨hc, h⟩ | ⟨hc, h⟩
          · refine J.ceq (pc := 42) (tgt := 58) dX10_game_42 (by decide) (fun _ => ?_) (fun q => absurd hc q)
            refine J.iconst (pc := 58) dX10_game_58 ic_m1 ?_
            cases h
            exact J.iret (pc := 59) dX10_game_59 rfl ⟨rfl, rfl, hN8, trivial⟩
          · refine J.ceq (pc := 42) (tgt := 58) dX10_game_42 (by decide) (fun q => absurd q hc) (fun _ => ?_)
            refine J.aload_n (pc := 45) dX10_game_45 rfl 0 rfl ?_
            obtain ⟨a18, e19, h⟩ := bnd h
            have k20 : (kd a18).1 = 19 := gR_k e19
            refine J.fR (pc := 46) dX10_game_46 fl_RX10_45 k0 (okN hN8 k0 (by decide)) rfl e19 ?_
            obtain ⟨a21, e22, h⟩ := bnd h
            have k23 : (kd a21).1 = 0 := gR_k e22
            refine J.fR (pc := 49) dX10_game_49 fl_RX10_220 k20 (okN hN8 k20 (by decide)) rfl e22 ?_
            refine J.iload_n (pc := 52) dX10_game_52 rfl 2 rfl ?_
            obtain ⟨x24, e25, h⟩ := bnd h
            refine J.aI (pc := 53) dX10_game_53 k23 (okN hN8 k23 (by decide)) e25 ?_
            refine J.iconst (pc := 54) dX10_game_54 ic_m1 ?_
            rcases ifc h with ⟨hc, h⟩ | ⟨hc, h⟩
            · refine J.cne (pc := 55) (tgt := 60) dX10_game_55 (by decide) (fun _ => ?_) (fun q => absurd hc q)
              refine J.iconst (pc := 58) dX10_game_58 ic_m1 ?_
              cases h
              exact J.iret (pc := 59) dX10_game_59 rfl ⟨rfl, rfl, hN8, trivial⟩
            · refine J.cne (pc := 55) (tgt := 60) dX10_game_55 (by decide) (fun q => absurd q hc) (fun _ => ?_)
              refine J.iconst (pc := 60) dX10_game_60 ic_0 ?_
              refine J.istore (pc := 61) ([(4, .int (0 : Int32)), (0, .ref v0), (1, .int v1), (2, .int v2), (3, .int v3)]) dX10_game_61 (Nat.le_of_ble_eq_true rfl) rfl ?_
              refine J.pick [1, 2, 3, 4, 0] rfl ?_
              refine J.room (k' := 0) (n' := 0) (by decide) (by decide) ?_
              exact (tX10_game_63 d fuel) v0 v1 v2 v3 (0 : Int32) μ h hN8 k0
      · try dsimp only at h
        refine J.callV (Y := mX10_game) (Z := mX10_needWhat) (pc := 13) (st := []) (k2 := 1) (n2 := 6) dX10_game_13 ml_RX10_140 mo_X10_needWhat mv_X10_needWhat rfl (tX10_needWhat d e7 hN5 k0) k0 (okN hN5 k0 (by decide)).1 (okN hN5 k0 (by decide)).2 cq_10 (by decide) rfl rfl (Nat.le_of_ble_eq_true rfl) (by decide) (by decide) (fun v ν hp => nlm hp.1) (fun i ν hp => ?_)
        obtain ⟨rfl, rfl, hN9, -⟩ := QEr hp
        cases h
        exact JX.out rfl ⟨rfl, rfl, hN9, trivial⟩
    · try dsimp only at h
      refine J.callV (Y := mX10_game) (Z := mX10_needPerson) (pc := 7) (st := []) (k2 := 2) (n2 := 12) dX10_game_7 ml_RX10_211 mo_X10_needPerson mv_X10_needPerson rfl (tX10_needPerson d e4 hN2 k0) k0 (okN hN2 k0 (by decide)).1 (okN hN2 k0 (by decide)).2 cq_10 (by decide) rfl rfl (Nat.le_of_ble_eq_true rfl) (by decide) (by decide) (fun v ν hp => nlm hp.1) (fun i ν hp => ?_)
      obtain ⟨rfl, rfl, hN9, -⟩ := QEr hp
      cases h
      exact JX.out rfl ⟨rfl, rfl, hN9, trivial⟩
  · try dsimp only at h
    refine J.callV (Y := mX10_game) (Z := mX10_needPerson) (pc := 2) (st := []) (k2 := 3) (n2 := 18) dX10_game_2 ml_RX10_211 mo_X10_needPerson mv_X10_needPerson rfl (tX10_needPerson d e1 hN k0) k0 (okN hN k0 (by decide)).1 (okN hN k0 (by decide)).2 cq_10 (by decide) rfl rfl (Nat.le_of_ble_eq_true rfl) (by decide) (by decide) (fun v ν hp => nlm hp.1) (fun i ν hp => ?_)
    obtain ⟨rfl, rfl, hN9, -⟩ := QEr hp
    cases h
    exact JX.out rfl ⟨rfl, rfl, hN9, trivial⟩
