def fL_years (v0 : Nat) (v1 : Int32) (v2 : Int32) (v3 : Int32) (v4 : Nat) (μ : Mem) : Option (Int32 × Mem) :=
  (fX10_years v0 v1 v2 v3 μ).bind fun
  | (.inl r3, μ2) =>
    (stL μ2 v4 (0 : Int32) (r3.toInt64)).bind fun μ6 =>
    some ((0 : Int32), μ6)
  | (.inr i9, μ2) =>
    if i9 = 0 then some ((1 : Int32), μ2) else
    if i9 = 1 then some ((2 : Int32), μ2) else
    none
set_option maxHeartbeats 4000000 in
theorem tL_years {ω : Wd} {l : Launch} (d : Nat) {v0 : Nat} {v1 : Int32} {v2 : Int32} {v3 : Int32} {v4 : Nat} {μ : Mem} {res : Int32 × Mem} (h : fL_years v0 v1 v2 v3 v4 μ = some res) (hN : μ.1 = NN) (k0 : (kd v0).1 = 20) (k4 : (kd v4).1 = 1) : Ct ω l mL_years (d + 10) [.ref v0, .int v1, .int v2, .int v3, .ref v4] μ 2 12 (PE (.inl (some (.int res.1))) res.2 True) := by
  refine Ct.of pn_RL (Nat.le_of_ble_eq_true rfl) ?_
  show J ω l mL_years (d + 10) 0 [(0, .ref v0), (1, .int v1), (2, .int v2), (3, .int v3), (4, .ref v4)] [] μ 2 12 _
  unfold fL_years at h
  refine J.aload (pc := 0) dL_years_0 4 rfl ?_
  refine J.iconst (pc := 2) dL_years_2 ic_0 ?_
  refine J.aload_n (pc := 3) dL_years_3 rfl 0 rfl ?_
  refine J.iload_n (pc := 4) dL_years_4 rfl 1 rfl ?_
  refine J.iload_n (pc := 5) dL_years_5 rfl 2 rfl ?_
  refine J.iload_n (pc := 6) dL_years_6 rfl 3 rfl ?_
  obtain ⟨⟨q, μ2⟩, e1, h⟩ := bnd h
  rcases q with r3 | i9
  · try dsimp only at h
    refine J.callV (Y := mL_years) (Z := mX10_years) (pc := 7) (st := [.int (0 : Int32), .ref v4]) (k2 := 0) (n2 := 0) dL_years_7 ml_RL_92 mo_X10_years mv_X10_years rfl (tX10_years d e1 hN k0) k0 (okN hN k0 (by decide)).1 (okN hN k0 (by decide)).2 cq_10 (by decide) rfl rfl (Nat.le_of_ble_eq_true rfl) (by decide) (by decide) (fun v ν hp => ?_) (fun i ν hp => nrm hp.1)
    obtain ⟨rfl, rfl, hN4, hb5⟩ := QEl hp
    show J _ _ _ _ 10 _ ([.int r3, .int (0 : Int32), .ref v4]) _ _ _ _
    refine J.i2l (pc := 10) dL_years_10 ?_
    obtain ⟨μ6, e7, h⟩ := bnd h
    have hN8 : μ6.1 = NN := stL_N e7 hN4
    refine J.wL (pc := 11) dL_years_11 k4 (okN hN4 k4 (by decide)) e7 ?_
    refine J.goto (pc := 12) (tgt := 23) dL_years_12 (by decide) ?_
    refine J.iconst (pc := 23) dL_years_23 ic_0 ?_
    cases h
    exact J.iret (pc := 24) dL_years_24 rfl ⟨rfl, rfl, hN8, trivial⟩
  · try dsimp only at h
    refine J.callV (Y := mL_years) (Z := mX10_years) (pc := 7) (st := [.int (0 : Int32), .ref v4]) (k2 := 0) (n2 := 0) dL_years_7 ml_RL_92 mo_X10_years mv_X10_years rfl (tX10_years d e1 hN k0) k0 (okN hN k0 (by decide)).1 (okN hN k0 (by decide)).2 cq_10 (by decide) rfl rfl (Nat.le_of_ble_eq_true rfl) (by decide) (by decide) (fun v ν hp => nlm hp.1) (fun i ν hp => ?_)
    obtain ⟨rfl, rfl, hN9, -⟩ := QEr hp
    rcases ifc h with ⟨hc, h⟩ | ⟨hc, h⟩
    · subst hc
      cases h
      exact JX.catch1 (i := 0) (by decide) rfl rfl (Nat.le_of_ble_eq_true rfl) (Nat.le_of_ble_eq_true rfl) (Or.inl ⟨5, Nat.le_of_ble_eq_true rfl, rfl, dL_years_15⟩) dL_years_17 ic_1 dL_years_18 rfl ⟨rfl, rfl, hN9, trivial⟩
    rcases ifc h with ⟨hc, h⟩ | ⟨hc, h⟩
    · subst hc
      cases h
      exact JX.catch2 rfl rfl (Nat.le_of_ble_eq_true rfl) (Nat.le_of_ble_eq_true rfl) (Or.inl ⟨5, Nat.le_of_ble_eq_true rfl, rfl, dL_years_19⟩) dL_years_21 ic_2 dL_years_22 rfl ⟨rfl, rfl, hN9, trivial⟩
    cases h
def fX0_copyFrom_15  : Nat → Nat → Nat → Int32 → Mem → Option (Mem)
  | 0, _, _, _, _ => none
  | n + 1, v0, v1, v2, μ =>
    if v2 < (μ.2.1 v0 0) then
      (gR μ v0 2 4).bind fun a1 =>
      (ldR μ a1 v2 19).bind fun a4 =>
      (gR μ v1 2 4).bind fun a7 =>
      (ldR μ a7 (((μ.2.1 v1 1) + v2) - ((μ.2.1 v1 1) + v2) / (40 : Int32) * (40 : Int32)) 19).bind fun a10 =>
      (fX9_copyFrom a4 a10 μ).bind fun μ14 =>
      (fX0_copyFrom_15 n) v0 v1 (v2 + (1 : Int32)) μ14
    else
      some μ
set_option maxHeartbeats 4000000 in
theorem tX0_copyFrom_15 {ω : Wd} {l : Launch} (d : Nat) {res : Mem} : ∀ n : Nat, ∀ (v0 : Nat) (v1 : Nat) (v2 : Int32) (μ : Mem), fX0_copyFrom_15 n v0 v1 v2 μ = some res → μ.1 = NN → (kd v0).1 = 10 → (kd v1).1 = 10 → J ω l mX0_copyFrom (d + 2) 15 [(0, .ref v0), (1, .ref v1), (2, .int v2)] [] μ 0 0 (PE (.inl none) res True) := by
  intro n
  induction n with
  | zero =>
    intro v0 v1 v2 μ h hN k0 k1
    have h9 : (none : Option (Mem)) = some res := h
    cases h9
  | succ n ih =>
    intro v0 v1 v2 μ h hN k0 k1
    unfold fX0_copyFrom_15 at h
    refine J.iload_n (pc := 15) dX0_copyFrom_15 rfl 2 rfl ?_
    refine J.aload_n (pc := 16) dX0_copyFrom_16 rfl 0 rfl ?_
    refine J.fI (pc := 17) dX0_copyFrom_17 fl_RX0_9 k0 (okN hN k0 (by decide)) (Or.inl rfl) ?_
    rcases ifc h with ⟨hc, h⟩ | ⟨hc, h⟩
    · refine J.cge (pc := 20) (tgt := 52) dX0_copyFrom_20 (by decide) (fun _ => ?_) (fun q => absurd hc q)
      refine J.aload_n (pc := 23) dX0_copyFrom_23 rfl 0 rfl ?_
      obtain ⟨a1, e2, h⟩ := bnd h
      have k3 : (kd a1).1 = 4 := gR_k e2
      refine J.fR (pc := 24) dX0_copyFrom_24 fl_RX0_20 k0 (okN hN k0 (by decide)) rfl e2 ?_
      refine J.iload_n (pc := 27) dX0_copyFrom_27 rfl 2 rfl ?_
      obtain ⟨a4, e5, h⟩ := bnd h
      have k6 : (kd a4).1 = 19 := ldR_k e5
      refine J.aR (pc := 28) dX0_copyFrom_28 (Or.inr k3) (okN hN k3 (by decide)) e5 ?_
      refine J.aload_n (pc := 29) dX0_copyFrom_29 rfl 1 rfl ?_
      obtain ⟨a7, e8, h⟩ := bnd h
      have k9 : (kd a7).1 = 4 := gR_k e8
      refine J.fR (pc := 30) dX0_copyFrom_30 fl_RX0_20 k1 (okN hN k1 (by decide)) rfl e8 ?_
      refine J.aload_n (pc := 33) dX0_copyFrom_33 rfl 1 rfl ?_
      refine J.fI (pc := 34) dX0_copyFrom_34 fl_RX0_15 k1 (okN hN k1 (by decide)) (Or.inl rfl) ?_
      refine J.iload_n (pc := 37) dX0_copyFrom_37 rfl 2 rfl ?_
      refine J.iadd (pc := 38) dX0_copyFrom_38 ?_
      refine J.bipush (pc := 39) dX0_copyFrom_39 ib_40 ?_
      refine J.irem (pc := 41) dX0_copyFrom_41 (by decide) ?_
      obtain ⟨a10, e11, h⟩ := bnd h
      have k12 : (kd a10).1 = 19 := ldR_k e11
      refine J.aR (pc := 42) dX0_copyFrom_42 (Or.inr k9) (okN hN k9 (by decide)) e11 ?_
      obtain ⟨μ14, e13, h⟩ := bnd h
      refine J.callV (Y := mX0_copyFrom) (Z := mX9_copyFrom) (pc := 43) (st := []) (k2 := 0) (n2 := 0) dX0_copyFrom_43 ml_RX0_25 mo_X9_copyFrom mv_X9_copyFrom rfl (tX9_copyFrom d e13 hN k6 k12) k6 (okN hN k6 (by decide)).1 (okN hN k6 (by decide)).2 cq_9 (by decide) rfl rfl (Nat.le_of_ble_eq_true rfl) (by decide) (by decide) (fun v ν hp => ?_) (fun i ν hp => nrm hp.1)
      obtain ⟨rfl, rfl, hN15, hb16⟩ := QEl hp
      show J _ _ _ _ 46 _ ([]) _ _ _ _
      refine J.iinc (pc := 46) (j := 2) ([(2, .int (v2 + (1 : Int32))), (0, .ref v0), (1, .ref v1)]) dX0_copyFrom_46 rfl (iincv ic_1) (Nat.le_of_ble_eq_true rfl) rfl ?_
      refine J.goto (pc := 49) (tgt := 15) dX0_copyFrom_49 (by decide) ?_
      refine J.pick [1, 2, 0] rfl ?_
      exact ih v0 v1 (v2 + (1 : Int32)) μ14 h hN15 k0 k1
    · refine J.cge (pc := 20) (tgt := 52) dX0_copyFrom_20 (by decide) (fun q => absurd q hc) (fun _ => ?_)
      cases h
      exact J.vret (pc := 52) dX0_copyFrom_52 rfl ⟨rfl, rfl, hN, trivial⟩
def fX0_copyFrom (v0 : Nat) (v1 : Nat) (μ : Mem) : Option (Mem) :=
  (some (sI μ v0 0 (μ.2.1 v1 0))).bind fun μ1 =>
  (some (sI μ1 v0 1 (0 : Int32))).bind fun μ4 =>
  (fX0_copyFrom_15 fuel) v0 v1 (0 : Int32) μ4
set_option maxHeartbeats 4000000 in
theorem tX0_copyFrom {ω : Wd} {l : Launch} (d : Nat) {v0 : Nat} {v1 : Nat} {μ : Mem} {res : Mem} (h : fX0_copyFrom v0 v1 μ = some res) (hN : μ.1 = NN) (k0 : (kd v0).1 = 10) (k1 : (kd v1).1 = 10) : Ct ω l mX0_copyFrom (d + 2) [.ref v0, .ref v1] μ 0 0 (PE (.inl none) res True) := by
  refine Ct.of pn_RX0 (Nat.le_of_ble_eq_true rfl) ?_
  show J ω l mX0_copyFrom (d + 2) 0 [(0, .ref v0), (1, .ref v1)] [] μ 0 0 _
  unfold fX0_copyFrom at h
  refine J.aload_n (pc := 0) dX0_copyFrom_0 rfl 0 rfl ?_
  refine J.aload_n (pc := 1) dX0_copyFrom_1 rfl 1 rfl ?_
  refine J.fI (pc := 2) dX0_copyFrom_2 fl_RX0_9 k1 (okN hN k1 (by decide)) (Or.inl rfl) ?_
  obtain ⟨μ1, e2, h⟩ := bnd h
  have hN3 : μ1.1 = NN := smN e2 hN
  refine J.qI (pc := 5) dX0_copyFrom_5 fl_RX0_9 k0 (okN hN k0 (by decide)) rfl rfl e2 ?_
  refine J.aload_n (pc := 8) dX0_copyFrom_8 rfl 0 rfl ?_
  refine J.iconst (pc := 9) dX0_copyFrom_9 ic_0 ?_
  obtain ⟨μ4, e5, h⟩ := bnd h
  have hN6 : μ4.1 = NN := smN e5 hN3
  refine J.qI (pc := 10) dX0_copyFrom_10 fl_RX0_15 k0 (okN hN3 k0 (by decide)) rfl rfl e5 ?_
  refine J.iconst (pc := 13) dX0_copyFrom_13 ic_0 ?_
  refine J.istore_n (pc := 14) ([(2, .int (0 : Int32)), (0, .ref v0), (1, .ref v1)]) dX0_copyFrom_14 rfl (Nat.le_of_ble_eq_true rfl) rfl ?_
  refine J.pick [1, 2, 0] rfl ?_
  exact (tX0_copyFrom_15 d fuel) v0 v1 (0 : Int32) μ4 h hN6 k0 k1
def fX9_init (v0 : Nat) (μ : Mem) : Option (Mem) :=
  (ptI μ v0 0 (0 : Int32)).bind fun μ1 =>
  (ptL μ1 v0 1 (0 : Int64)).bind fun μ3 =>
  (ptL μ3 v0 2 (0 : Int64)).bind fun μ5 =>
  (mkN μ5 (0, 48)).bind fun (a9, μ10) =>
  (ptR μ10 v0 3 a9).bind fun μ11 =>
  (mkN μ11 (0, 6)).bind fun (a15, μ16) =>
  (ptR μ16 v0 4 a15).bind fun μ17 =>
  (mkN μ17 (0, 6)).bind fun (a21, μ22) =>
  (ptR μ22 v0 5 a21).bind fun μ23 =>
  (mkN μ23 (0, 6)).bind fun (a27, μ28) =>
  (ptR μ28 v0 6 a27).bind fun μ29 =>
  (gA μ29 v0).bind fun _u =>
  (fX9_emptyA v0 μ29).bind fun μ32 =>
  some μ32
set_option maxHeartbeats 4000000 in
theorem tX9_init {ω : Wd} {l : Launch} (d : Nat) {v0 : Nat} {μ : Mem} {res : Mem} (h : fX9_init v0 μ = some res) (k0 : (kd v0).1 = 19) : Ct ω l mX9_init (d + 1) [.ref v0] μ 4 66 (PA (.inl none) res) := by
  refine Ct.of pn_RX9 (Nat.le_of_ble_eq_true rfl) ?_
  show J ω l mX9_init (d + 1) 0 [(0, .ref v0)] [] μ 4 66 _
  unfold fX9_init at h
  refine J.aload_n (pc := 0) dX9_init_0 rfl 0 rfl ?_
  refine J.objInit (pc := 1) dX9_init_1 ml_RX9_3 oi_1 oi_2 (Nat.le_of_ble_eq_true rfl) ?_
  refine J.aload_n (pc := 4) dX9_init_4 rfl 0 rfl ?_
  refine J.iconst (pc := 5) dX9_init_5 ic_0 ?_
  obtain ⟨μ1, e2, h⟩ := bnd h
  refine J.qI (pc := 6) dX9_init_6 fl_RX9_9 k0 (ptI_ok e2).1 rfl rfl (ptI_ok e2).2 ?_
  refine J.aload_n (pc := 9) dX9_init_9 rfl 0 rfl ?_
  refine J.lconst (pc := 10) dX9_init_10 lc_0 ?_
  obtain ⟨μ3, e4, h⟩ := bnd h
  refine J.qL (pc := 11) dX9_init_11 fl_RX9_15 k0 (ptL_ok e4).1 rfl rfl (ptL_ok e4).2 ?_
  refine J.aload_n (pc := 14) dX9_init_14 rfl 0 rfl ?_
  refine J.lconst (pc := 15) dX9_init_15 lc_0 ?_
  obtain ⟨μ5, e6, h⟩ := bnd h
  refine J.qL (pc := 16) dX9_init_16 fl_RX9_19 k0 (ptL_ok e6).1 rfl rfl (ptL_ok e6).2 ?_
  refine J.aload_n (pc := 19) dX9_init_19 rfl 0 rfl ?_
  refine J.bipush (pc := 20) dX9_init_20 ib_48 ?_
  obtain ⟨⟨a9, μ10⟩, e7, h⟩ := bnd h
  try dsimp only at h
  have k8 : (kd a9).1 = 0 := mkN_k e7
  refine J.mArr (pc := 22) (t := 0) (N := 48) dX9_init_22 rfl (Or.inl ⟨rfl, rfl⟩) e7 aw_int (by decide) (by decide) (by decide) (by omega) (by omega) ?_
  obtain ⟨μ11, e12, h⟩ := bnd h
  refine J.qR (pc := 24) dX9_init_24 fl_RX9_22 k0 (ptR_ok e12).1 rfl rfl (ptR_ok e12).2 ?_
  refine J.aload_n (pc := 27) dX9_init_27 rfl 0 rfl ?_
  refine J.bipush (pc := 28) dX9_init_28 ib_6 ?_
  obtain ⟨⟨a15, μ16⟩, e13, h⟩ := bnd h
  try dsimp only at h
  have k14 : (kd a15).1 = 0 := mkN_k e13
  refine J.mArr (pc := 30) (t := 0) (N := 6) dX9_init_30 rfl (Or.inl ⟨rfl, rfl⟩) e13 aw_int (by decide) (by decide) (by decide) (by omega) (by omega) ?_
  obtain ⟨μ17, e18, h⟩ := bnd h
  refine J.qR (pc := 32) dX9_init_32 fl_RX9_26 k0 (ptR_ok e18).1 rfl rfl (ptR_ok e18).2 ?_
  refine J.aload_n (pc := 35) dX9_init_35 rfl 0 rfl ?_
  refine J.bipush (pc := 36) dX9_init_36 ib_6 ?_
  obtain ⟨⟨a21, μ22⟩, e19, h⟩ := bnd h
  try dsimp only at h
  have k20 : (kd a21).1 = 0 := mkN_k e19
  refine J.mArr (pc := 38) (t := 0) (N := 6) dX9_init_38 rfl (Or.inl ⟨rfl, rfl⟩) e19 aw_int (by decide) (by decide) (by decide) (by omega) (by omega) ?_
  obtain ⟨μ23, e24, h⟩ := bnd h
  refine J.qR (pc := 40) dX9_init_40 fl_RX9_29 k0 (ptR_ok e24).1 rfl rfl (ptR_ok e24).2 ?_
  refine J.aload_n (pc := 43) dX9_init_43 rfl 0 rfl ?_
  refine J.bipush (pc := 44) dX9_init_44 ib_6 ?_
  obtain ⟨⟨a27, μ28⟩, e25, h⟩ := bnd h
  try dsimp only at h
  have k26 : (kd a27).1 = 0 := mkN_k e25
  refine J.mArr (pc := 46) (t := 0) (N := 6) dX9_init_46 rfl (Or.inl ⟨rfl, rfl⟩) e25 aw_int (by decide) (by decide) (by decide) (by omega) (by omega) ?_
  obtain ⟨μ29, e30, h⟩ := bnd h
  refine J.qR (pc := 48) dX9_init_48 fl_RX9_32 k0 (ptR_ok e30).1 rfl rfl (ptR_ok e30).2 ?_
  refine J.aload_n (pc := 51) dX9_init_51 rfl 0 rfl ?_
  obtain ⟨_, e35, h⟩ := bnd h
  obtain ⟨μ32, e31, h⟩ := bnd h
  refine J.callV (Y := mX9_init) (Z := mX9_empty) (pc := 52) (st := []) (k2 := 0) (n2 := 0) dX9_init_52 ml_RX9_35 mo_X9_empty mv_X9_empty rfl (tX9_emptyA d e31 k0) k0 (gA_ok e35).1 (gA_ok e35).2 cq_9 (by decide) rfl rfl (Nat.le_of_ble_eq_true rfl) (by decide) (by decide) (fun v ν hp => ?_) (fun i ν hp => nrm hp.1)
  obtain ⟨rfl, rfl⟩ := QAl hp
  show J _ _ _ _ 55 _ ([]) _ _ _ _
  cases h
  exact J.vret (pc := 55) dX9_init_55 rfl ⟨rfl, rfl⟩
def fX0_init_25  : Nat → Nat → Int32 → Mem → Option (Mem)
  | 0, _, _, _ => none
  | n + 1, v0, v1, μ =>
    if v1 < (40 : Int32) then
      (gA μ v0).bind fun _u =>
      (gR μ v0 2 4).bind fun a2 =>
      (mkN μ (19, 0)).bind fun (a7, μ8) =>
      (fX9_init a7 μ8).bind fun μ10 =>
      (gA μ10 a2).bind fun _u =>
      (gA μ10 a7).bind fun _u =>
      (stR μ10 a2 v1 a7).bind fun μ13 =>
      (fX0_init_25 n) v0 (v1 + (1 : Int32)) μ13
    else
      some μ
set_option maxHeartbeats 4000000 in
theorem tX0_init_25 {ω : Wd} {l : Launch} (d : Nat) {res : Mem} : ∀ n : Nat, ∀ (v0 : Nat) (v1 : Int32) (μ : Mem), fX0_init_25 n v0 v1 μ = some res → (kd v0).1 = 10 → ∀ j : Nat, j ≤ 40 → v1 = Int32.ofNat (40 - j) → J ω l mX0_init (d + 2) 25 [(0, .ref v0), (1, .int v1)] [] μ (5 * j) (73 * j) (PA (.inl none) res) := by
  intro n
  induction n with
  | zero =>
    intro v0 v1 μ h k0 j hj hv
    have h9 : (none : Option (Mem)) = some res := h
    cases h9
  | succ n ih =>
    intro v0 v1 μ h k0 j hj hv
    unfold fX0_init_25 at h
    refine J.iload_n (pc := 25) dX0_init_25 rfl 1 rfl ?_
    refine J.bipush (pc := 26) dX0_init_26 ib_40 ?_
    rcases ifc h with ⟨hc, h⟩ | ⟨hc, h⟩
    · obtain ⟨j, rfl⟩ := a40 j v1 hj hv hc
      refine J.cge (pc := 28) (tgt := 50) dX0_init_28 (by decide) (fun _ => ?_) (fun q => absurd hc q)
      refine J.aload_n (pc := 31) dX0_init_31 rfl 0 rfl ?_
      obtain ⟨_, e1, h⟩ := bnd h
      obtain ⟨a2, e3, h⟩ := bnd h
      have k4 : (kd a2).1 = 4 := gR_k e3
      refine J.fR (pc := 32) dX0_init_32 fl_RX0_20 k0 (gA_ok e1) rfl e3 ?_
      refine J.iload_n (pc := 35) dX0_init_35 rfl 1 rfl ?_
      obtain ⟨⟨a7, μ8⟩, e5, h⟩ := bnd h
      try dsimp only at h
      have k6 : (kd a7).1 = 19 := mkN_k e5
      refine J.mNew (pc := 36) (c := 9) dX0_init_36 e5 nw_RX0_18 (by decide) (by decide) (by omega) (by show 7 ≤ _; omega) ?_
      refine J.dup (pc := 39) dX0_init_39 rfl ?_
      obtain ⟨μ10, e9, h⟩ := bnd h
      refine J.callI (Y := mX0_init) (Z := mX9_init) (pc := 40) (st := [.ref a7, .int v1, .ref a2]) (k2 := 5 * j) (n2 := 73 * j) dX0_init_40 ml_RX0_24 mo_X9_init mi_X9_init rfl rfl rfl (tX9_init d e9 k6) (fun i ν hp => nrm hp.1) rfl rfl (Nat.le_of_ble_eq_true rfl) (by omega) (by show 66 + 73 * j ≤ 73 * (j + 1) - 7; omega) (fun v ν hp => ?_)
      obtain ⟨rfl, rfl⟩ := QAl hp
      show J _ _ _ _ 43 _ ([.ref a7, .int v1, .ref a2]) _ _ _ _
      obtain ⟨_, e15, h⟩ := bnd h
      obtain ⟨_, e16, h⟩ := bnd h
      obtain ⟨μ13, e14, h⟩ := bnd h
      refine J.wR (pc := 43) dX0_init_43 k4 (gA_ok e15) k6 (gA_ok e16) e14 ?_
      refine J.iinc (pc := 44) (j := 1) ([(1, .int (v1 + (1 : Int32))), (0, .ref v0)]) dX0_init_44 rfl (iincv ic_1) (Nat.le_of_ble_eq_true rfl) rfl ?_
      refine J.goto (pc := 47) (tgt := 25) dX0_init_47 (by decide) ?_
      refine J.pick [1, 0] rfl ?_
      exact ih v0 (v1 + (1 : Int32)) μ13 h k0 j (by omega) (a41 j v1 hj hv)
    · refine J.cge (pc := 28) (tgt := 50) dX0_init_28 (by decide) (fun q => absurd q hc) (fun _ => ?_)
      cases h
      exact J.vret (pc := 50) dX0_init_50 rfl ⟨rfl, rfl⟩
def fX0_init (v0 : Nat) (μ : Mem) : Option (Mem) :=
  (ptI μ v0 0 (0 : Int32)).bind fun μ1 =>
  (ptI μ1 v0 1 (0 : Int32)).bind fun μ3 =>
  (mkN μ3 (4, 40)).bind fun (a7, μ8) =>
  (ptR μ8 v0 2 a7).bind fun μ9 =>
  (fX0_init_25 fuel) v0 (0 : Int32) μ9
set_option maxHeartbeats 4000000 in
theorem tX0_init {ω : Wd} {l : Launch} (d : Nat) {v0 : Nat} {μ : Mem} {res : Mem} (h : fX0_init v0 μ = some res) (k0 : (kd v0).1 = 10) : Ct ω l mX0_init (d + 2) [.ref v0] μ 201 2960 (PA (.inl none) res) := by
  refine Ct.of pn_RX0 (Nat.le_of_ble_eq_true rfl) ?_
  show J ω l mX0_init (d + 2) 0 [(0, .ref v0)] [] μ 201 2960 _
  unfold fX0_init at h
  refine J.aload_n (pc := 0) dX0_init_0 rfl 0 rfl ?_
  refine J.objInit (pc := 1) dX0_init_1 ml_RX0_3 oi_1 oi_2 (Nat.le_of_ble_eq_true rfl) ?_
  refine J.aload_n (pc := 4) dX0_init_4 rfl 0 rfl ?_
  refine J.iconst (pc := 5) dX0_init_5 ic_0 ?_
  obtain ⟨μ1, e2, h⟩ := bnd h
  refine J.qI (pc := 6) dX0_init_6 fl_RX0_9 k0 (ptI_ok e2).1 rfl rfl (ptI_ok e2).2 ?_
  refine J.aload_n (pc := 9) dX0_init_9 rfl 0 rfl ?_
  refine J.iconst (pc := 10) dX0_init_10 ic_0 ?_
  obtain ⟨μ3, e4, h⟩ := bnd h
  refine J.qI (pc := 11) dX0_init_11 fl_RX0_15 k0 (ptI_ok e4).1 rfl rfl (ptI_ok e4).2 ?_
  refine J.aload_n (pc := 14) dX0_init_14 rfl 0 rfl ?_
  refine J.bipush (pc := 15) dX0_init_15 ib_40 ?_
  obtain ⟨⟨a7, μ8⟩, e5, h⟩ := bnd h
  try dsimp only at h
  have k6 : (kd a7).1 = 4 := mkN_k e5
  refine J.mANew (pc := 17) (N := 40) dX0_init_17 e5 an_1 an_2 (by decide) (by decide) (by decide) (by omega) (by omega) ?_
  obtain ⟨μ9, e10, h⟩ := bnd h
  refine J.qR (pc := 20) dX0_init_20 fl_RX0_20 k0 (ptR_ok e10).1 rfl rfl (ptR_ok e10).2 ?_
  refine J.iconst (pc := 23) dX0_init_23 ic_0 ?_
  refine J.istore_n (pc := 24) ([(1, .int (0 : Int32)), (0, .ref v0)]) dX0_init_24 rfl (Nat.le_of_ble_eq_true rfl) rfl ?_
  refine J.pick [1, 0] rfl ?_
  exact J.room (by decide) (by decide) ((tX0_init_25 d fuel) v0 (0 : Int32) μ9 h k0 40 (by decide) (by decide))
def fX0_takeBack (v0 : Nat) (v1 : Nat) (μ : Mem) : Option (Int32 × Mem) :=
  if (μ.2.1 v0 0) = 0 then
    some ((0 : Int32), μ)
  else
    (some (sI μ v0 0 ((μ.2.1 v0 0) - (1 : Int32)))).bind fun μ1 =>
    (gR μ1 v0 2 4).bind fun a4 =>
    (ldR μ1 a4 (((μ1.2.1 v0 1) + (μ1.2.1 v0 0)) - ((μ1.2.1 v0 1) + (μ1.2.1 v0 0)) / (40 : Int32) * (40 : Int32)) 19).bind fun a7 =>
    (fX9_copyFrom v1 a7 μ1).bind fun μ11 =>
    some ((1 : Int32), μ11)
set_option maxHeartbeats 4000000 in
theorem tX0_takeBack {ω : Wd} {l : Launch} (d : Nat) {v0 : Nat} {v1 : Nat} {μ : Mem} {res : Int32 × Mem} (h : fX0_takeBack v0 v1 μ = some res) (hN : μ.1 = NN) (k0 : (kd v0).1 = 10) (k1 : (kd v1).1 = 19) : Ct ω l mX0_takeBack (d + 2) [.ref v0, .ref v1] μ 0 0 (PE (.inl (some (.int res.1))) res.2 (isB res.1)) := by
  refine Ct.of pn_RX0 (Nat.le_of_ble_eq_true rfl) ?_
  show J ω l mX0_takeBack (d + 2) 0 [(0, .ref v0), (1, .ref v1)] [] μ 0 0 _
  unfold fX0_takeBack at h
  refine J.aload_n (pc := 0) dX0_takeBack_0 rfl 0 rfl ?_
  refine J.fI (pc := 1) dX0_takeBack_1 fl_RX0_9 k0 (okN hN k0 (by decide)) (Or.inl rfl) ?_
  rcases ifc h with ⟨hc, h⟩ | ⟨hc, h⟩
  · refine J.zne (pc := 4) (tgt := 9) dX0_takeBack_4 (by decide) (fun _ => ?_) (fun q => absurd hc q)
    refine J.iconst (pc := 7) dX0_takeBack_7 ic_0 ?_
    cases h
    exact J.zret (pc := 8) dX0_takeBack_8 rfl (narB (Or.inl rfl)) ⟨rfl, rfl, hN, (Or.inl rfl)⟩
  · refine J.zne (pc := 4) (tgt := 9) dX0_takeBack_4 (by decide) (fun q => absurd q hc) (fun _ => ?_)
    refine J.aload_n (pc := 9) dX0_takeBack_9 rfl 0 rfl ?_
    refine J.dup (pc := 10) dX0_takeBack_10 rfl ?_
    refine J.fI (pc := 11) dX0_takeBack_11 fl_RX0_9 k0 (okN hN k0 (by decide)) (Or.inl rfl) ?_
    refine J.iconst (pc := 14) dX0_takeBack_14 ic_1 ?_
    refine J.isub (pc := 15) dX0_takeBack_15 ?_
    obtain ⟨μ1, e2, h⟩ := bnd h
    have hN3 : μ1.1 = NN := smN e2 hN
    refine J.qI (pc := 16) dX0_takeBack_16 fl_RX0_9 k0 (okN hN k0 (by decide)) rfl rfl e2 ?_
    refine J.aload_n (pc := 19) dX0_takeBack_19 rfl 1 rfl ?_
    refine J.aload_n (pc := 20) dX0_takeBack_20 rfl 0 rfl ?_
    obtain ⟨a4, e5, h⟩ := bnd h
    have k6 : (kd a4).1 = 4 := gR_k e5
    refine J.fR (pc := 21) dX0_takeBack_21 fl_RX0_20 k0 (okN hN3 k0 (by decide)) rfl e5 ?_
    refine J.aload_n (pc := 24) dX0_takeBack_24 rfl 0 rfl ?_
    refine J.fI (pc := 25) dX0_takeBack_25 fl_RX0_15 k0 (okN hN3 k0 (by decide)) (Or.inl rfl) ?_
    refine J.aload_n (pc := 28) dX0_takeBack_28 rfl 0 rfl ?_
    refine J.fI (pc := 29) dX0_takeBack_29 fl_RX0_9 k0 (okN hN3 k0 (by decide)) (Or.inl rfl) ?_
    refine J.iadd (pc := 32) dX0_takeBack_32 ?_
    refine J.bipush (pc := 33) dX0_takeBack_33 ib_40 ?_
    refine J.irem (pc := 35) dX0_takeBack_35 (by decide) ?_
    obtain ⟨a7, e8, h⟩ := bnd h
    have k9 : (kd a7).1 = 19 := ldR_k e8
    refine J.aR (pc := 36) dX0_takeBack_36 (Or.inr k6) (okN hN3 k6 (by decide)) e8 ?_
    obtain ⟨μ11, e10, h⟩ := bnd h
    refine J.callV (Y := mX0_takeBack) (Z := mX9_copyFrom) (pc := 37) (st := []) (k2 := 0) (n2 := 0) dX0_takeBack_37 ml_RX0_25 mo_X9_copyFrom mv_X9_copyFrom rfl (tX9_copyFrom d e10 hN3 k1 k9) k1 (okN hN3 k1 (by decide)).1 (okN hN3 k1 (by decide)).2 cq_9 (by decide) rfl rfl (Nat.le_of_ble_eq_true rfl) (by decide) (by decide) (fun v ν hp => ?_) (fun i ν hp => nrm hp.1)
    obtain ⟨rfl, rfl, hN12, hb13⟩ := QEl hp
    show J _ _ _ _ 40 _ ([]) _ _ _ _
    refine J.iconst (pc := 40) dX0_takeBack_40 ic_1 ?_
    cases h
    exact J.zret (pc := 41) dX0_takeBack_41 rfl (narB (Or.inr rfl)) ⟨rfl, rfl, hN12, (Or.inr rfl)⟩
def fX10_days (v0 : Nat) (v1 : Int32) (μ : Mem) : Option (Int32 × Mem) :=
  if v1 < (1 : Int32) then
    (gR μ v0 3 0).bind fun a1 =>
    (ldI μ a1 (1 : Int32)).bind fun x4 =>
    (stI μ a1 (1 : Int32) (x4 + (1 : Int32))).bind fun μ6 =>
    some ((-1 : Int32), μ6)
  else
    if (20 : Int32) < v1 then
      (gR μ v0 3 0).bind fun a9 =>
      (ldI μ a9 (1 : Int32)).bind fun x12 =>
      (stI μ a9 (1 : Int32) (x12 + (1 : Int32))).bind fun μ14 =>
      some ((-1 : Int32), μ14)
    else
      (gR μ v0 7 19).bind fun a17 =>
      if (9999 : Int32) < ((μ.2.1 a17 0) + v1) then
        (gR μ v0 3 0).bind fun a20 =>
        (ldI μ a20 (1 : Int32)).bind fun x23 =>
        (stI μ a20 (1 : Int32) (x23 + (1 : Int32))).bind fun μ25 =>
        some ((-1 : Int32), μ25)
      else
        (gR μ v0 8 10).bind fun a28 =>
        (gR μ v0 7 19).bind fun a31 =>
        (fX0_keep a28 a31 μ).bind fun μ35 =>
        (fX10_runAhead v0 v1 μ35).bind fun μ39 =>
        (gR μ39 v0 7 19).bind fun a42 =>
        (gR μ39 v0 14 12).bind fun a45 =>
        (gR μ39 a45 0 19).bind fun a48 =>
        (fX9_copyFrom a42 a48 μ39).bind fun μ52 =>
        (gR μ52 v0 7 19).bind fun a55 =>
        some ((μ52.2.1 a55 0), μ52)
set_option maxHeartbeats 4000000 in
theorem tX10_days {ω : Wd} {l : Launch} (d : Nat) {v0 : Nat} {v1 : Int32} {μ : Mem} {res : Int32 × Mem} (h : fX10_days v0 v1 μ = some res) (hN : μ.1 = NN) (k0 : (kd v0).1 = 20) : Ct ω l mX10_days (d + 6) [.ref v0, .int v1] μ 0 0 (PE (.inl (some (.int res.1))) res.2 True) := by
  refine Ct.of pn_RX10 (Nat.le_of_ble_eq_true rfl) ?_
  show J ω l mX10_days (d + 6) 0 [(0, .ref v0), (1, .int v1)] [] μ 0 0 _
  unfold fX10_days at h
  refine J.iload_n (pc := 0) dX10_days_0 rfl 1 rfl ?_
  refine J.iconst (pc := 1) dX10_days_1 ic_1 ?_
  rcases ifc h with ⟨hc, h⟩ | ⟨hc, h⟩
  · refine J.clt (pc := 2) (tgt := 26) dX10_days_2 (by decide) (fun _ => ?_) (fun q => absurd hc q)
    refine J.aload_n (pc := 26) dX10_days_26 rfl 0 rfl ?_
    obtain ⟨a1, e2, h⟩ := bnd h
    have k3 : (kd a1).1 = 0 := gR_k e2
    refine J.fR (pc := 27) dX10_days_27 fl_RX10_20 k0 (okN hN k0 (by decide)) rfl e2 ?_
    refine J.iconst (pc := 30) dX10_days_30 ic_1 ?_
    refine J.dup2 (pc := 31) dX10_days_31 rfl rfl ?_
    obtain ⟨x4, e5, h⟩ := bnd h
    refine J.aI (pc := 32) dX10_days_32 k3 (okN hN k3 (by decide)) e5 ?_
    refine J.iconst (pc := 33) dX10_days_33 ic_1 ?_
    refine J.iadd (pc := 34) dX10_days_34 ?_
    obtain ⟨μ6, e7, h⟩ := bnd h
    have hN8 : μ6.1 = NN := stI_N e7 hN
    refine J.wI (pc := 35) dX10_days_35 k3 (okN hN k3 (by decide)) e7 ?_
    refine J.iconst (pc := 36) dX10_days_36 ic_m1 ?_
    cases h
    exact J.iret (pc := 37) dX10_days_37 rfl ⟨rfl, rfl, hN8, trivial⟩
  · refine J.clt (pc := 2) (tgt := 26) dX10_days_2 (by decide) (fun q => absurd q hc) (fun _ => ?_)
    refine J.iload_n (pc := 5) dX10_days_5 rfl 1 rfl ?_
    refine J.bipush (pc := 6) dX10_days_6 ib_20 ?_
    rcases ifc h with ⟨hc, h⟩ | ⟨hc, h⟩
    · refine J.cgt (pc := 8) (tgt := 26) dX10_days_8 (by decide) (fun _ => ?_) (fun q => absurd hc q)
      refine J.aload_n (pc := 26) dX10_days_26 rfl 0 rfl ?_
      obtain ⟨a9, e10, h⟩ := bnd h
      have k11 : (kd a9).1 = 0 := gR_k e10
      refine J.fR (pc := 27) dX10_days_27 fl_RX10_20 k0 (okN hN k0 (by decide)) rfl e10 ?_
      refine J.iconst (pc := 30) dX10_days_30 ic_1 ?_
      refine J.dup2 (pc := 31) dX10_days_31 rfl rfl ?_
      obtain ⟨x12, e13, h⟩ := bnd h
      refine J.aI (pc := 32) dX10_days_32 k11 (okN hN k11 (by decide)) e13 ?_
      refine J.iconst (pc := 33) dX10_days_33 ic_1 ?_
      refine J.iadd (pc := 34) dX10_days_34 ?_
      obtain ⟨μ14, e15, h⟩ := bnd h
      have hN16 : μ14.1 = NN := stI_N e15 hN
      refine J.wI (pc := 35) dX10_days_35 k11 (okN hN k11 (by decide)) e15 ?_
      refine J.iconst (pc := 36) dX10_days_36 ic_m1 ?_
      cases h
      exact J.iret (pc := 37) dX10_days_37 rfl ⟨rfl, rfl, hN16, trivial⟩
    · refine J.cgt (pc := 8) (tgt := 26) dX10_days_8 (by decide) (fun q => absurd q hc) (fun _ => ?_)
      refine J.aload_n (pc := 11) dX10_days_11 rfl 0 rfl ?_
      obtain ⟨a17, e18, h⟩ := bnd h
      have k19 : (kd a17).1 = 19 := gR_k e18
      refine J.fR (pc := 12) dX10_days_12 fl_RX10_45 k0 (okN hN k0 (by decide)) rfl e18 ?_
      refine J.fI (pc := 15) dX10_days_15 fl_RX10_150 k19 (okN hN k19 (by decide)) (Or.inl rfl) ?_
      refine J.iload_n (pc := 18) dX10_days_18 rfl 1 rfl ?_
      refine J.iadd (pc := 19) dX10_days_19 ?_
      refine J.sipush (pc := 20) dX10_days_20 is_9999 ?_
      rcases ifc h with ⟨hc, h⟩ | ⟨hc, h⟩
      · refine J.cle (pc := 23) (tgt := 38) dX10_days_23 (by decide) (fun _ => ?_) (fun q => absurd hc q)
        refine J.aload_n (pc := 26) dX10_days_26 rfl 0 rfl ?_
        obtain ⟨a20, e21, h⟩ := bnd h
        have k22 : (kd a20).1 = 0 := gR_k e21
        refine J.fR (pc := 27) dX10_days_27 fl_RX10_20 k0 (okN hN k0 (by decide)) rfl e21 ?_
        refine J.iconst (pc := 30) dX10_days_30 ic_1 ?_
        refine J.dup2 (pc := 31) dX10_days_31 rfl rfl ?_
        obtain ⟨x23, e24, h⟩ := bnd h
        refine J.aI (pc := 32) dX10_days_32 k22 (okN hN k22 (by decide)) e24 ?_
        refine J.iconst (pc := 33) dX10_days_33 ic_1 ?_
        refine J.iadd (pc := 34) dX10_days_34 ?_
        obtain ⟨μ25, e26, h⟩ := bnd h
        have hN27 : μ25.1 = NN := stI_N e26 hN
        refine J.wI (pc := 35) dX10_days_35 k22 (okN hN k22 (by decide)) e26 ?_
        refine J.iconst (pc := 36) dX10_days_36 ic_m1 ?_
        cases h
        exact J.iret (pc := 37) dX10_days_37 rfl ⟨rfl, rfl, hN27, trivial⟩
      · refine J.cle (pc := 23) (tgt := 38) dX10_days_23 (by decide) (fun q => absurd q hc) (fun _ => ?_)
        refine J.aload_n (pc := 38) dX10_days_38 rfl 0 rfl ?_
        obtain ⟨a28, e29, h⟩ := bnd h
        have k30 : (kd a28).1 = 10 := gR_k e29
        refine J.fR (pc := 39) dX10_days_39 fl_RX10_52 k0 (okN hN k0 (by decide)) rfl e29 ?_
        refine J.aload_n (pc := 42) dX10_days_42 rfl 0 rfl ?_
        obtain ⟨a31, e32, h⟩ := bnd h
        have k33 : (kd a31).1 = 19 := gR_k e32
        refine J.fR (pc := 43) dX10_days_43 fl_RX10_45 k0 (okN hN k0 (by decide)) rfl e32 ?_
        obtain ⟨μ35, e34, h⟩ := bnd h
        refine J.callV (Y := mX10_days) (Z := mX0_keep) (pc := 46) (st := []) (k2 := 0) (n2 := 0) dX10_days_46 ml_RX10_236 mo_X0_keep mv_X0_keep rfl (tX0_keep (d + 3) e34 hN k30 k33) k30 (okN hN k30 (by decide)).1 (okN hN k30 (by decide)).2 cq_0 (by decide) rfl rfl (Nat.le_of_ble_eq_true rfl) (by decide) (by decide) (fun v ν hp => ?_) (fun i ν hp => nrm hp.1)
        obtain ⟨rfl, rfl, hN36, hb37⟩ := QEl hp
        show J _ _ _ _ 49 _ ([]) _ _ _ _
        refine J.aload_n (pc := 49) dX10_days_49 rfl 0 rfl ?_
        refine J.iload_n (pc := 50) dX10_days_50 rfl 1 rfl ?_
        obtain ⟨μ39, e38, h⟩ := bnd h
        refine J.callV (Y := mX10_days) (Z := mX10_runAhead) (pc := 51) (st := []) (k2 := 0) (n2 := 0) dX10_days_51 ml_RX10_239 mo_X10_runAhead mv_X10_runAhead rfl (tX10_runAhead d e38 hN36 k0) k0 (okN hN36 k0 (by decide)).1 (okN hN36 k0 (by decide)).2 cq_10 (by decide) rfl rfl (Nat.le_of_ble_eq_true rfl) (by decide) (by decide) (fun v ν hp => ?_) (fun i ν hp => nrm hp.1)
        obtain ⟨rfl, rfl, hN40, hb41⟩ := QEl hp
        show J _ _ _ _ 54 _ ([]) _ _ _ _
        refine J.aload_n (pc := 54) dX10_days_54 rfl 0 rfl ?_
        obtain ⟨a42, e43, h⟩ := bnd h
        have k44 : (kd a42).1 = 19 := gR_k e43
        refine J.fR (pc := 55) dX10_days_55 fl_RX10_45 k0 (okN hN40 k0 (by decide)) rfl e43 ?_
        refine J.aload_n (pc := 58) dX10_days_58 rfl 0 rfl ?_
        obtain ⟨a45, e46, h⟩ := bnd h
        have k47 : (kd a45).1 = 12 := gR_k e46
        refine J.fR (pc := 59) dX10_days_59 fl_RX10_79 k0 (okN hN40 k0 (by decide)) rfl e46 ?_
        obtain ⟨a48, e49, h⟩ := bnd h
        have k50 : (kd a48).1 = 19 := gR_k e49
        refine J.fR (pc := 62) dX10_days_62 fl_RX10_242 k47 (okN hN40 k47 (by decide)) rfl e49 ?_
        obtain ⟨μ52, e51, h⟩ := bnd h
        refine J.callV (Y := mX10_days) (Z := mX9_copyFrom) (pc := 65) (st := []) (k2 := 0) (n2 := 0) dX10_days_65 ml_RX10_132 mo_X9_copyFrom mv_X9_copyFrom rfl (tX9_copyFrom (d + 4) e51 hN40 k44 k50) k44 (okN hN40 k44 (by decide)).1 (okN hN40 k44 (by decide)).2 cq_9 (by decide) rfl rfl (Nat.le_of_ble_eq_true rfl) (by decide) (by decide) (fun v ν hp => ?_) (fun i ν hp => nrm hp.1)
        obtain ⟨rfl, rfl, hN53, hb54⟩ := QEl hp
        show J _ _ _ _ 68 _ ([]) _ _ _ _
        refine J.aload_n (pc := 68) dX10_days_68 rfl 0 rfl ?_
        obtain ⟨a55, e56, h⟩ := bnd h
        have k57 : (kd a55).1 = 19 := gR_k e56
        refine J.fR (pc := 69) dX10_days_69 fl_RX10_45 k0 (okN hN53 k0 (by decide)) rfl e56 ?_
        refine J.fI (pc := 72) dX10_days_72 fl_RX10_150 k57 (okN hN53 k57 (by decide)) (Or.inl rfl) ?_
        cases h
        exact J.iret (pc := 75) dX10_days_75 rfl ⟨rfl, rfl, hN53, trivial⟩
def fX10_fault (v0 : Nat) (μ : Mem) : Int32 :=
  (μ.2.1 v0 2)
set_option maxHeartbeats 4000000 in
theorem tX10_fault {ω : Wd} {l : Launch} (d : Nat) (v0 : Nat) (μ : Mem) (hN : μ.1 = NN) (k0 : (kd v0).1 = 20) : Ct ω l mX10_fault d [.ref v0] μ 0 0 (PE (.inl (some (.int (fX10_fault v0 μ)))) μ True) := by
  refine Ct.of pn_RX10 (Nat.le_of_ble_eq_true rfl) ?_
  show J ω l mX10_fault d 0 [(0, .ref v0)] [] μ 0 0 _
  generalize h : fX10_fault v0 μ = res
  unfold fX10_fault at h
  refine J.aload_n (pc := 0) dX10_fault_0 rfl 0 rfl ?_
  refine J.fI (pc := 1) dX10_fault_1 fl_RX10_17 k0 (okN hN k0 (by decide)) (Or.inl rfl) ?_
  cases h
  exact J.iret (pc := 4) dX10_fault_4 rfl ⟨rfl, rfl, hN, trivial⟩
def fX10_putBytes_3  : Nat → Nat → Int32 → Int32 → Mem → Option (Mem)
  | 0, _, _, _, _ => none
  | n + 1, v0, v1, v2, μ =>
    if v2 < 0 then
      some μ
    else
      if (μ.2.1 v0 1) < (700 : Int32) then
        (gR μ v0 0 0).bind fun a1 =>
        (stI μ a1 (μ.2.1 v0 1) (((v1.toUInt32 >>> (v2.toUInt32 &&& Int32.toUInt32 31)).toInt32) &&& (255 : Int32))).bind fun μ4 =>
        (some (sI μ4 v0 1 ((μ4.2.1 v0 1) + (1 : Int32)))).bind fun μ7 =>
        (fX10_putBytes_3 n) v0 v1 (v2 + (-8 : Int32)) μ7
      else
        (fX10_putBytes_3 n) v0 v1 (v2 + (-8 : Int32)) μ
set_option maxHeartbeats 4000000 in
theorem tX10_putBytes_3 {ω : Wd} {l : Launch} (d : Nat) {res : Mem} : ∀ n : Nat, ∀ (v0 : Nat) (v1 : Int32) (v2 : Int32) (μ : Mem), fX10_putBytes_3 n v0 v1 v2 μ = some res → μ.1 = NN → (kd v0).1 = 20 → J ω l mX10_putBytes d 3 [(0, .ref v0), (1, .int v1), (2, .int v2)] [] μ 0 0 (PE (.inl none) res True) := by
  intro n
  induction n with
  | zero =>
    intro v0 v1 v2 μ h hN k0
    have h9 : (none : Option (Mem)) = some res := h
    cases h9
  | succ n ih =>
    intro v0 v1 v2 μ h hN k0
    unfold fX10_putBytes_3 at h
    refine J.iload_n (pc := 3) dX10_putBytes_3 rfl 2 rfl ?_
    rcases ifc h with ⟨hc, h⟩ | ⟨hc, h⟩
    · refine J.zlt (pc := 4) (tgt := 49) dX10_putBytes_4 (by decide) (fun _ => ?_) (fun q => absurd hc q)
      cases h
      exact J.vret (pc := 49) dX10_putBytes_49 rfl ⟨rfl, rfl, hN, trivial⟩
    · refine J.zlt (pc := 4) (tgt := 49) dX10_putBytes_4 (by decide) (fun q => absurd q hc) (fun _ => ?_)
      refine J.aload_n (pc := 7) dX10_putBytes_7 rfl 0 rfl ?_
      refine J.fI (pc := 8) dX10_putBytes_8 fl_RX10_13 k0 (okN hN k0 (by decide)) (Or.inl rfl) ?_
      refine J.sipush (pc := 11) dX10_putBytes_11 is_700 ?_
      rcases ifc h with ⟨hc, h⟩ | ⟨hc, h⟩
      · refine J.cge (pc := 14) (tgt := 43) dX10_putBytes_14 (by decide) (fun _ => ?_) (fun q => absurd hc q)
        refine J.aload_n (pc := 17) dX10_putBytes_17 rfl 0 rfl ?_
        obtain ⟨a1, e2, h⟩ := bnd h
        have k3 : (kd a1).1 = 0 := gR_k e2
        refine J.fR (pc := 18) dX10_putBytes_18 fl_RX10_9 k0 (okN hN k0 (by decide)) rfl e2 ?_
        refine J.aload_n (pc := 21) dX10_putBytes_21 rfl 0 rfl ?_
        refine J.fI (pc := 22) dX10_putBytes_22 fl_RX10_13 k0 (okN hN k0 (by decide)) (Or.inl rfl) ?_
        refine J.iload_n (pc := 25) dX10_putBytes_25 rfl 1 rfl ?_
        refine J.iload_n (pc := 26) dX10_putBytes_26 rfl 2 rfl ?_
        refine J.iushr (pc := 27) dX10_putBytes_27 ?_
        refine J.sipush (pc := 28) dX10_putBytes_28 is_255 ?_
        refine J.iand (pc := 31) dX10_putBytes_31 ?_
        obtain ⟨μ4, e5, h⟩ := bnd h
        have hN6 : μ4.1 = NN := stI_N e5 hN
        refine J.wI (pc := 32) dX10_putBytes_32 k3 (okN hN k3 (by decide)) e5 ?_
        refine J.aload_n (pc := 33) dX10_putBytes_33 rfl 0 rfl ?_
        refine J.dup (pc := 34) dX10_putBytes_34 rfl ?_
        refine J.fI (pc := 35) dX10_putBytes_35 fl_RX10_13 k0 (okN hN6 k0 (by decide)) (Or.inl rfl) ?_
        refine J.iconst (pc := 38) dX10_putBytes_38 ic_1 ?_
        refine J.iadd (pc := 39) dX10_putBytes_39 ?_
        obtain ⟨μ7, e8, h⟩ := bnd h
        have hN9 : μ7.1 = NN := smN e8 hN6
        refine J.qI (pc := 40) dX10_putBytes_40 fl_RX10_13 k0 (okN hN6 k0 (by decide)) rfl rfl e8 ?_
        refine J.iinc (pc := 43) (j := 2) ([(2, .int (v2 + (-8 : Int32))), (0, .ref v0), (1, .int v1)]) dX10_putBytes_43 rfl (iincv ic_m8) (Nat.le_of_ble_eq_true rfl) rfl ?_
        refine J.goto (pc := 46) (tgt := 3) dX10_putBytes_46 (by decide) ?_
        refine J.pick [1, 2, 0] rfl ?_
        exact ih v0 v1 (v2 + (-8 : Int32)) μ7 h hN9 k0
      · refine J.cge (pc := 14) (tgt := 43) dX10_putBytes_14 (by decide) (fun q => absurd q hc) (fun _ => ?_)
        refine J.iinc (pc := 43) (j := 2) ([(2, .int (v2 + (-8 : Int32))), (0, .ref v0), (1, .int v1)]) dX10_putBytes_43 rfl (iincv ic_m8) (Nat.le_of_ble_eq_true rfl) rfl ?_
        refine J.goto (pc := 46) (tgt := 3) dX10_putBytes_46 (by decide) ?_
        refine J.pick [1, 2, 0] rfl ?_
        exact ih v0 v1 (v2 + (-8 : Int32)) μ h hN k0
def fX10_putBytes (v0 : Nat) (v1 : Int32) (μ : Mem) : Option (Mem) :=
  (fX10_putBytes_3 fuel) v0 v1 (24 : Int32) μ
set_option maxHeartbeats 4000000 in
theorem tX10_putBytes {ω : Wd} {l : Launch} (d : Nat) {v0 : Nat} {v1 : Int32} {μ : Mem} {res : Mem} (h : fX10_putBytes v0 v1 μ = some res) (hN : μ.1 = NN) (k0 : (kd v0).1 = 20) : Ct ω l mX10_putBytes d [.ref v0, .int v1] μ 0 0 (PE (.inl none) res True) := by
  refine Ct.of pn_RX10 (Nat.le_of_ble_eq_true rfl) ?_
  show J ω l mX10_putBytes d 0 [(0, .ref v0), (1, .int v1)] [] μ 0 0 _
  unfold fX10_putBytes at h
  refine J.bipush (pc := 0) dX10_putBytes_0 ib_24 ?_
  refine J.istore_n (pc := 2) ([(2, .int (24 : Int32)), (0, .ref v0), (1, .int v1)]) dX10_putBytes_2 rfl (Nat.le_of_ble_eq_true rfl) rfl ?_
  refine J.pick [1, 2, 0] rfl ?_
  exact (tX10_putBytes_3 d fuel) v0 v1 (24 : Int32) μ h hN k0
def fX10_feed (v0 : Nat) (v1 : Int32) (v2 : Int32) (v3 : Int32) (v4 : Int32) (v5 : Int32) (μ : Mem) : Option (Int32 × Mem) :=
  if (700 : Int32) < ((μ.2.1 v0 1) + (20 : Int32)) then
    some ((-1 : Int32), μ)
  else
    (fX10_putBytes v0 v1 μ).bind fun μ2 =>
    (fX10_putBytes v0 v2 μ2).bind fun μ6 =>
    (fX10_putBytes v0 v3 μ6).bind fun μ10 =>
    (fX10_putBytes v0 v4 μ10).bind fun μ14 =>
    (fX10_putBytes v0 v5 μ14).bind fun μ18 =>
    some ((μ18.2.1 v0 1), μ18)
set_option maxHeartbeats 4000000 in
theorem tX10_feed {ω : Wd} {l : Launch} (d : Nat) {v0 : Nat} {v1 : Int32} {v2 : Int32} {v3 : Int32} {v4 : Int32} {v5 : Int32} {μ : Mem} {res : Int32 × Mem} (h : fX10_feed v0 v1 v2 v3 v4 v5 μ = some res) (hN : μ.1 = NN) (k0 : (kd v0).1 = 20) : Ct ω l mX10_feed (d + 1) [.ref v0, .int v1, .int v2, .int v3, .int v4, .int v5] μ 0 0 (PE (.inl (some (.int res.1))) res.2 True) := by
  refine Ct.of pn_RX10 (Nat.le_of_ble_eq_true rfl) ?_
  show J ω l mX10_feed (d + 1) 0 [(0, .ref v0), (1, .int v1), (2, .int v2), (3, .int v3), (4, .int v4), (5, .int v5)] [] μ 0 0 _
  unfold fX10_feed at h
  refine J.aload_n (pc := 0) dX10_feed_0 rfl 0 rfl ?_
  refine J.fI (pc := 1) dX10_feed_1 fl_RX10_13 k0 (okN hN k0 (by decide)) (Or.inl rfl) ?_
  refine J.bipush (pc := 4) dX10_feed_4 ib_20 ?_
  refine J.iadd (pc := 6) dX10_feed_6 ?_
  refine J.sipush (pc := 7) dX10_feed_7 is_700 ?_
  rcases ifc h with ⟨hc, h⟩ | ⟨hc, h⟩
  · refine J.cle (pc := 10) (tgt := 15) dX10_feed_10 (by decide) (fun _ => ?_) (fun q => absurd hc q)
    refine J.iconst (pc := 13) dX10_feed_13 ic_m1 ?_
    cases h
    exact J.iret (pc := 14) dX10_feed_14 rfl ⟨rfl, rfl, hN, trivial⟩
  · refine J.cle (pc := 10) (tgt := 15) dX10_feed_10 (by decide) (fun q => absurd q hc) (fun _ => ?_)
    refine J.aload_n (pc := 15) dX10_feed_15 rfl 0 rfl ?_
    refine J.iload_n (pc := 16) dX10_feed_16 rfl 1 rfl ?_
    obtain ⟨μ2, e1, h⟩ := bnd h
    refine J.callV (Y := mX10_feed) (Z := mX10_putBytes) (pc := 17) (st := []) (k2 := 0) (n2 := 0) dX10_feed_17 ml_RX10_113 mo_X10_putBytes mv_X10_putBytes rfl (tX10_putBytes d e1 hN k0) k0 (okN hN k0 (by decide)).1 (okN hN k0 (by decide)).2 cq_10 (by decide) rfl rfl (Nat.le_of_ble_eq_true rfl) (by decide) (by decide) (fun v ν hp => ?_) (fun i ν hp => nrm hp.1)
    obtain ⟨rfl, rfl, hN3, hb4⟩ := QEl hp
    show J _ _ _ _ 20 _ ([]) _ _ _ _
    refine J.aload_n (pc := 20) dX10_feed_20 rfl 0 rfl ?_
    refine J.iload_n (pc := 21) dX10_feed_21 rfl 2 rfl ?_
    obtain ⟨μ6, e5, h⟩ := bnd h
    refine J.callV (Y := mX10_feed) (Z := mX10_putBytes) (pc := 22) (st := []) (k2 := 0) (n2 := 0) dX10_feed_22 ml_RX10_113 mo_X10_putBytes mv_X10_putBytes rfl (tX10_putBytes d e5 hN3 k0) k0 (okN hN3 k0 (by decide)).1 (okN hN3 k0 (by decide)).2 cq_10 (by decide) rfl rfl (Nat.le_of_ble_eq_true rfl) (by decide) (by decide) (fun v ν hp => ?_) (fun i ν hp => nrm hp.1)
    obtain ⟨rfl, rfl, hN7, hb8⟩ := QEl hp
    show J _ _ _ _ 25 _ ([]) _ _ _ _
    refine J.aload_n (pc := 25) dX10_feed_25 rfl 0 rfl ?_
    refine J.iload_n (pc := 26) dX10_feed_26 rfl 3 rfl ?_
    obtain ⟨μ10, e9, h⟩ := bnd h
    refine J.callV (Y := mX10_feed) (Z := mX10_putBytes) (pc := 27) (st := []) (k2 := 0) (n2 := 0) dX10_feed_27 ml_RX10_113 mo_X10_putBytes mv_X10_putBytes rfl (tX10_putBytes d e9 hN7 k0) k0 (okN hN7 k0 (by decide)).1 (okN hN7 k0 (by decide)).2 cq_10 (by decide) rfl rfl (Nat.le_of_ble_eq_true rfl) (by decide) (by decide) (fun v ν hp => ?_) (fun i ν hp => nrm hp.1)
    obtain ⟨rfl, rfl, hN11, hb12⟩ := QEl hp
    show J _ _ _ _ 30 _ ([]) _ _ _ _
    refine J.aload_n (pc := 30) dX10_feed_30 rfl 0 rfl ?_
    refine J.iload (pc := 31) dX10_feed_31 4 rfl ?_
    obtain ⟨μ14, e13, h⟩ := bnd h
    refine J.callV (Y := mX10_feed) (Z := mX10_putBytes) (pc := 33) (st := []) (k2 := 0) (n2 := 0) dX10_feed_33 ml_RX10_113 mo_X10_putBytes mv_X10_putBytes rfl (tX10_putBytes d e13 hN11 k0) k0 (okN hN11 k0 (by decide)).1 (okN hN11 k0 (by decide)).2 cq_10 (by decide) rfl rfl (Nat.le_of_ble_eq_true rfl) (by decide) (by decide) (fun v ν hp => ?_) (fun i ν hp => nrm hp.1)
    obtain ⟨rfl, rfl, hN15, hb16⟩ := QEl hp
    show J _ _ _ _ 36 _ ([]) _ _ _ _
    refine J.aload_n (pc := 36) dX10_feed_36 rfl 0 rfl ?_
    refine J.iload (pc := 37) dX10_feed_37 5 rfl ?_
    obtain ⟨μ18, e17, h⟩ := bnd h
    refine J.callV (Y := mX10_feed) (Z := mX10_putBytes) (pc := 39) (st := []) (k2 := 0) (n2 := 0) dX10_feed_39 ml_RX10_113 mo_X10_putBytes mv_X10_putBytes rfl (tX10_putBytes d e17 hN15 k0) k0 (okN hN15 k0 (by decide)).1 (okN hN15 k0 (by decide)).2 cq_10 (by decide) rfl rfl (Nat.le_of_ble_eq_true rfl) (by decide) (by decide) (fun v ν hp => ?_) (fun i ν hp => nrm hp.1)
    obtain ⟨rfl, rfl, hN19, hb20⟩ := QEl hp
    show J _ _ _ _ 42 _ ([]) _ _ _ _
    refine J.aload_n (pc := 42) dX10_feed_42 rfl 0 rfl ?_
    refine J.fI (pc := 43) dX10_feed_43 fl_RX10_13 k0 (okN hN19 k0 (by decide)) (Or.inl rfl) ?_
    cases h
    exact J.iret (pc := 46) dX10_feed_46 rfl ⟨rfl, rfl, hN19, trivial⟩
def fX10_forget (v0 : Nat) (μ : Mem) : Option (Mem) :=
  (gR μ v0 9 18).bind fun a1 =>
  (fX8_drop a1 μ).bind fun μ5 =>
  some μ5
set_option maxHeartbeats 4000000 in
theorem tX10_forget {ω : Wd} {l : Launch} (d : Nat) {v0 : Nat} {μ : Mem} {res : Mem} (h : fX10_forget v0 μ = some res) (hN : μ.1 = NN) (k0 : (kd v0).1 = 20) : Ct ω l mX10_forget (d + 1) [.ref v0] μ 0 0 (PE (.inl none) res True) := by
  refine Ct.of pn_RX10 (Nat.le_of_ble_eq_true rfl) ?_
  show J ω l mX10_forget (d + 1) 0 [(0, .ref v0)] [] μ 0 0 _
  unfold fX10_forget at h
  refine J.aload_n (pc := 0) dX10_forget_0 rfl 0 rfl ?_
  obtain ⟨a1, e2, h⟩ := bnd h
  have k3 : (kd a1).1 = 18 := gR_k e2
  refine J.fR (pc := 1) dX10_forget_1 fl_RX10_59 k0 (okN hN k0 (by decide)) rfl e2 ?_
  obtain ⟨μ5, e4, h⟩ := bnd h
  refine J.callV (Y := mX10_forget) (Z := mX8_drop) (pc := 4) (st := []) (k2 := 0) (n2 := 0) dX10_forget_4 ml_RX10_139 mo_X8_drop mv_X8_drop rfl (tX8_drop d e4 hN k3) k3 (okN hN k3 (by decide)).1 (okN hN k3 (by decide)).2 cq_8 (by decide) rfl rfl (Nat.le_of_ble_eq_true rfl) (by decide) (by decide) (fun v ν hp => ?_) (fun i ν hp => nrm hp.1)
  obtain ⟨rfl, rfl, hN6, hb7⟩ := QEl hp
  show J _ _ _ _ 7 _ ([]) _ _ _ _
  cases h
  exact J.vret (pc := 7) dX10_forget_7 rfl ⟨rfl, rfl, hN6, trivial⟩
def fX8_copyFrom (v0 : Nat) (v1 : Nat) (μ : Mem) : Option (Mem) :=
  (some (sI μ v0 0 (μ.2.1 v1 0))).bind fun μ1 =>
  (gR μ1 v1 1 0).bind fun a4 =>
  (gR μ1 v0 1 0).bind fun a7 =>
  (cpI μ1 a4 (0 : Int32) a7 (0 : Int32) (8 : Int32)).bind fun μ10 =>
  (gR μ10 v1 2 0).bind fun a13 =>
  (gR μ10 v0 2 0).bind fun a16 =>
  (cpI μ10 a13 (0 : Int32) a16 (0 : Int32) (8 : Int32)).bind fun μ19 =>
  (gR μ19 v1 3 0).bind fun a22 =>
  (gR μ19 v0 3 0).bind fun a25 =>
  (cpI μ19 a22 (0 : Int32) a25 (0 : Int32) (8 : Int32)).bind fun μ28 =>
  some μ28
set_option maxHeartbeats 4000000 in
theorem tX8_copyFrom {ω : Wd} {l : Launch} (d : Nat) {v0 : Nat} {v1 : Nat} {μ : Mem} {res : Mem} (h : fX8_copyFrom v0 v1 μ = some res) (hN : μ.1 = NN) (k0 : (kd v0).1 = 18) (k1 : (kd v1).1 = 18) : Ct ω l mX8_copyFrom (d + 1) [.ref v0, .ref v1] μ 0 0 (PE (.inl none) res True) := by
  refine Ct.of pn_RX8 (Nat.le_of_ble_eq_true rfl) ?_
  show J ω l mX8_copyFrom (d + 1) 0 [(0, .ref v0), (1, .ref v1)] [] μ 0 0 _
  unfold fX8_copyFrom at h
  refine J.aload_n (pc := 0) dX8_copyFrom_0 rfl 0 rfl ?_
  refine J.aload_n (pc := 1) dX8_copyFrom_1 rfl 1 rfl ?_
  refine J.fI (pc := 2) dX8_copyFrom_2 fl_RX8_9 k1 (okN hN k1 (by decide)) (Or.inl rfl) ?_
  obtain ⟨μ1, e2, h⟩ := bnd h
  have hN3 : μ1.1 = NN := smN e2 hN
  refine J.qI (pc := 5) dX8_copyFrom_5 fl_RX8_9 k0 (okN hN k0 (by decide)) rfl rfl e2 ?_
  refine J.aload_n (pc := 8) dX8_copyFrom_8 rfl 1 rfl ?_
  obtain ⟨a4, e5, h⟩ := bnd h
  have k6 : (kd a4).1 = 0 := gR_k e5
  refine J.fR (pc := 9) dX8_copyFrom_9 fl_RX8_15 k1 (okN hN3 k1 (by decide)) rfl e5 ?_
  refine J.iconst (pc := 12) dX8_copyFrom_12 ic_0 ?_
  refine J.aload_n (pc := 13) dX8_copyFrom_13 rfl 0 rfl ?_
  obtain ⟨a7, e8, h⟩ := bnd h
  have k9 : (kd a7).1 = 0 := gR_k e8
  refine J.fR (pc := 14) dX8_copyFrom_14 fl_RX8_15 k0 (okN hN3 k0 (by decide)) rfl e8 ?_
  refine J.iconst (pc := 17) dX8_copyFrom_17 ic_0 ?_
  refine J.bipush (pc := 18) dX8_copyFrom_18 ib_8 ?_
  obtain ⟨μ10, e11, h⟩ := bnd h
  have hN12 : μ10.1 = NN := cpI_N e11 hN3
  refine J.copy (pc := 20) dX8_copyFrom_20 ml_RX8_25 ac_1 ac_2 ac_3 hN3 k6 (okN hN3 k6 (by decide)).1 k9 (okN hN3 k9 (by decide)).1 (cpI_ok e11).1 (cpI_ok e11).2.1 (cpI_ok e11).2.2.1 (cpI_ok e11).2.2.2.1 (cpI_ok e11).2.2.2.2.1 (Nat.le_of_ble_eq_true rfl) ?_
  rw [(cpI_ok e11).2.2.2.2.2]
  refine J.aload_n (pc := 23) dX8_copyFrom_23 rfl 1 rfl ?_
  obtain ⟨a13, e14, h⟩ := bnd h
  have k15 : (kd a13).1 = 0 := gR_k e14
  refine J.fR (pc := 24) dX8_copyFrom_24 fl_RX8_19 k1 (okN hN12 k1 (by decide)) rfl e14 ?_
  refine J.iconst (pc := 27) dX8_copyFrom_27 ic_0 ?_
  refine J.aload_n (pc := 28) dX8_copyFrom_28 rfl 0 rfl ?_
  obtain ⟨a16, e17, h⟩ := bnd h
  have k18 : (kd a16).1 = 0 := gR_k e17
  refine J.fR (pc := 29) dX8_copyFrom_29 fl_RX8_19 k0 (okN hN12 k0 (by decide)) rfl e17 ?_
  refine J.iconst (pc := 32) dX8_copyFrom_32 ic_0 ?_
  refine J.bipush (pc := 33) dX8_copyFrom_33 ib_8 ?_
  obtain ⟨μ19, e20, h⟩ := bnd h
  have hN21 : μ19.1 = NN := cpI_N e20 hN12
  refine J.copy (pc := 35) dX8_copyFrom_35 ml_RX8_25 ac_1 ac_2 ac_3 hN12 k15 (okN hN12 k15 (by decide)).1 k18 (okN hN12 k18 (by decide)).1 (cpI_ok e20).1 (cpI_ok e20).2.1 (cpI_ok e20).2.2.1 (cpI_ok e20).2.2.2.1 (cpI_ok e20).2.2.2.2.1 (Nat.le_of_ble_eq_true rfl) ?_
  rw [(cpI_ok e20).2.2.2.2.2]
  refine J.aload_n (pc := 38) dX8_copyFrom_38 rfl 1 rfl ?_
  obtain ⟨a22, e23, h⟩ := bnd h
  have k24 : (kd a22).1 = 0 := gR_k e23
  refine J.fR (pc := 39) dX8_copyFrom_39 fl_RX8_22 k1 (okN hN21 k1 (by decide)) rfl e23 ?_
  refine J.iconst (pc := 42) dX8_copyFrom_42 ic_0 ?_
  refine J.aload_n (pc := 43) dX8_copyFrom_43 rfl 0 rfl ?_
  obtain ⟨a25, e26, h⟩ := bnd h
  have k27 : (kd a25).1 = 0 := gR_k e26
  refine J.fR (pc := 44) dX8_copyFrom_44 fl_RX8_22 k0 (okN hN21 k0 (by decide)) rfl e26 ?_
  refine J.iconst (pc := 47) dX8_copyFrom_47 ic_0 ?_
  refine J.bipush (pc := 48) dX8_copyFrom_48 ib_8 ?_
  obtain ⟨μ28, e29, h⟩ := bnd h
  have hN30 : μ28.1 = NN := cpI_N e29 hN21
  refine J.copy (pc := 50) dX8_copyFrom_50 ml_RX8_25 ac_1 ac_2 ac_3 hN21 k24 (okN hN21 k24 (by decide)).1 k27 (okN hN21 k27 (by decide)).1 (cpI_ok e29).1 (cpI_ok e29).2.1 (cpI_ok e29).2.2.1 (cpI_ok e29).2.2.2.1 (cpI_ok e29).2.2.2.2.1 (Nat.le_of_ble_eq_true rfl) ?_
  rw [(cpI_ok e29).2.2.2.2.2]
  cases h
  exact J.vret (pc := 53) dX8_copyFrom_53 rfl ⟨rfl, rfl, hN30, trivial⟩
def fX10_image (v0 : Nat) (μ : Mem) : Option (Mem) :=
  (gR μ v0 11 19).bind fun a1 =>
  (gR μ v0 7 19).bind fun a4 =>
  (fX9_copyFrom a1 a4 μ).bind fun μ8 =>
  (gR μ8 v0 12 10).bind fun a11 =>
  (gR μ8 v0 8 10).bind fun a14 =>
  (fX0_copyFrom a11 a14 μ8).bind fun μ18 =>
  (gR μ18 v0 13 18).bind fun a21 =>
  (gR μ18 v0 9 18).bind fun a24 =>
  (fX8_copyFrom a21 a24 μ18).bind fun μ28 =>
  (some (sI μ28 v0 10 (1 : Int32))).bind fun μ31 =>
  some μ31
set_option maxHeartbeats 4000000 in
theorem tX10_image {ω : Wd} {l : Launch} (d : Nat) {v0 : Nat} {μ : Mem} {res : Mem} (h : fX10_image v0 μ = some res) (hN : μ.1 = NN) (k0 : (kd v0).1 = 20) : Ct ω l mX10_image (d + 3) [.ref v0] μ 0 0 (PE (.inl none) res True) := by
  refine Ct.of pn_RX10 (Nat.le_of_ble_eq_true rfl) ?_
  show J ω l mX10_image (d + 3) 0 [(0, .ref v0)] [] μ 0 0 _
  unfold fX10_image at h
  refine J.aload_n (pc := 0) dX10_image_0 rfl 0 rfl ?_
  obtain ⟨a1, e2, h⟩ := bnd h
  have k3 : (kd a1).1 = 19 := gR_k e2
  refine J.fR (pc := 1) dX10_image_1 fl_RX10_67 k0 (okN hN k0 (by decide)) rfl e2 ?_
  refine J.aload_n (pc := 4) dX10_image_4 rfl 0 rfl ?_
  obtain ⟨a4, e5, h⟩ := bnd h
  have k6 : (kd a4).1 = 19 := gR_k e5
  refine J.fR (pc := 5) dX10_image_5 fl_RX10_45 k0 (okN hN k0 (by decide)) rfl e5 ?_
  obtain ⟨μ8, e7, h⟩ := bnd h
  refine J.callV (Y := mX10_image) (Z := mX9_copyFrom) (pc := 8) (st := []) (k2 := 0) (n2 := 0) dX10_image_8 ml_RX10_132 mo_X9_copyFrom mv_X9_copyFrom rfl (tX9_copyFrom (d + 1) e7 hN k3 k6) k3 (okN hN k3 (by decide)).1 (okN hN k3 (by decide)).2 cq_9 (by decide) rfl rfl (Nat.le_of_ble_eq_true rfl) (by decide) (by decide) (fun v ν hp => ?_) (fun i ν hp => nrm hp.1)
  obtain ⟨rfl, rfl, hN9, hb10⟩ := QEl hp
  show J _ _ _ _ 11 _ ([]) _ _ _ _
  refine J.aload_n (pc := 11) dX10_image_11 rfl 0 rfl ?_
  obtain ⟨a11, e12, h⟩ := bnd h
  have k13 : (kd a11).1 = 10 := gR_k e12
  refine J.fR (pc := 12) dX10_image_12 fl_RX10_70 k0 (okN hN9 k0 (by decide)) rfl e12 ?_
  refine J.aload_n (pc := 15) dX10_image_15 rfl 0 rfl ?_
  obtain ⟨a14, e15, h⟩ := bnd h
  have k16 : (kd a14).1 = 10 := gR_k e15
  refine J.fR (pc := 16) dX10_image_16 fl_RX10_52 k0 (okN hN9 k0 (by decide)) rfl e15 ?_
  obtain ⟨μ18, e17, h⟩ := bnd h
  refine J.callV (Y := mX10_image) (Z := mX0_copyFrom) (pc := 19) (st := []) (k2 := 0) (n2 := 0) dX10_image_19 ml_RX10_395 mo_X0_copyFrom mv_X0_copyFrom rfl (tX0_copyFrom d e17 hN9 k13 k16) k13 (okN hN9 k13 (by decide)).1 (okN hN9 k13 (by decide)).2 cq_0 (by decide) rfl rfl (Nat.le_of_ble_eq_true rfl) (by decide) (by decide) (fun v ν hp => ?_) (fun i ν hp => nrm hp.1)
  obtain ⟨rfl, rfl, hN19, hb20⟩ := QEl hp
  show J _ _ _ _ 22 _ ([]) _ _ _ _
  refine J.aload_n (pc := 22) dX10_image_22 rfl 0 rfl ?_
  obtain ⟨a21, e22, h⟩ := bnd h
  have k23 : (kd a21).1 = 18 := gR_k e22
  refine J.fR (pc := 23) dX10_image_23 fl_RX10_73 k0 (okN hN19 k0 (by decide)) rfl e22 ?_
  refine J.aload_n (pc := 26) dX10_image_26 rfl 0 rfl ?_
  obtain ⟨a24, e25, h⟩ := bnd h
  have k26 : (kd a24).1 = 18 := gR_k e25
  refine J.fR (pc := 27) dX10_image_27 fl_RX10_59 k0 (okN hN19 k0 (by decide)) rfl e25 ?_
  obtain ⟨μ28, e27, h⟩ := bnd h
  refine J.callV (Y := mX10_image) (Z := mX8_copyFrom) (pc := 30) (st := []) (k2 := 0) (n2 := 0) dX10_image_30 ml_RX10_398 mo_X8_copyFrom mv_X8_copyFrom rfl (tX8_copyFrom (d + 1) e27 hN19 k23 k26) k23 (okN hN19 k23 (by decide)).1 (okN hN19 k23 (by decide)).2 cq_8 (by decide) rfl rfl (Nat.le_of_ble_eq_true rfl) (by decide) (by decide) (fun v ν hp => ?_) (fun i ν hp => nrm hp.1)
  obtain ⟨rfl, rfl, hN29, hb30⟩ := QEl hp
  show J _ _ _ _ 33 _ ([]) _ _ _ _
  refine J.aload_n (pc := 33) dX10_image_33 rfl 0 rfl ?_
  refine J.iconst (pc := 34) dX10_image_34 ic_1 ?_
  obtain ⟨μ31, e32, h⟩ := bnd h
  have hN33 : μ31.1 = NN := smN e32 hN29
  refine J.qZ (pc := 35) dX10_image_35 fl_RX10_63 k0 (okN hN29 k0 (by decide)) rfl rfl (Or.inr rfl) e32 ?_
  cases h
  exact J.vret (pc := 38) dX10_image_38 rfl ⟨rfl, rfl, hN33, trivial⟩
def fX7_init (v0 : Nat) (μ : Mem) : Option (Mem) :=
  (mkN μ (0, 700)).bind fun (a3, μ4) =>
  (ptR μ4 v0 0 a3).bind fun μ5 =>
  (ptI μ5 v0 1 (0 : Int32)).bind fun μ7 =>
  (mkN μ7 (0, 64)).bind fun (a11, μ12) =>
  (ptR μ12 v0 2 a11).bind fun μ13 =>
  some μ13
set_option maxHeartbeats 4000000 in
theorem tX7_init {ω : Wd} {l : Launch} (d : Nat) {v0 : Nat} {μ : Mem} {res : Mem} (h : fX7_init v0 μ = some res) (k0 : (kd v0).1 = 17) : Ct ω l mX7_init (d + 1) [.ref v0] μ 2 764 (PA (.inl none) res) := by
  refine Ct.of pn_RX7 (Nat.le_of_ble_eq_true rfl) ?_
  show J ω l mX7_init (d + 1) 0 [(0, .ref v0)] [] μ 2 764 _
  unfold fX7_init at h
  refine J.aload_n (pc := 0) dX7_init_0 rfl 0 rfl ?_
  refine J.objInit (pc := 1) dX7_init_1 ml_RX7_3 oi_1 oi_2 (Nat.le_of_ble_eq_true rfl) ?_
  refine J.aload_n (pc := 4) dX7_init_4 rfl 0 rfl ?_
  refine J.sipush (pc := 5) dX7_init_5 is_700 ?_
  obtain ⟨⟨a3, μ4⟩, e1, h⟩ := bnd h
  try dsimp only at h
  have k2 : (kd a3).1 = 0 := mkN_k e1
  refine J.mArr (pc := 8) (t := 0) (N := 700) dX7_init_8 rfl (Or.inl ⟨rfl, rfl⟩) e1 aw_int (by decide) (by decide) (by decide) (by omega) (by omega) ?_
  obtain ⟨μ5, e6, h⟩ := bnd h
  refine J.qR (pc := 10) dX7_init_10 fl_RX7_9 k0 (ptR_ok e6).1 rfl rfl (ptR_ok e6).2 ?_
  refine J.aload_n (pc := 13) dX7_init_13 rfl 0 rfl ?_
  refine J.iconst (pc := 14) dX7_init_14 ic_0 ?_
  obtain ⟨μ7, e8, h⟩ := bnd h
  refine J.qI (pc := 15) dX7_init_15 fl_RX7_15 k0 (ptI_ok e8).1 rfl rfl (ptI_ok e8).2 ?_
  refine J.aload_n (pc := 18) dX7_init_18 rfl 0 rfl ?_
  refine J.bipush (pc := 19) dX7_init_19 ib_64 ?_
  obtain ⟨⟨a11, μ12⟩, e9, h⟩ := bnd h
  try dsimp only at h
  have k10 : (kd a11).1 = 0 := mkN_k e9
  refine J.mArr (pc := 21) (t := 0) (N := 64) dX7_init_21 rfl (Or.inl ⟨rfl, rfl⟩) e9 aw_int (by decide) (by decide) (by decide) (by omega) (by omega) ?_
  obtain ⟨μ13, e14, h⟩ := bnd h
  refine J.qR (pc := 23) dX7_init_23 fl_RX7_19 k0 (ptR_ok e14).1 rfl rfl (ptR_ok e14).2 ?_
  cases h
  exact J.vret (pc := 26) dX7_init_26 rfl ⟨rfl, rfl⟩
def fX1_init (v0 : Nat) (μ : Mem) : Option (Mem) :=
  (ptI μ v0 0 (0 : Int32)).bind fun μ1 =>
  (ptI μ1 v0 1 (0 : Int32)).bind fun μ3 =>
  (ptL μ3 v0 2 (0 : Int64)).bind fun μ5 =>
  (mkN μ5 (0, 6)).bind fun (a9, μ10) =>
  (ptR μ10 v0 3 a9).bind fun μ11 =>
  (mkN μ11 (0, 6)).bind fun (a15, μ16) =>
  (ptR μ16 v0 4 a15).bind fun μ17 =>
  (mkN μ17 (17, 0)).bind fun (a21, μ22) =>
  (fX7_init a21 μ22).bind fun μ24 =>
  (ptR μ24 v0 5 a21).bind fun μ27 =>
  (mkN μ27 (17, 0)).bind fun (a31, μ32) =>
  (fX7_init a31 μ32).bind fun μ34 =>
  (ptR μ34 v0 6 a31).bind fun μ37 =>
  (mkN μ37 (19, 0)).bind fun (a41, μ42) =>
  (fX9_init a41 μ42).bind fun μ44 =>
  (ptR μ44 v0 7 a41).bind fun μ47 =>
  some μ47
set_option maxHeartbeats 4000000 in
theorem tX1_init {ω : Wd} {l : Launch} (d : Nat) {v0 : Nat} {μ : Mem} {res : Mem} (h : fX1_init v0 μ = some res) (k0 : (kd v0).1 = 11) : Ct ω l mX1_init (d + 2) [.ref v0] μ 13 1619 (PA (.inl none) res) := by
  refine Ct.of pn_RX1 (Nat.le_of_ble_eq_true rfl) ?_
  show J ω l mX1_init (d + 2) 0 [(0, .ref v0)] [] μ 13 1619 _
  unfold fX1_init at h
  refine J.aload_n (pc := 0) dX1_init_0 rfl 0 rfl ?_
  refine J.objInit (pc := 1) dX1_init_1 ml_RX1_3 oi_1 oi_2 (Nat.le_of_ble_eq_true rfl) ?_
  refine J.aload_n (pc := 4) dX1_init_4 rfl 0 rfl ?_
  refine J.iconst (pc := 5) dX1_init_5 ic_0 ?_
  obtain ⟨μ1, e2, h⟩ := bnd h
  refine J.qI (pc := 6) dX1_init_6 fl_RX1_9 k0 (ptI_ok e2).1 rfl rfl (ptI_ok e2).2 ?_
  refine J.aload_n (pc := 9) dX1_init_9 rfl 0 rfl ?_
  refine J.iconst (pc := 10) dX1_init_10 ic_0 ?_
  obtain ⟨μ3, e4, h⟩ := bnd h
  refine J.qI (pc := 11) dX1_init_11 fl_RX1_15 k0 (ptI_ok e4).1 rfl rfl (ptI_ok e4).2 ?_
  refine J.aload_n (pc := 14) dX1_init_14 rfl 0 rfl ?_
  refine J.lconst (pc := 15) dX1_init_15 lc_0 ?_
  obtain ⟨μ5, e6, h⟩ := bnd h
  refine J.qL (pc := 16) dX1_init_16 fl_RX1_18 k0 (ptL_ok e6).1 rfl rfl (ptL_ok e6).2 ?_
  refine J.aload_n (pc := 19) dX1_init_19 rfl 0 rfl ?_
  refine J.bipush (pc := 20) dX1_init_20 ib_6 ?_
  obtain ⟨⟨a9, μ10⟩, e7, h⟩ := bnd h
  try dsimp only at h
  have k8 : (kd a9).1 = 0 := mkN_k e7
  refine J.mArr (pc := 22) (t := 0) (N := 6) dX1_init_22 rfl (Or.inl ⟨rfl, rfl⟩) e7 aw_int (by decide) (by decide) (by decide) (by omega) (by omega) ?_
  obtain ⟨μ11, e12, h⟩ := bnd h
  refine J.qR (pc := 24) dX1_init_24 fl_RX1_22 k0 (ptR_ok e12).1 rfl rfl (ptR_ok e12).2 ?_
  refine J.aload_n (pc := 27) dX1_init_27 rfl 0 rfl ?_
  refine J.bipush (pc := 28) dX1_init_28 ib_6 ?_
  obtain ⟨⟨a15, μ16⟩, e13, h⟩ := bnd h
  try dsimp only at h
  have k14 : (kd a15).1 = 0 := mkN_k e13
  refine J.mArr (pc := 30) (t := 0) (N := 6) dX1_init_30 rfl (Or.inl ⟨rfl, rfl⟩) e13 aw_int (by decide) (by decide) (by decide) (by omega) (by omega) ?_
  obtain ⟨μ17, e18, h⟩ := bnd h
  refine J.qR (pc := 32) dX1_init_32 fl_RX1_26 k0 (ptR_ok e18).1 rfl rfl (ptR_ok e18).2 ?_
  refine J.aload_n (pc := 35) dX1_init_35 rfl 0 rfl ?_
  obtain ⟨⟨a21, μ22⟩, e19, h⟩ := bnd h
  try dsimp only at h
  have k20 : (kd a21).1 = 17 := mkN_k e19
  refine J.mNew (pc := 36) (c := 7) dX1_init_36 e19 nw_RX1_29 (by decide) (by decide) (by omega) (by show 3 ≤ _; omega) ?_
  refine J.dup (pc := 39) dX1_init_39 rfl ?_
  obtain ⟨μ24, e23, h⟩ := bnd h
  refine J.callIN (Y := mX1_init) (Z := mX7_init) (pc := 40) (st := [.ref a21, .ref v0]) (k2 := 8) (n2 := 840) dX1_init_40 ml_RX1_31 mo_X7_init mi_X7_init rfl rfl rfl (tX7_init d e23 k20) (fun i ν hp => nrm hp.1) rfl rfl (Nat.le_of_ble_eq_true rfl) (by decide) (by decide) (fun v ν hp => ?_)
  obtain ⟨rfl, rfl⟩ := QAl hp
  show J _ _ _ _ 43 _ ([.ref a21, .ref v0]) _ _ _ _
  obtain ⟨μ27, e28, h⟩ := bnd h
  refine J.qR (pc := 43) dX1_init_43 fl_RX1_32 k0 (ptR_ok e28).1 rfl rfl (ptR_ok e28).2 ?_
  refine J.aload_n (pc := 46) dX1_init_46 rfl 0 rfl ?_
  obtain ⟨⟨a31, μ32⟩, e29, h⟩ := bnd h
  try dsimp only at h
  have k30 : (kd a31).1 = 17 := mkN_k e29
  refine J.mNew (pc := 47) (c := 7) dX1_init_47 e29 nw_RX1_29 (by decide) (by decide) (by omega) (by show 3 ≤ _; omega) ?_
  refine J.dup (pc := 50) dX1_init_50 rfl ?_
  obtain ⟨μ34, e33, h⟩ := bnd h
  refine J.callIN (Y := mX1_init) (Z := mX7_init) (pc := 51) (st := [.ref a31, .ref v0]) (k2 := 5) (n2 := 73) dX1_init_51 ml_RX1_31 mo_X7_init mi_X7_init rfl rfl rfl (tX7_init d e33 k30) (fun i ν hp => nrm hp.1) rfl rfl (Nat.le_of_ble_eq_true rfl) (by decide) (by decide) (fun v ν hp => ?_)
  obtain ⟨rfl, rfl⟩ := QAl hp
  show J _ _ _ _ 54 _ ([.ref a31, .ref v0]) _ _ _ _
  obtain ⟨μ37, e38, h⟩ := bnd h
  refine J.qR (pc := 54) dX1_init_54 fl_RX1_36 k0 (ptR_ok e38).1 rfl rfl (ptR_ok e38).2 ?_
  refine J.aload_n (pc := 57) dX1_init_57 rfl 0 rfl ?_
  obtain ⟨⟨a41, μ42⟩, e39, h⟩ := bnd h
  try dsimp only at h
  have k40 : (kd a41).1 = 19 := mkN_k e39
  refine J.mNew (pc := 58) (c := 9) dX1_init_58 e39 nw_RX1_39 (by decide) (by decide) (by omega) (by show 7 ≤ _; omega) ?_
  refine J.dup (pc := 61) dX1_init_61 rfl ?_
  obtain ⟨μ44, e43, h⟩ := bnd h
  refine J.callI (Y := mX1_init) (Z := mX9_init) (pc := 62) (st := [.ref a41, .ref v0]) (k2 := 0) (n2 := 0) dX1_init_62 ml_RX1_41 mo_X9_init mi_X9_init rfl rfl rfl (tX9_init d e43 k40) (fun i ν hp => nrm hp.1) rfl rfl (Nat.le_of_ble_eq_true rfl) (by decide) (by decide) (fun v ν hp => ?_)
  obtain ⟨rfl, rfl⟩ := QAl hp
  show J _ _ _ _ 65 _ ([.ref a41, .ref v0]) _ _ _ _
  obtain ⟨μ47, e48, h⟩ := bnd h
  refine J.qR (pc := 65) dX1_init_65 fl_RX1_42 k0 (ptR_ok e48).1 rfl rfl (ptR_ok e48).2 ?_
  cases h
  exact J.vret (pc := 68) dX1_init_68 rfl ⟨rfl, rfl⟩
def fX5_init (v0 : Nat) (μ : Mem) : Option (Mem) :=
  (ptL μ v0 0 (0 : Int64)).bind fun μ1 =>
  (ptL μ1 v0 1 (0 : Int64)).bind fun μ3 =>
  (ptL μ3 v0 2 (0 : Int64)).bind fun μ5 =>
  (mkN μ5 (1, 49)).bind fun (a9, μ10) =>
  (ptR μ10 v0 3 a9).bind fun μ11 =>
  (mkN μ11 (0, 48)).bind fun (a15, μ16) =>
  (ptR μ16 v0 4 a15).bind fun μ17 =>
  some μ17
set_option maxHeartbeats 4000000 in
theorem tX5_init {ω : Wd} {l : Launch} (d : Nat) {v0 : Nat} {μ : Mem} {res : Mem} (h : fX5_init v0 μ = some res) (k0 : (kd v0).1 = 15) : Ct ω l mX5_init (d + 1) [.ref v0] μ 2 97 (PA (.inl none) res) := by
  refine Ct.of pn_RX5 (Nat.le_of_ble_eq_true rfl) ?_
  show J ω l mX5_init (d + 1) 0 [(0, .ref v0)] [] μ 2 97 _
  unfold fX5_init at h
  refine J.aload_n (pc := 0) dX5_init_0 rfl 0 rfl ?_
  refine J.objInit (pc := 1) dX5_init_1 ml_RX5_3 oi_1 oi_2 (Nat.le_of_ble_eq_true rfl) ?_
  refine J.aload_n (pc := 4) dX5_init_4 rfl 0 rfl ?_
  refine J.lconst (pc := 5) dX5_init_5 lc_0 ?_
  obtain ⟨μ1, e2, h⟩ := bnd h
  refine J.qL (pc := 6) dX5_init_6 fl_RX5_9 k0 (ptL_ok e2).1 rfl rfl (ptL_ok e2).2 ?_
  refine J.aload_n (pc := 9) dX5_init_9 rfl 0 rfl ?_
  refine J.lconst (pc := 10) dX5_init_10 lc_0 ?_
  obtain ⟨μ3, e4, h⟩ := bnd h
  refine J.qL (pc := 11) dX5_init_11 fl_RX5_15 k0 (ptL_ok e4).1 rfl rfl (ptL_ok e4).2 ?_
  refine J.aload_n (pc := 14) dX5_init_14 rfl 0 rfl ?_
  refine J.lconst (pc := 15) dX5_init_15 lc_0 ?_
  obtain ⟨μ5, e6, h⟩ := bnd h
  refine J.qL (pc := 16) dX5_init_16 fl_RX5_18 k0 (ptL_ok e6).1 rfl rfl (ptL_ok e6).2 ?_
  refine J.aload_n (pc := 19) dX5_init_19 rfl 0 rfl ?_
  refine J.bipush (pc := 20) dX5_init_20 ib_49 ?_
  obtain ⟨⟨a9, μ10⟩, e7, h⟩ := bnd h
  try dsimp only at h
  have k8 : (kd a9).1 = 1 := mkN_k e7
  refine J.mArr (pc := 22) (t := 1) (N := 49) dX5_init_22 rfl (Or.inr (Or.inl ⟨rfl, rfl⟩)) e7 aw_long (by decide) (by decide) (by decide) (by omega) (by omega) ?_
  obtain ⟨μ11, e12, h⟩ := bnd h
  refine J.qR (pc := 24) dX5_init_24 fl_RX5_21 k0 (ptR_ok e12).1 rfl rfl (ptR_ok e12).2 ?_
  refine J.aload_n (pc := 27) dX5_init_27 rfl 0 rfl ?_
  refine J.bipush (pc := 28) dX5_init_28 ib_48 ?_
  obtain ⟨⟨a15, μ16⟩, e13, h⟩ := bnd h
  try dsimp only at h
  have k14 : (kd a15).1 = 0 := mkN_k e13
  refine J.mArr (pc := 30) (t := 0) (N := 48) dX5_init_30 rfl (Or.inl ⟨rfl, rfl⟩) e13 aw_int (by decide) (by decide) (by decide) (by omega) (by omega) ?_
  obtain ⟨μ17, e18, h⟩ := bnd h
  refine J.qR (pc := 32) dX5_init_32 fl_RX5_25 k0 (ptR_ok e18).1 rfl rfl (ptR_ok e18).2 ?_
  cases h
  exact J.vret (pc := 35) dX5_init_35 rfl ⟨rfl, rfl⟩
