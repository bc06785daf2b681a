def fX2_init (v0 : Nat) (v1 : Nat) (μ : Mem) : Option (Mem) :=
  (mkN μ (19, 0)).bind fun (a3, μ4) =>
  (fX9_init a3 μ4).bind fun μ6 =>
  (ptR μ6 v0 0 a3).bind fun μ9 =>
  (mkN μ9 (15, 0)).bind fun (a13, μ14) =>
  (fX5_init a13 μ14).bind fun μ16 =>
  (ptR μ16 v0 1 a13).bind fun μ19 =>
  (mkN μ19 (0, 6)).bind fun (a23, μ24) =>
  (ptR μ24 v0 2 a23).bind fun μ25 =>
  (mkN μ25 (0, 6)).bind fun (a29, μ30) =>
  (ptR μ30 v0 3 a29).bind fun μ31 =>
  (mkN μ31 (0, 6)).bind fun (a35, μ36) =>
  (ptR μ36 v0 4 a35).bind fun μ37 =>
  (ptI μ37 v0 5 (0 : Int32)).bind fun μ39 =>
  (mkN μ39 (0, 6)).bind fun (a43, μ44) =>
  (ptR μ44 v0 6 a43).bind fun μ45 =>
  (ptR μ45 v0 7 v1).bind fun μ47 =>
  some μ47
set_option maxHeartbeats 4000000 in
theorem tX2_init {ω : Wd} {l : Launch} (d : Nat) {v0 : Nat} {v1 : Nat} {μ : Mem} {res : Mem} (h : fX2_init v0 v1 μ = some res) (k0 : (kd v0).1 = 12) (k1 : (kd v1).1 = 11) : Ct ω l mX2_init (d + 2) [.ref v0, .ref v1] μ 12 199 (PA (.inl none) res) := by
  refine Ct.of pn_RX2 (Nat.le_of_ble_eq_true rfl) ?_
  show J ω l mX2_init (d + 2) 0 [(0, .ref v0), (1, .ref v1)] [] μ 12 199 _
  unfold fX2_init at h
  refine J.aload_n (pc := 0) dX2_init_0 rfl 0 rfl ?_
  refine J.objInit (pc := 1) dX2_init_1 ml_RX2_3 oi_1 oi_2 (Nat.le_of_ble_eq_true rfl) ?_
  refine J.aload_n (pc := 4) dX2_init_4 rfl 0 rfl ?_
  obtain ⟨⟨a3, μ4⟩, e1, h⟩ := bnd h
  try dsimp only at h
  have k2 : (kd a3).1 = 19 := mkN_k e1
  refine J.mNew (pc := 5) (c := 9) dX2_init_5 e1 nw_RX2_9 (by decide) (by decide) (by omega) (by show 7 ≤ _; omega) ?_
  refine J.dup (pc := 8) dX2_init_8 rfl ?_
  obtain ⟨μ6, e5, h⟩ := bnd h
  refine J.callI (Y := mX2_init) (Z := mX9_init) (pc := 9) (st := [.ref a3, .ref v0]) (k2 := 7) (n2 := 126) dX2_init_9 ml_RX2_11 mo_X9_init mi_X9_init rfl rfl rfl (tX9_init d e5 k2) (fun i ν hp => nrm hp.1) rfl rfl (Nat.le_of_ble_eq_true rfl) (by decide) (by decide) (fun v ν hp => ?_)
  obtain ⟨rfl, rfl⟩ := QAl hp
  show J _ _ _ _ 12 _ ([.ref a3, .ref v0]) _ _ _ _
  obtain ⟨μ9, e10, h⟩ := bnd h
  refine J.qR (pc := 12) dX2_init_12 fl_RX2_12 k0 (ptR_ok e10).1 rfl rfl (ptR_ok e10).2 ?_
  refine J.aload_n (pc := 15) dX2_init_15 rfl 0 rfl ?_
  obtain ⟨⟨a13, μ14⟩, e11, h⟩ := bnd h
  try dsimp only at h
  have k12 : (kd a13).1 = 15 := mkN_k e11
  refine J.mNew (pc := 16) (c := 5) dX2_init_16 e11 nw_RX2_18 (by decide) (by decide) (by omega) (by show 5 ≤ _; omega) ?_
  refine J.dup (pc := 19) dX2_init_19 rfl ?_
  obtain ⟨μ16, e15, h⟩ := bnd h
  refine J.callIN (Y := mX2_init) (Z := mX5_init) (pc := 20) (st := [.ref a13, .ref v0]) (k2 := 4) (n2 := 24) dX2_init_20 ml_RX2_20 mo_X5_init mi_X5_init rfl rfl rfl (tX5_init d e15 k12) (fun i ν hp => nrm hp.1) rfl rfl (Nat.le_of_ble_eq_true rfl) (by decide) (by decide) (fun v ν hp => ?_)
  obtain ⟨rfl, rfl⟩ := QAl hp
  show J _ _ _ _ 23 _ ([.ref a13, .ref v0]) _ _ _ _
  obtain ⟨μ19, e20, h⟩ := bnd h
  refine J.qR (pc := 23) dX2_init_23 fl_RX2_21 k0 (ptR_ok e20).1 rfl rfl (ptR_ok e20).2 ?_
  refine J.aload_n (pc := 26) dX2_init_26 rfl 0 rfl ?_
  refine J.bipush (pc := 27) dX2_init_27 ib_6 ?_
  obtain ⟨⟨a23, μ24⟩, e21, h⟩ := bnd h
  try dsimp only at h
  have k22 : (kd a23).1 = 0 := mkN_k e21
  refine J.mArr (pc := 29) (t := 0) (N := 6) dX2_init_29 rfl (Or.inl ⟨rfl, rfl⟩) e21 aw_int (by decide) (by decide) (by decide) (by omega) (by omega) ?_
  obtain ⟨μ25, e26, h⟩ := bnd h
  refine J.qR (pc := 31) dX2_init_31 fl_RX2_25 k0 (ptR_ok e26).1 rfl rfl (ptR_ok e26).2 ?_
  refine J.aload_n (pc := 34) dX2_init_34 rfl 0 rfl ?_
  refine J.bipush (pc := 35) dX2_init_35 ib_6 ?_
  obtain ⟨⟨a29, μ30⟩, e27, h⟩ := bnd h
  try dsimp only at h
  have k28 : (kd a29).1 = 0 := mkN_k e27
  refine J.mArr (pc := 37) (t := 0) (N := 6) dX2_init_37 rfl (Or.inl ⟨rfl, rfl⟩) e27 aw_int (by decide) (by decide) (by decide) (by omega) (by omega) ?_
  obtain ⟨μ31, e32, h⟩ := bnd h
  refine J.qR (pc := 39) dX2_init_39 fl_RX2_29 k0 (ptR_ok e32).1 rfl rfl (ptR_ok e32).2 ?_
  refine J.aload_n (pc := 42) dX2_init_42 rfl 0 rfl ?_
  refine J.bipush (pc := 43) dX2_init_43 ib_6 ?_
  obtain ⟨⟨a35, μ36⟩, e33, h⟩ := bnd h
  try dsimp only at h
  have k34 : (kd a35).1 = 0 := mkN_k e33
  refine J.mArr (pc := 45) (t := 0) (N := 6) dX2_init_45 rfl (Or.inl ⟨rfl, rfl⟩) e33 aw_int (by decide) (by decide) (by decide) (by omega) (by omega) ?_
  obtain ⟨μ37, e38, h⟩ := bnd h
  refine J.qR (pc := 47) dX2_init_47 fl_RX2_32 k0 (ptR_ok e38).1 rfl rfl (ptR_ok e38).2 ?_
  refine J.aload_n (pc := 50) dX2_init_50 rfl 0 rfl ?_
  refine J.iconst (pc := 51) dX2_init_51 ic_0 ?_
  obtain ⟨μ39, e40, h⟩ := bnd h
  refine J.qI (pc := 52) dX2_init_52 fl_RX2_35 k0 (ptI_ok e40).1 rfl rfl (ptI_ok e40).2 ?_
  refine J.aload_n (pc := 55) dX2_init_55 rfl 0 rfl ?_
  refine J.bipush (pc := 56) dX2_init_56 ib_6 ?_
  obtain ⟨⟨a43, μ44⟩, e41, h⟩ := bnd h
  try dsimp only at h
  have k42 : (kd a43).1 = 0 := mkN_k e41
  refine J.mArr (pc := 58) (t := 0) (N := 6) dX2_init_58 rfl (Or.inl ⟨rfl, rfl⟩) e41 aw_int (by decide) (by decide) (by decide) (by omega) (by omega) ?_
  obtain ⟨μ45, e46, h⟩ := bnd h
  refine J.qR (pc := 60) dX2_init_60 fl_RX2_39 k0 (ptR_ok e46).1 rfl rfl (ptR_ok e46).2 ?_
  refine J.aload_n (pc := 63) dX2_init_63 rfl 0 rfl ?_
  refine J.aload_n (pc := 64) dX2_init_64 rfl 1 rfl ?_
  obtain ⟨μ47, e48, h⟩ := bnd h
  refine J.qR (pc := 65) dX2_init_65 fl_RX2_42 k0 (ptR_ok e48).1 rfl rfl (ptR_ok e48).2 ?_
  cases h
  exact J.vret (pc := 68) dX2_init_68 rfl ⟨rfl, rfl⟩
def fX3_init (v0 : Nat) (μ : Mem) : Option (Mem) :=
  (ptI μ v0 0 (0 : Int32)).bind fun μ1 =>
  some μ1
set_option maxHeartbeats 4000000 in
theorem tX3_init {ω : Wd} {l : Launch} (d : Nat) {v0 : Nat} {μ : Mem} {res : Mem} (h : fX3_init v0 μ = some res) (k0 : (kd v0).1 = 13) : Ct ω l mX3_init (d + 1) [.ref v0] μ 0 0 (PA (.inl none) res) := by
  refine Ct.of pn_RX3 (Nat.le_of_ble_eq_true rfl) ?_
  show J ω l mX3_init (d + 1) 0 [(0, .ref v0)] [] μ 0 0 _
  unfold fX3_init at h
  refine J.aload_n (pc := 0) dX3_init_0 rfl 0 rfl ?_
  refine J.objInit (pc := 1) dX3_init_1 ml_RX3_1 oi_1 oi_2 (Nat.le_of_ble_eq_true rfl) ?_
  refine J.aload_n (pc := 4) dX3_init_4 rfl 0 rfl ?_
  refine J.iconst (pc := 5) dX3_init_5 ic_0 ?_
  obtain ⟨μ1, e2, h⟩ := bnd h
  refine J.qI (pc := 6) dX3_init_6 fl_RX3_7 k0 (ptI_ok e2).1 rfl rfl (ptI_ok e2).2 ?_
  cases h
  exact J.vret (pc := 9) dX3_init_9 rfl ⟨rfl, rfl⟩
def fX4_init (v0 : Nat) (μ : Mem) : Option (Mem) :=
  (ptI μ v0 0 (0 : Int32)).bind fun μ1 =>
  (mkM μ1 6 6).bind fun (a5, μ6) =>
  (ptR μ6 v0 1 a5).bind fun μ7 =>
  (mkM μ7 7 64).bind fun (a11, μ12) =>
  (ptR μ12 v0 2 a11).bind fun μ13 =>
  some μ13
set_option maxHeartbeats 4000000 in
theorem tX4_init {ω : Wd} {l : Launch} (d : Nat) {v0 : Nat} {μ : Mem} {res : Mem} (h : fX4_init v0 μ = some res) (k0 : (kd v0).1 = 14) : Ct ω l mX4_init (d + 1) [.ref v0] μ 15 497 (PA (.inl none) res) := by
  refine Ct.of pn_RX4 (Nat.le_of_ble_eq_true rfl) ?_
  show J ω l mX4_init (d + 1) 0 [(0, .ref v0)] [] μ 15 497 _
  unfold fX4_init at h
  refine J.aload_n (pc := 0) dX4_init_0 rfl 0 rfl ?_
  refine J.objInit (pc := 1) dX4_init_1 ml_RX4_3 oi_1 oi_2 (Nat.le_of_ble_eq_true rfl) ?_
  refine J.aload_n (pc := 4) dX4_init_4 rfl 0 rfl ?_
  refine J.iconst (pc := 5) dX4_init_5 ic_0 ?_
  obtain ⟨μ1, e2, h⟩ := bnd h
  refine J.qI (pc := 6) dX4_init_6 fl_RX4_9 k0 (ptI_ok e2).1 rfl rfl (ptI_ok e2).2 ?_
  refine J.aload_n (pc := 9) dX4_init_9 rfl 0 rfl ?_
  refine J.bipush (pc := 10) dX4_init_10 ib_6 ?_
  refine J.bipush (pc := 12) dX4_init_12 ib_6 ?_
  obtain ⟨⟨a5, μ6⟩, e3, h⟩ := bnd h
  try dsimp only at h
  have k4 : (kd a5).1 = 3 := mkM_k e3
  refine J.mMulti (pc := 14) (N := 6) (M := 6) dX4_init_14 e3 mu_RX4_15 an_3 aw_int (by decide) (by decide) (by decide) (by decide) (by decide) (by decide) (by omega) (by omega) ?_
  obtain ⟨μ7, e8, h⟩ := bnd h
  refine J.qR (pc := 18) dX4_init_18 fl_RX4_17 k0 (ptR_ok e8).1 rfl rfl (ptR_ok e8).2 ?_
  refine J.aload_n (pc := 21) dX4_init_21 rfl 0 rfl ?_
  refine J.bipush (pc := 22) dX4_init_22 ib_7 ?_
  refine J.bipush (pc := 24) dX4_init_24 ib_64 ?_
  obtain ⟨⟨a11, μ12⟩, e9, h⟩ := bnd h
  try dsimp only at h
  have k10 : (kd a11).1 = 3 := mkM_k e9
  refine J.mMulti (pc := 26) (N := 7) (M := 64) dX4_init_26 e9 mu_RX4_15 an_3 aw_int (by decide) (by decide) (by decide) (by decide) (by decide) (by decide) (by omega) (by omega) ?_
  obtain ⟨μ13, e14, h⟩ := bnd h
  refine J.qR (pc := 30) dX4_init_30 fl_RX4_20 k0 (ptR_ok e14).1 rfl rfl (ptR_ok e14).2 ?_
  cases h
  exact J.vret (pc := 33) dX4_init_33 rfl ⟨rfl, rfl⟩
def fX6_init (v0 : Nat) (v1 : Nat) (μ : Mem) : Option (Mem) :=
  (ptI μ v0 0 (0 : Int32)).bind fun μ1 =>
  (ptI μ1 v0 1 (-1 : Int32)).bind fun μ3 =>
  (mkN μ3 (0, 0)).bind fun (a7, μ8) =>
  (ptR μ8 v0 2 a7).bind fun μ9 =>
  (ptI μ9 v0 3 (0 : Int32)).bind fun μ11 =>
  (ptI μ11 v0 4 (0 : Int32)).bind fun μ13 =>
  (ptI μ13 v0 5 (0 : Int32)).bind fun μ15 =>
  (ptI μ15 v0 6 (259 : Int32)).bind fun μ17 =>
  (ptI μ17 v0 7 (0 : Int32)).bind fun μ19 =>
  (ptR μ19 v0 10 (10000 + 0)).bind fun μ21 =>
  (ptR μ21 v0 8 v1).bind fun μ23 =>
  (gA μ23 v1).bind fun _u =>
  (gR μ23 v1 5 17).bind fun a26 =>
  (ptR μ23 v0 9 a26).bind fun μ29 =>
  some μ29
set_option maxHeartbeats 4000000 in
theorem tX6_init {ω : Wd} {l : Launch} (d : Nat) {v0 : Nat} {v1 : Nat} {μ : Mem} {res : Mem} (h : fX6_init v0 v1 μ = some res) (k0 : (kd v0).1 = 16) (k1 : (kd v1).1 = 11) : Ct ω l mX6_init (d + 1) [.ref v0, .ref v1] μ 1 0 (PA (.inl none) res) := by
  refine Ct.of pn_RX6 (Nat.le_of_ble_eq_true rfl) ?_
  show J ω l mX6_init (d + 1) 0 [(0, .ref v0), (1, .ref v1)] [] μ 1 0 _
  unfold fX6_init at h
  refine J.aload_n (pc := 0) dX6_init_0 rfl 0 rfl ?_
  refine J.objInit (pc := 1) dX6_init_1 ml_RX6_3 oi_1 oi_2 (Nat.le_of_ble_eq_true rfl) ?_
  refine J.aload_n (pc := 4) dX6_init_4 rfl 0 rfl ?_
  refine J.iconst (pc := 5) dX6_init_5 ic_0 ?_
  obtain ⟨μ1, e2, h⟩ := bnd h
  refine J.qI (pc := 6) dX6_init_6 fl_RX6_9 k0 (ptI_ok e2).1 rfl rfl (ptI_ok e2).2 ?_
  refine J.aload_n (pc := 9) dX6_init_9 rfl 0 rfl ?_
  refine J.iconst (pc := 10) dX6_init_10 ic_m1 ?_
  obtain ⟨μ3, e4, h⟩ := bnd h
  refine J.qI (pc := 11) dX6_init_11 fl_RX6_15 k0 (ptI_ok e4).1 rfl rfl (ptI_ok e4).2 ?_
  refine J.aload_n (pc := 14) dX6_init_14 rfl 0 rfl ?_
  refine J.iconst (pc := 15) dX6_init_15 ic_0 ?_
  obtain ⟨⟨a7, μ8⟩, e5, h⟩ := bnd h
  try dsimp only at h
  have k6 : (kd a7).1 = 0 := mkN_k e5
  refine J.mArr (pc := 16) (t := 0) (N := 0) dX6_init_16 rfl (Or.inl ⟨rfl, rfl⟩) e5 aw_int (by decide) (by decide) (by decide) (by omega) (by omega) ?_
  obtain ⟨μ9, e10, h⟩ := bnd h
  refine J.qR (pc := 18) dX6_init_18 fl_RX6_18 k0 (ptR_ok e10).1 rfl rfl (ptR_ok e10).2 ?_
  refine J.aload_n (pc := 21) dX6_init_21 rfl 0 rfl ?_
  refine J.iconst (pc := 22) dX6_init_22 ic_0 ?_
  obtain ⟨μ11, e12, h⟩ := bnd h
  refine J.qI (pc := 23) dX6_init_23 fl_RX6_22 k0 (ptI_ok e12).1 rfl rfl (ptI_ok e12).2 ?_
  refine J.aload_n (pc := 26) dX6_init_26 rfl 0 rfl ?_
  refine J.iconst (pc := 27) dX6_init_27 ic_0 ?_
  obtain ⟨μ13, e14, h⟩ := bnd h
  refine J.qI (pc := 28) dX6_init_28 fl_RX6_25 k0 (ptI_ok e14).1 rfl rfl (ptI_ok e14).2 ?_
  refine J.aload_n (pc := 31) dX6_init_31 rfl 0 rfl ?_
  refine J.iconst (pc := 32) dX6_init_32 ic_0 ?_
  obtain ⟨μ15, e16, h⟩ := bnd h
  refine J.qI (pc := 33) dX6_init_33 fl_RX6_28 k0 (ptI_ok e16).1 rfl rfl (ptI_ok e16).2 ?_
  refine J.aload_n (pc := 36) dX6_init_36 rfl 0 rfl ?_
  refine J.sipush (pc := 37) dX6_init_37 is_259 ?_
  obtain ⟨μ17, e18, h⟩ := bnd h
  refine J.qI (pc := 40) dX6_init_40 fl_RX6_31 k0 (ptI_ok e18).1 rfl rfl (ptI_ok e18).2 ?_
  refine J.aload_n (pc := 43) dX6_init_43 rfl 0 rfl ?_
  refine J.iconst (pc := 44) dX6_init_44 ic_0 ?_
  obtain ⟨μ19, e20, h⟩ := bnd h
  refine J.qI (pc := 45) dX6_init_45 fl_RX6_34 k0 (ptI_ok e20).1 rfl rfl (ptI_ok e20).2 ?_
  refine J.aload_n (pc := 48) dX6_init_48 rfl 0 rfl ?_
  refine J.ldcS (pc := 49) (i := 0) dX6_init_49 rfl ?_
  obtain ⟨μ21, e22, h⟩ := bnd h
  refine J.qR (pc := 51) dX6_init_51 fl_RX6_39 k0 (ptR_ok e22).1 rfl rfl (ptR_ok e22).2 ?_
  refine J.aload_n (pc := 54) dX6_init_54 rfl 0 rfl ?_
  refine J.aload_n (pc := 55) dX6_init_55 rfl 1 rfl ?_
  obtain ⟨μ23, e24, h⟩ := bnd h
  refine J.qR (pc := 56) dX6_init_56 fl_RX6_43 k0 (ptR_ok e24).1 rfl rfl (ptR_ok e24).2 ?_
  refine J.aload_n (pc := 59) dX6_init_59 rfl 0 rfl ?_
  refine J.aload_n (pc := 60) dX6_init_60 rfl 1 rfl ?_
  obtain ⟨_, e25, h⟩ := bnd h
  obtain ⟨a26, e27, h⟩ := bnd h
  have k28 : (kd a26).1 = 17 := gR_k e27
  refine J.fR (pc := 61) dX6_init_61 fl_RX6_47 k1 (gA_ok e25) rfl e27 ?_
  obtain ⟨μ29, e30, h⟩ := bnd h
  refine J.qR (pc := 64) dX6_init_64 fl_RX6_53 k0 (ptR_ok e30).1 rfl rfl (ptR_ok e30).2 ?_
  cases h
  exact J.vret (pc := 67) dX6_init_67 rfl ⟨rfl, rfl⟩
def fX8_init (v0 : Nat) (μ : Mem) : Option (Mem) :=
  (ptI μ v0 0 (0 : Int32)).bind fun μ1 =>
  (mkN μ1 (0, 8)).bind fun (a5, μ6) =>
  (ptR μ6 v0 1 a5).bind fun μ7 =>
  (mkN μ7 (0, 8)).bind fun (a11, μ12) =>
  (ptR μ12 v0 2 a11).bind fun μ13 =>
  (mkN μ13 (0, 8)).bind fun (a17, μ18) =>
  (ptR μ18 v0 3 a17).bind fun μ19 =>
  some μ19
set_option maxHeartbeats 4000000 in
theorem tX8_init {ω : Wd} {l : Launch} (d : Nat) {v0 : Nat} {μ : Mem} {res : Mem} (h : fX8_init v0 μ = some res) (k0 : (kd v0).1 = 18) : Ct ω l mX8_init (d + 1) [.ref v0] μ 3 24 (PA (.inl none) res) := by
  refine Ct.of pn_RX8 (Nat.le_of_ble_eq_true rfl) ?_
  show J ω l mX8_init (d + 1) 0 [(0, .ref v0)] [] μ 3 24 _
  unfold fX8_init at h
  refine J.aload_n (pc := 0) dX8_init_0 rfl 0 rfl ?_
  refine J.objInit (pc := 1) dX8_init_1 ml_RX8_3 oi_1 oi_2 (Nat.le_of_ble_eq_true rfl) ?_
  refine J.aload_n (pc := 4) dX8_init_4 rfl 0 rfl ?_
  refine J.iconst (pc := 5) dX8_init_5 ic_0 ?_
  obtain ⟨μ1, e2, h⟩ := bnd h
  refine J.qI (pc := 6) dX8_init_6 fl_RX8_9 k0 (ptI_ok e2).1 rfl rfl (ptI_ok e2).2 ?_
  refine J.aload_n (pc := 9) dX8_init_9 rfl 0 rfl ?_
  refine J.bipush (pc := 10) dX8_init_10 ib_8 ?_
  obtain ⟨⟨a5, μ6⟩, e3, h⟩ := bnd h
  try dsimp only at h
  have k4 : (kd a5).1 = 0 := mkN_k e3
  refine J.mArr (pc := 12) (t := 0) (N := 8) dX8_init_12 rfl (Or.inl ⟨rfl, rfl⟩) e3 aw_int (by decide) (by decide) (by decide) (by omega) (by omega) ?_
  obtain ⟨μ7, e8, h⟩ := bnd h
  refine J.qR (pc := 14) dX8_init_14 fl_RX8_15 k0 (ptR_ok e8).1 rfl rfl (ptR_ok e8).2 ?_
  refine J.aload_n (pc := 17) dX8_init_17 rfl 0 rfl ?_
  refine J.bipush (pc := 18) dX8_init_18 ib_8 ?_
  obtain ⟨⟨a11, μ12⟩, e9, h⟩ := bnd h
  try dsimp only at h
  have k10 : (kd a11).1 = 0 := mkN_k e9
  refine J.mArr (pc := 20) (t := 0) (N := 8) dX8_init_20 rfl (Or.inl ⟨rfl, rfl⟩) e9 aw_int (by decide) (by decide) (by decide) (by omega) (by omega) ?_
  obtain ⟨μ13, e14, h⟩ := bnd h
  refine J.qR (pc := 22) dX8_init_22 fl_RX8_19 k0 (ptR_ok e14).1 rfl rfl (ptR_ok e14).2 ?_
  refine J.aload_n (pc := 25) dX8_init_25 rfl 0 rfl ?_
  refine J.bipush (pc := 26) dX8_init_26 ib_8 ?_
  obtain ⟨⟨a17, μ18⟩, e15, h⟩ := bnd h
  try dsimp only at h
  have k16 : (kd a17).1 = 0 := mkN_k e15
  refine J.mArr (pc := 28) (t := 0) (N := 8) dX8_init_28 rfl (Or.inl ⟨rfl, rfl⟩) e15 aw_int (by decide) (by decide) (by decide) (by omega) (by omega) ?_
  obtain ⟨μ19, e20, h⟩ := bnd h
  refine J.qR (pc := 30) dX8_init_30 fl_RX8_22 k0 (ptR_ok e20).1 rfl rfl (ptR_ok e20).2 ?_
  cases h
  exact J.vret (pc := 33) dX8_init_33 rfl ⟨rfl, rfl⟩
def fX10_init (v0 : Nat) (μ : Mem) : Option (Mem) :=
  (mkN μ (0, 700)).bind fun (a3, μ4) =>
  (ptR μ4 v0 0 a3).bind fun μ5 =>
  (ptI μ5 v0 1 (0 : Int32)).bind fun μ7 =>
  (ptI μ7 v0 2 (-1 : Int32)).bind fun μ9 =>
  (mkN μ9 (0, 3)).bind fun (a13, μ14) =>
  (ptR μ14 v0 3 a13).bind fun μ15 =>
  (mkN μ15 (11, 0)).bind fun (a19, μ20) =>
  (fX1_init a19 μ20).bind fun μ22 =>
  (ptR μ22 v0 4 a19).bind fun μ25 =>
  (mkN μ25 (11, 0)).bind fun (a29, μ30) =>
  (fX1_init a29 μ30).bind fun μ32 =>
  (ptR μ32 v0 5 a29).bind fun μ35 =>
  (mkN μ35 (16, 0)).bind fun (a39, μ40) =>
  (gA μ40 v0).bind fun _u =>
  (gR μ40 v0 5 11).bind fun a42 =>
  (fX6_init a39 a42 μ40).bind fun μ46 =>
  (ptR μ46 v0 6 a39).bind fun μ49 =>
  (mkN μ49 (19, 0)).bind fun (a53, μ54) =>
  (fX9_init a53 μ54).bind fun μ56 =>
  (ptR μ56 v0 7 a53).bind fun μ59 =>
  (mkN μ59 (10, 0)).bind fun (a63, μ64) =>
  (fX0_init a63 μ64).bind fun μ66 =>
  (ptR μ66 v0 8 a63).bind fun μ69 =>
  (mkN μ69 (18, 0)).bind fun (a73, μ74) =>
  (fX8_init a73 μ74).bind fun μ76 =>
  (ptR μ76 v0 9 a73).bind fun μ79 =>
  (ptI μ79 v0 10 (0 : Int32)).bind fun μ81 =>
  (mkN μ81 (19, 0)).bind fun (a85, μ86) =>
  (fX9_init a85 μ86).bind fun μ88 =>
  (ptR μ88 v0 11 a85).bind fun μ91 =>
  (mkN μ91 (10, 0)).bind fun (a95, μ96) =>
  (fX0_init a95 μ96).bind fun μ98 =>
  (ptR μ98 v0 12 a95).bind fun μ101 =>
  (mkN μ101 (18, 0)).bind fun (a105, μ106) =>
  (fX8_init a105 μ106).bind fun μ108 =>
  (ptR μ108 v0 13 a105).bind fun μ111 =>
  (mkN μ111 (12, 0)).bind fun (a115, μ116) =>
  (gA μ116 v0).bind fun _u =>
  (gR μ116 v0 4 11).bind fun a118 =>
  (fX2_init a115 a118 μ116).bind fun μ122 =>
  (ptR μ122 v0 14 a115).bind fun μ125 =>
  (mkN μ125 (15, 0)).bind fun (a129, μ130) =>
  (fX5_init a129 μ130).bind fun μ132 =>
  (ptR μ132 v0 15 a129).bind fun μ135 =>
  (mkN μ135 (14, 0)).bind fun (a139, μ140) =>
  (fX4_init a139 μ140).bind fun μ142 =>
  (ptR μ142 v0 16 a139).bind fun μ145 =>
  (mkN μ145 (13, 0)).bind fun (a149, μ150) =>
  (fX3_init a149 μ150).bind fun μ152 =>
  (ptR μ152 v0 17 a149).bind fun μ155 =>
  (mkN μ155 (1, 6)).bind fun (a159, μ160) =>
  (ptR μ160 v0 18 a159).bind fun μ161 =>
  (mkM μ161 2 4).bind fun (a165, μ166) =>
  (ptR μ166 v0 19 a165).bind fun μ167 =>
  some μ167
set_option maxHeartbeats 4000000 in
theorem tX10_init {ω : Wd} {l : Launch} (d : Nat) {v0 : Nat} {μ : Mem} {res : Mem} (h : fX10_init v0 μ = some res) (k0 : (kd v0).1 = 20) : Ct ω l mX10_init (d + 3) [.ref v0] μ 491 10922 (PA (.inl none) res) := by
  refine Ct.of pn_RX10 (Nat.le_of_ble_eq_true rfl) ?_
  show J ω l mX10_init (d + 3) 0 [(0, .ref v0)] [] μ 491 10922 _
  unfold fX10_init at h
  refine J.aload_n (pc := 0) dX10_init_0 rfl 0 rfl ?_
  refine J.objInit (pc := 1) dX10_init_1 ml_RX10_1 oi_1 oi_2 (Nat.le_of_ble_eq_true rfl) ?_
  refine J.aload_n (pc := 4) dX10_init_4 rfl 0 rfl ?_
  refine J.sipush (pc := 5) dX10_init_5 is_700 ?_
  obtain ⟨⟨a3, μ4⟩, e1, h⟩ := bnd h
  try dsimp only at h
  have k2 : (kd a3).1 = 0 := mkN_k e1
  refine J.mArr (pc := 8) (t := 0) (N := 700) dX10_init_8 rfl (Or.inl ⟨rfl, rfl⟩) e1 aw_int (by decide) (by decide) (by decide) (by omega) (by omega) ?_
  obtain ⟨μ5, e6, h⟩ := bnd h
  refine J.qR (pc := 10) dX10_init_10 fl_RX10_9 k0 (ptR_ok e6).1 rfl rfl (ptR_ok e6).2 ?_
  refine J.aload_n (pc := 13) dX10_init_13 rfl 0 rfl ?_
  refine J.iconst (pc := 14) dX10_init_14 ic_0 ?_
  obtain ⟨μ7, e8, h⟩ := bnd h
  refine J.qI (pc := 15) dX10_init_15 fl_RX10_13 k0 (ptI_ok e8).1 rfl rfl (ptI_ok e8).2 ?_
  refine J.aload_n (pc := 18) dX10_init_18 rfl 0 rfl ?_
  refine J.iconst (pc := 19) dX10_init_19 ic_m1 ?_
  obtain ⟨μ9, e10, h⟩ := bnd h
  refine J.qI (pc := 20) dX10_init_20 fl_RX10_17 k0 (ptI_ok e10).1 rfl rfl (ptI_ok e10).2 ?_
  refine J.aload_n (pc := 23) dX10_init_23 rfl 0 rfl ?_
  refine J.iconst (pc := 24) dX10_init_24 ic_3 ?_
  obtain ⟨⟨a13, μ14⟩, e11, h⟩ := bnd h
  try dsimp only at h
  have k12 : (kd a13).1 = 0 := mkN_k e11
  refine J.mArr (pc := 25) (t := 0) (N := 3) dX10_init_25 rfl (Or.inl ⟨rfl, rfl⟩) e11 aw_int (by decide) (by decide) (by decide) (by omega) (by omega) ?_
  obtain ⟨μ15, e16, h⟩ := bnd h
  refine J.qR (pc := 27) dX10_init_27 fl_RX10_20 k0 (ptR_ok e16).1 rfl rfl (ptR_ok e16).2 ?_
  refine J.aload_n (pc := 30) dX10_init_30 rfl 0 rfl ?_
  obtain ⟨⟨a19, μ20⟩, e17, h⟩ := bnd h
  try dsimp only at h
  have k18 : (kd a19).1 = 11 := mkN_k e17
  refine J.mNew (pc := 31) (c := 1) dX10_init_31 e17 nw_RX10_23 (by decide) (by decide) (by omega) (by show 8 ≤ _; omega) ?_
  refine J.dup (pc := 34) dX10_init_34 rfl ?_
  obtain ⟨μ22, e21, h⟩ := bnd h
  refine J.callIN (Y := mX10_init) (Z := mX1_init) (pc := 35) (st := [.ref a19, .ref v0]) (k2 := 475) (n2 := 8592) dX10_init_35 ml_RX10_25 mo_X1_init mi_X1_init rfl rfl rfl (tX1_init d e21 k18) (fun i ν hp => nrm hp.1) rfl rfl (Nat.le_of_ble_eq_true rfl) (by decide) (by decide) (fun v ν hp => ?_)
  obtain ⟨rfl, rfl⟩ := QAl hp
  show J _ _ _ _ 38 _ ([.ref a19, .ref v0]) _ _ _ _
  obtain ⟨μ25, e26, h⟩ := bnd h
  refine J.qR (pc := 38) dX10_init_38 fl_RX10_26 k0 (ptR_ok e26).1 rfl rfl (ptR_ok e26).2 ?_
  refine J.aload_n (pc := 41) dX10_init_41 rfl 0 rfl ?_
  obtain ⟨⟨a29, μ30⟩, e27, h⟩ := bnd h
  try dsimp only at h
  have k28 : (kd a29).1 = 11 := mkN_k e27
  refine J.mNew (pc := 42) (c := 1) dX10_init_42 e27 nw_RX10_23 (by decide) (by decide) (by omega) (by show 8 ≤ _; omega) ?_
  refine J.dup (pc := 45) dX10_init_45 rfl ?_
  obtain ⟨μ32, e31, h⟩ := bnd h
  refine J.callIN (Y := mX10_init) (Z := mX1_init) (pc := 46) (st := [.ref a29, .ref v0]) (k2 := 461) (n2 := 6965) dX10_init_46 ml_RX10_25 mo_X1_init mi_X1_init rfl rfl rfl (tX1_init d e31 k28) (fun i ν hp => nrm hp.1) rfl rfl (Nat.le_of_ble_eq_true rfl) (by decide) (by decide) (fun v ν hp => ?_)
  obtain ⟨rfl, rfl⟩ := QAl hp
  show J _ _ _ _ 49 _ ([.ref a29, .ref v0]) _ _ _ _
  obtain ⟨μ35, e36, h⟩ := bnd h
  refine J.qR (pc := 49) dX10_init_49 fl_RX10_30 k0 (ptR_ok e36).1 rfl rfl (ptR_ok e36).2 ?_
  refine J.aload_n (pc := 52) dX10_init_52 rfl 0 rfl ?_
  obtain ⟨⟨a39, μ40⟩, e37, h⟩ := bnd h
  try dsimp only at h
  have k38 : (kd a39).1 = 16 := mkN_k e37
  refine J.mNew (pc := 53) (c := 6) dX10_init_53 e37 nw_RX10_33 (by decide) (by decide) (by omega) (by show 11 ≤ _; omega) ?_
  refine J.dup (pc := 56) dX10_init_56 rfl ?_
  refine J.aload_n (pc := 57) dX10_init_57 rfl 0 rfl ?_
  obtain ⟨_, e41, h⟩ := bnd h
  obtain ⟨a42, e43, h⟩ := bnd h
  have k44 : (kd a42).1 = 11 := gR_k e43
  refine J.fR (pc := 58) dX10_init_58 fl_RX10_30 k0 (gA_ok e41) rfl e43 ?_
  obtain ⟨μ46, e45, h⟩ := bnd h
  refine J.callI (Y := mX10_init) (Z := mX6_init) (pc := 61) (st := [.ref a39, .ref v0]) (k2 := 459) (n2 := 6954) dX10_init_61 ml_RX10_35 mo_X6_init mi_X6_init rfl rfl rfl (tX6_init (d + 1) e45 k38 k44) (fun i ν hp => nrm hp.1) rfl rfl (Nat.le_of_ble_eq_true rfl) (by decide) (by decide) (fun v ν hp => ?_)
  obtain ⟨rfl, rfl⟩ := QAl hp
  show J _ _ _ _ 64 _ ([.ref a39, .ref v0]) _ _ _ _
  obtain ⟨μ49, e50, h⟩ := bnd h
  refine J.qR (pc := 64) dX10_init_64 fl_RX10_38 k0 (ptR_ok e50).1 rfl rfl (ptR_ok e50).2 ?_
  refine J.aload_n (pc := 67) dX10_init_67 rfl 0 rfl ?_
  obtain ⟨⟨a53, μ54⟩, e51, h⟩ := bnd h
  try dsimp only at h
  have k52 : (kd a53).1 = 19 := mkN_k e51
  refine J.mNew (pc := 68) (c := 9) dX10_init_68 e51 nw_RX10_42 (by decide) (by decide) (by omega) (by show 7 ≤ _; omega) ?_
  refine J.dup (pc := 71) dX10_init_71 rfl ?_
  obtain ⟨μ56, e55, h⟩ := bnd h
  refine J.callI (Y := mX10_init) (Z := mX9_init) (pc := 72) (st := [.ref a53, .ref v0]) (k2 := 454) (n2 := 6881) dX10_init_72 ml_RX10_44 mo_X9_init mi_X9_init rfl rfl rfl (tX9_init (d + 1) e55 k52) (fun i ν hp => nrm hp.1) rfl rfl (Nat.le_of_ble_eq_true rfl) (by decide) (by decide) (fun v ν hp => ?_)
  obtain ⟨rfl, rfl⟩ := QAl hp
  show J _ _ _ _ 75 _ ([.ref a53, .ref v0]) _ _ _ _
  obtain ⟨μ59, e60, h⟩ := bnd h
  refine J.qR (pc := 75) dX10_init_75 fl_RX10_45 k0 (ptR_ok e60).1 rfl rfl (ptR_ok e60).2 ?_
  refine J.aload_n (pc := 78) dX10_init_78 rfl 0 rfl ?_
  obtain ⟨⟨a63, μ64⟩, e61, h⟩ := bnd h
  try dsimp only at h
  have k62 : (kd a63).1 = 10 := mkN_k e61
  refine J.mNew (pc := 79) (c := 0) dX10_init_79 e61 nw_RX10_49 (by decide) (by decide) (by omega) (by show 3 ≤ _; omega) ?_
  refine J.dup (pc := 82) dX10_init_82 rfl ?_
  obtain ⟨μ66, e65, h⟩ := bnd h
  refine J.callI (Y := mX10_init) (Z := mX0_init) (pc := 83) (st := [.ref a63, .ref v0]) (k2 := 252) (n2 := 3918) dX10_init_83 ml_RX10_51 mo_X0_init mi_X0_init rfl rfl rfl (tX0_init d e65 k62) (fun i ν hp => nrm hp.1) rfl rfl (Nat.le_of_ble_eq_true rfl) (by decide) (by decide) (fun v ν hp => ?_)
  obtain ⟨rfl, rfl⟩ := QAl hp
  show J _ _ _ _ 86 _ ([.ref a63, .ref v0]) _ _ _ _
  obtain ⟨μ69, e70, h⟩ := bnd h
  refine J.qR (pc := 86) dX10_init_86 fl_RX10_52 k0 (ptR_ok e70).1 rfl rfl (ptR_ok e70).2 ?_
  refine J.aload_n (pc := 89) dX10_init_89 rfl 0 rfl ?_
  obtain ⟨⟨a73, μ74⟩, e71, h⟩ := bnd h
  try dsimp only at h
  have k72 : (kd a73).1 = 18 := mkN_k e71
  refine J.mNew (pc := 90) (c := 8) dX10_init_90 e71 nw_RX10_56 (by decide) (by decide) (by omega) (by show 4 ≤ _; omega) ?_
  refine J.dup (pc := 93) dX10_init_93 rfl ?_
  obtain ⟨μ76, e75, h⟩ := bnd h
  refine J.callIN (Y := mX10_init) (Z := mX8_init) (pc := 94) (st := [.ref a73, .ref v0]) (k2 := 248) (n2 := 3890) dX10_init_94 ml_RX10_58 mo_X8_init mi_X8_init rfl rfl rfl (tX8_init (d + 1) e75 k72) (fun i ν hp => nrm hp.1) rfl rfl (Nat.le_of_ble_eq_true rfl) (by decide) (by decide) (fun v ν hp => ?_)
  obtain ⟨rfl, rfl⟩ := QAl hp
  show J _ _ _ _ 97 _ ([.ref a73, .ref v0]) _ _ _ _
  obtain ⟨μ79, e80, h⟩ := bnd h
  refine J.qR (pc := 97) dX10_init_97 fl_RX10_59 k0 (ptR_ok e80).1 rfl rfl (ptR_ok e80).2 ?_
  refine J.aload_n (pc := 100) dX10_init_100 rfl 0 rfl ?_
  refine J.iconst (pc := 101) dX10_init_101 ic_0 ?_
  obtain ⟨μ81, e82, h⟩ := bnd h
  refine J.qZ (pc := 102) dX10_init_102 fl_RX10_63 k0 (ptI_ok e82).1 rfl rfl (Or.inl rfl) (ptI_ok e82).2 ?_
  refine J.aload_n (pc := 105) dX10_init_105 rfl 0 rfl ?_
  obtain ⟨⟨a85, μ86⟩, e83, h⟩ := bnd h
  try dsimp only at h
  have k84 : (kd a85).1 = 19 := mkN_k e83
  refine J.mNew (pc := 106) (c := 9) dX10_init_106 e83 nw_RX10_42 (by decide) (by decide) (by omega) (by show 7 ≤ _; omega) ?_
  refine J.dup (pc := 109) dX10_init_109 rfl ?_
  obtain ⟨μ88, e87, h⟩ := bnd h
  refine J.callI (Y := mX10_init) (Z := mX9_init) (pc := 110) (st := [.ref a85, .ref v0]) (k2 := 243) (n2 := 3817) dX10_init_110 ml_RX10_44 mo_X9_init mi_X9_init rfl rfl rfl (tX9_init (d + 1) e87 k84) (fun i ν hp => nrm hp.1) rfl rfl (Nat.le_of_ble_eq_true rfl) (by decide) (by decide) (fun v ν hp => ?_)
  obtain ⟨rfl, rfl⟩ := QAl hp
  show J _ _ _ _ 113 _ ([.ref a85, .ref v0]) _ _ _ _
  obtain ⟨μ91, e92, h⟩ := bnd h
  refine J.qR (pc := 113) dX10_init_113 fl_RX10_67 k0 (ptR_ok e92).1 rfl rfl (ptR_ok e92).2 ?_
  refine J.aload_n (pc := 116) dX10_init_116 rfl 0 rfl ?_
  obtain ⟨⟨a95, μ96⟩, e93, h⟩ := bnd h
  try dsimp only at h
  have k94 : (kd a95).1 = 10 := mkN_k e93
  refine J.mNew (pc := 117) (c := 0) dX10_init_117 e93 nw_RX10_49 (by decide) (by decide) (by omega) (by show 3 ≤ _; omega) ?_
  refine J.dup (pc := 120) dX10_init_120 rfl ?_
  obtain ⟨μ98, e97, h⟩ := bnd h
  refine J.callI (Y := mX10_init) (Z := mX0_init) (pc := 121) (st := [.ref a95, .ref v0]) (k2 := 41) (n2 := 854) dX10_init_121 ml_RX10_51 mo_X0_init mi_X0_init rfl rfl rfl (tX0_init d e97 k94) (fun i ν hp => nrm hp.1) rfl rfl (Nat.le_of_ble_eq_true rfl) (by decide) (by decide) (fun v ν hp => ?_)
  obtain ⟨rfl, rfl⟩ := QAl hp
  show J _ _ _ _ 124 _ ([.ref a95, .ref v0]) _ _ _ _
  obtain ⟨μ101, e102, h⟩ := bnd h
  refine J.qR (pc := 124) dX10_init_124 fl_RX10_70 k0 (ptR_ok e102).1 rfl rfl (ptR_ok e102).2 ?_
  refine J.aload_n (pc := 127) dX10_init_127 rfl 0 rfl ?_
  obtain ⟨⟨a105, μ106⟩, e103, h⟩ := bnd h
  try dsimp only at h
  have k104 : (kd a105).1 = 18 := mkN_k e103
  refine J.mNew (pc := 128) (c := 8) dX10_init_128 e103 nw_RX10_56 (by decide) (by decide) (by omega) (by show 4 ≤ _; omega) ?_
  refine J.dup (pc := 131) dX10_init_131 rfl ?_
  obtain ⟨μ108, e107, h⟩ := bnd h
  refine J.callIN (Y := mX10_init) (Z := mX8_init) (pc := 132) (st := [.ref a105, .ref v0]) (k2 := 37) (n2 := 826) dX10_init_132 ml_RX10_58 mo_X8_init mi_X8_init rfl rfl rfl (tX8_init (d + 1) e107 k104) (fun i ν hp => nrm hp.1) rfl rfl (Nat.le_of_ble_eq_true rfl) (by decide) (by decide) (fun v ν hp => ?_)
  obtain ⟨rfl, rfl⟩ := QAl hp
  show J _ _ _ _ 135 _ ([.ref a105, .ref v0]) _ _ _ _
  obtain ⟨μ111, e112, h⟩ := bnd h
  refine J.qR (pc := 135) dX10_init_135 fl_RX10_73 k0 (ptR_ok e112).1 rfl rfl (ptR_ok e112).2 ?_
  refine J.aload_n (pc := 138) dX10_init_138 rfl 0 rfl ?_
  obtain ⟨⟨a115, μ116⟩, e113, h⟩ := bnd h
  try dsimp only at h
  have k114 : (kd a115).1 = 12 := mkN_k e113
  refine J.mNew (pc := 139) (c := 2) dX10_init_139 e113 nw_RX10_76 (by decide) (by decide) (by omega) (by show 8 ≤ _; omega) ?_
  refine J.dup (pc := 142) dX10_init_142 rfl ?_
  refine J.aload_n (pc := 143) dX10_init_143 rfl 0 rfl ?_
  obtain ⟨_, e117, h⟩ := bnd h
  obtain ⟨a118, e119, h⟩ := bnd h
  have k120 : (kd a118).1 = 11 := gR_k e119
  refine J.fR (pc := 144) dX10_init_144 fl_RX10_26 k0 (gA_ok e117) rfl e119 ?_
  obtain ⟨μ122, e121, h⟩ := bnd h
  refine J.callI (Y := mX10_init) (Z := mX2_init) (pc := 147) (st := [.ref a115, .ref v0]) (k2 := 24) (n2 := 619) dX10_init_147 ml_RX10_78 mo_X2_init mi_X2_init rfl rfl rfl (tX2_init d e121 k114 k120) (fun i ν hp => nrm hp.1) rfl rfl (Nat.le_of_ble_eq_true rfl) (by decide) (by decide) (fun v ν hp => ?_)
  obtain ⟨rfl, rfl⟩ := QAl hp
  show J _ _ _ _ 150 _ ([.ref a115, .ref v0]) _ _ _ _
  obtain ⟨μ125, e126, h⟩ := bnd h
  refine J.qR (pc := 150) dX10_init_150 fl_RX10_79 k0 (ptR_ok e126).1 rfl rfl (ptR_ok e126).2 ?_
  refine J.aload_n (pc := 153) dX10_init_153 rfl 0 rfl ?_
  obtain ⟨⟨a129, μ130⟩, e127, h⟩ := bnd h
  try dsimp only at h
  have k128 : (kd a129).1 = 15 := mkN_k e127
  refine J.mNew (pc := 154) (c := 5) dX10_init_154 e127 nw_RX10_83 (by decide) (by decide) (by omega) (by show 5 ≤ _; omega) ?_
  refine J.dup (pc := 157) dX10_init_157 rfl ?_
  obtain ⟨μ132, e131, h⟩ := bnd h
  refine J.callIN (Y := mX10_init) (Z := mX5_init) (pc := 158) (st := [.ref a129, .ref v0]) (k2 := 21) (n2 := 517) dX10_init_158 ml_RX10_85 mo_X5_init mi_X5_init rfl rfl rfl (tX5_init (d + 1) e131 k128) (fun i ν hp => nrm hp.1) rfl rfl (Nat.le_of_ble_eq_true rfl) (by decide) (by decide) (fun v ν hp => ?_)
  obtain ⟨rfl, rfl⟩ := QAl hp
  show J _ _ _ _ 161 _ ([.ref a129, .ref v0]) _ _ _ _
  obtain ⟨μ135, e136, h⟩ := bnd h
  refine J.qR (pc := 161) dX10_init_161 fl_RX10_86 k0 (ptR_ok e136).1 rfl rfl (ptR_ok e136).2 ?_
  refine J.aload_n (pc := 164) dX10_init_164 rfl 0 rfl ?_
  obtain ⟨⟨a139, μ140⟩, e137, h⟩ := bnd h
  try dsimp only at h
  have k138 : (kd a139).1 = 14 := mkN_k e137
  refine J.mNew (pc := 165) (c := 4) dX10_init_165 e137 nw_RX10_90 (by decide) (by decide) (by omega) (by show 3 ≤ _; omega) ?_
  refine J.dup (pc := 168) dX10_init_168 rfl ?_
  obtain ⟨μ142, e141, h⟩ := bnd h
  refine J.callIN (Y := mX10_init) (Z := mX4_init) (pc := 169) (st := [.ref a139, .ref v0]) (k2 := 5) (n2 := 17) dX10_init_169 ml_RX10_92 mo_X4_init mi_X4_init rfl rfl rfl (tX4_init (d + 1) e141 k138) (fun i ν hp => nrm hp.1) rfl rfl (Nat.le_of_ble_eq_true rfl) (by decide) (by decide) (fun v ν hp => ?_)
  obtain ⟨rfl, rfl⟩ := QAl hp
  show J _ _ _ _ 172 _ ([.ref a139, .ref v0]) _ _ _ _
  obtain ⟨μ145, e146, h⟩ := bnd h
  refine J.qR (pc := 172) dX10_init_172 fl_RX10_93 k0 (ptR_ok e146).1 rfl rfl (ptR_ok e146).2 ?_
  refine J.aload_n (pc := 175) dX10_init_175 rfl 0 rfl ?_
  obtain ⟨⟨a149, μ150⟩, e147, h⟩ := bnd h
  try dsimp only at h
  have k148 : (kd a149).1 = 13 := mkN_k e147
  refine J.mNew (pc := 176) (c := 3) dX10_init_176 e147 nw_RX10_97 (by decide) (by decide) (by omega) (by show 1 ≤ _; omega) ?_
  refine J.dup (pc := 179) dX10_init_179 rfl ?_
  obtain ⟨μ152, e151, h⟩ := bnd h
  refine J.callIN (Y := mX10_init) (Z := mX3_init) (pc := 180) (st := [.ref a149, .ref v0]) (k2 := 4) (n2 := 16) dX10_init_180 ml_RX10_99 mo_X3_init mi_X3_init rfl rfl rfl (tX3_init (d + 1) e151 k148) (fun i ν hp => nrm hp.1) rfl rfl (Nat.le_of_ble_eq_true rfl) (by decide) (by decide) (fun v ν hp => ?_)
  obtain ⟨rfl, rfl⟩ := QAl hp
  show J _ _ _ _ 183 _ ([.ref a149, .ref v0]) _ _ _ _
  obtain ⟨μ155, e156, h⟩ := bnd h
  refine J.qR (pc := 183) dX10_init_183 fl_RX10_100 k0 (ptR_ok e156).1 rfl rfl (ptR_ok e156).2 ?_
  refine J.aload_n (pc := 186) dX10_init_186 rfl 0 rfl ?_
  refine J.bipush (pc := 187) dX10_init_187 ib_6 ?_
  obtain ⟨⟨a159, μ160⟩, e157, h⟩ := bnd h
  try dsimp only at h
  have k158 : (kd a159).1 = 1 := mkN_k e157
  refine J.mArr (pc := 189) (t := 1) (N := 6) dX10_init_189 rfl (Or.inr (Or.inl ⟨rfl, rfl⟩)) e157 aw_long (by decide) (by decide) (by decide) (by omega) (by omega) ?_
  obtain ⟨μ161, e162, h⟩ := bnd h
  refine J.qR (pc := 191) dX10_init_191 fl_RX10_104 k0 (ptR_ok e162).1 rfl rfl (ptR_ok e162).2 ?_
  refine J.aload_n (pc := 194) dX10_init_194 rfl 0 rfl ?_
  refine J.iconst (pc := 195) dX10_init_195 ic_2 ?_
  refine J.iconst (pc := 196) dX10_init_196 ic_4 ?_
  obtain ⟨⟨a165, μ166⟩, e163, h⟩ := bnd h
  try dsimp only at h
  have k164 : (kd a165).1 = 3 := mkM_k e163
  refine J.mMulti (pc := 197) (N := 2) (M := 4) dX10_init_197 e163 mu_RX10_108 an_3 aw_int (by decide) (by decide) (by decide) (by decide) (by decide) (by decide) (by omega) (by omega) ?_
  obtain ⟨μ167, e168, h⟩ := bnd h
  refine J.qR (pc := 201) dX10_init_201 fl_RX10_110 k0 (ptR_ok e168).1 rfl rfl (ptR_ok e168).2 ?_
  cases h
  exact J.vret (pc := 204) dX10_init_204 rfl ⟨rfl, rfl⟩
def fX10_restore (v0 : Nat) (μ : Mem) : Option (Int32 × Mem) :=
  if (μ.2.1 v0 10) = 0 then
    some ((0 : Int32), μ)
  else
    (gR μ v0 7 19).bind fun a1 =>
    (gR μ v0 11 19).bind fun a4 =>
    (fX9_copyFrom a1 a4 μ).bind fun μ8 =>
    (gR μ8 v0 8 10).bind fun a11 =>
    (gR μ8 v0 12 10).bind fun a14 =>
    (fX0_copyFrom a11 a14 μ8).bind fun μ18 =>
    (gR μ18 v0 9 18).bind fun a21 =>
    (gR μ18 v0 13 18).bind fun a24 =>
    (fX8_copyFrom a21 a24 μ18).bind fun μ28 =>
    some ((1 : Int32), μ28)
set_option maxHeartbeats 4000000 in
theorem tX10_restore {ω : Wd} {l : Launch} (d : Nat) {v0 : Nat} {μ : Mem} {res : Int32 × Mem} (h : fX10_restore v0 μ = some res) (hN : μ.1 = NN) (k0 : (kd v0).1 = 20) : Ct ω l mX10_restore (d + 3) [.ref v0] μ 0 0 (PE (.inl (some (.int res.1))) res.2 (isB res.1)) := by
  refine Ct.of pn_RX10 (Nat.le_of_ble_eq_true rfl) ?_
  show J ω l mX10_restore (d + 3) 0 [(0, .ref v0)] [] μ 0 0 _
  unfold fX10_restore at h
  refine J.aload_n (pc := 0) dX10_restore_0 rfl 0 rfl ?_
  refine J.fI (pc := 1) dX10_restore_1 fl_RX10_63 k0 (okN hN k0 (by decide)) (Or.inr rfl) ?_
  rcases ifc h with ⟨hc, h⟩ | ⟨hc, h⟩
  · refine J.zne (pc := 4) (tgt := 9) dX10_restore_4 (by decide) (fun _ => ?_) (fun q => absurd hc q)
    refine J.iconst (pc := 7) dX10_restore_7 ic_0 ?_
    cases h
    exact J.zret (pc := 8) dX10_restore_8 rfl (narB (Or.inl rfl)) ⟨rfl, rfl, hN, (Or.inl rfl)⟩
  · refine J.zne (pc := 4) (tgt := 9) dX10_restore_4 (by decide) (fun q => absurd q hc) (fun _ => ?_)
    refine J.aload_n (pc := 9) dX10_restore_9 rfl 0 rfl ?_
    obtain ⟨a1, e2, h⟩ := bnd h
    have k3 : (kd a1).1 = 19 := gR_k e2
    refine J.fR (pc := 10) dX10_restore_10 fl_RX10_45 k0 (okN hN k0 (by decide)) rfl e2 ?_
    refine J.aload_n (pc := 13) dX10_restore_13 rfl 0 rfl ?_
    obtain ⟨a4, e5, h⟩ := bnd h
    have k6 : (kd a4).1 = 19 := gR_k e5
    refine J.fR (pc := 14) dX10_restore_14 fl_RX10_67 k0 (okN hN k0 (by decide)) rfl e5 ?_
    obtain ⟨μ8, e7, h⟩ := bnd h
    refine J.callV (Y := mX10_restore) (Z := mX9_copyFrom) (pc := 17) (st := []) (k2 := 0) (n2 := 0) dX10_restore_17 ml_RX10_132 mo_X9_copyFrom mv_X9_copyFrom rfl (tX9_copyFrom (d + 1) e7 hN k3 k6) k3 (okN hN k3 (by decide)).1 (okN hN k3 (by decide)).2 cq_9 (by decide) rfl rfl (Nat.le_of_ble_eq_true rfl) (by decide) (by decide) (fun v ν hp => ?_) (fun i ν hp => nrm hp.1)
    obtain ⟨rfl, rfl, hN9, hb10⟩ := QEl hp
    show J _ _ _ _ 20 _ ([]) _ _ _ _
    refine J.aload_n (pc := 20) dX10_restore_20 rfl 0 rfl ?_
    obtain ⟨a11, e12, h⟩ := bnd h
    have k13 : (kd a11).1 = 10 := gR_k e12
    refine J.fR (pc := 21) dX10_restore_21 fl_RX10_52 k0 (okN hN9 k0 (by decide)) rfl e12 ?_
    refine J.aload_n (pc := 24) dX10_restore_24 rfl 0 rfl ?_
    obtain ⟨a14, e15, h⟩ := bnd h
    have k16 : (kd a14).1 = 10 := gR_k e15
    refine J.fR (pc := 25) dX10_restore_25 fl_RX10_70 k0 (okN hN9 k0 (by decide)) rfl e15 ?_
    obtain ⟨μ18, e17, h⟩ := bnd h
    refine J.callV (Y := mX10_restore) (Z := mX0_copyFrom) (pc := 28) (st := []) (k2 := 0) (n2 := 0) dX10_restore_28 ml_RX10_395 mo_X0_copyFrom mv_X0_copyFrom rfl (tX0_copyFrom d e17 hN9 k13 k16) k13 (okN hN9 k13 (by decide)).1 (okN hN9 k13 (by decide)).2 cq_0 (by decide) rfl rfl (Nat.le_of_ble_eq_true rfl) (by decide) (by decide) (fun v ν hp => ?_) (fun i ν hp => nrm hp.1)
    obtain ⟨rfl, rfl, hN19, hb20⟩ := QEl hp
    show J _ _ _ _ 31 _ ([]) _ _ _ _
    refine J.aload_n (pc := 31) dX10_restore_31 rfl 0 rfl ?_
    obtain ⟨a21, e22, h⟩ := bnd h
    have k23 : (kd a21).1 = 18 := gR_k e22
    refine J.fR (pc := 32) dX10_restore_32 fl_RX10_59 k0 (okN hN19 k0 (by decide)) rfl e22 ?_
    refine J.aload_n (pc := 35) dX10_restore_35 rfl 0 rfl ?_
    obtain ⟨a24, e25, h⟩ := bnd h
    have k26 : (kd a24).1 = 18 := gR_k e25
    refine J.fR (pc := 36) dX10_restore_36 fl_RX10_73 k0 (okN hN19 k0 (by decide)) rfl e25 ?_
    obtain ⟨μ28, e27, h⟩ := bnd h
    refine J.callV (Y := mX10_restore) (Z := mX8_copyFrom) (pc := 39) (st := []) (k2 := 0) (n2 := 0) dX10_restore_39 ml_RX10_398 mo_X8_copyFrom mv_X8_copyFrom rfl (tX8_copyFrom (d + 1) e27 hN19 k23 k26) k23 (okN hN19 k23 (by decide)).1 (okN hN19 k23 (by decide)).2 cq_8 (by decide) rfl rfl (Nat.le_of_ble_eq_true rfl) (by decide) (by decide) (fun v ν hp => ?_) (fun i ν hp => nrm hp.1)
    obtain ⟨rfl, rfl, hN29, hb30⟩ := QEl hp
    show J _ _ _ _ 42 _ ([]) _ _ _ _
    refine J.iconst (pc := 42) dX10_restore_42 ic_1 ?_
    cases h
    exact J.zret (pc := 43) dX10_restore_43 rfl (narB (Or.inr rfl)) ⟨rfl, rfl, hN29, (Or.inr rfl)⟩
def fX10_undo (v0 : Nat) (μ : Mem) : Option (Int32 × Mem) :=
  (gR μ v0 8 10).bind fun a1 =>
  (gR μ v0 7 19).bind fun a4 =>
  (fX0_takeBack a1 a4 μ).bind fun (r9, μ8) =>
  if r9 = 0 then
    some ((-1 : Int32), μ8)
  else
    (gR μ8 v0 8 10).bind fun a12 =>
    some ((μ8.2.1 a12 0), μ8)
set_option maxHeartbeats 4000000 in
theorem tX10_undo {ω : Wd} {l : Launch} (d : Nat) {v0 : Nat} {μ : Mem} {res : Int32 × Mem} (h : fX10_undo v0 μ = some res) (hN : μ.1 = NN) (k0 : (kd v0).1 = 20) : Ct ω l mX10_undo (d + 3) [.ref v0] μ 0 0 (PE (.inl (some (.int res.1))) res.2 True) := by
  refine Ct.of pn_RX10 (Nat.le_of_ble_eq_true rfl) ?_
  show J ω l mX10_undo (d + 3) 0 [(0, .ref v0)] [] μ 0 0 _
  unfold fX10_undo at h
  refine J.aload_n (pc := 0) dX10_undo_0 rfl 0 rfl ?_
  obtain ⟨a1, e2, h⟩ := bnd h
  have k3 : (kd a1).1 = 10 := gR_k e2
  refine J.fR (pc := 1) dX10_undo_1 fl_RX10_52 k0 (okN hN k0 (by decide)) rfl e2 ?_
  refine J.aload_n (pc := 4) dX10_undo_4 rfl 0 rfl ?_
  obtain ⟨a4, e5, h⟩ := bnd h
  have k6 : (kd a4).1 = 19 := gR_k e5
  refine J.fR (pc := 5) dX10_undo_5 fl_RX10_45 k0 (okN hN k0 (by decide)) rfl e5 ?_
  obtain ⟨⟨r9, μ8⟩, e7, h⟩ := bnd h
  try dsimp only at h
  refine J.callV (Y := mX10_undo) (Z := mX0_takeBack) (pc := 8) (st := []) (k2 := 0) (n2 := 0) dX10_undo_8 ml_RX10_256 mo_X0_takeBack mv_X0_takeBack rfl (tX0_takeBack d e7 hN k3 k6) k3 (okN hN k3 (by decide)).1 (okN hN k3 (by decide)).2 cq_0 (by decide) rfl rfl (Nat.le_of_ble_eq_true rfl) (by decide) (by decide) (fun v ν hp => ?_) (fun i ν hp => nrm hp.1)
  obtain ⟨rfl, rfl, hN10, hb11⟩ := QEl hp
  show J _ _ _ _ 11 _ ([.int r9]) _ _ _ _
  rcases ifc h with ⟨hc, h⟩ | ⟨hc, h⟩
  · refine J.zeq (pc := 11) (tgt := 24) dX10_undo_11 (by decide) (fun _ => ?_) (fun q => absurd hc q)
    refine J.iconst (pc := 24) dX10_undo_24 ic_m1 ?_
    cases h
    exact J.iret (pc := 25) dX10_undo_25 rfl ⟨rfl, rfl, hN10, trivial⟩
  · refine J.zeq (pc := 11) (tgt := 24) dX10_undo_11 (by decide) (fun q => absurd q hc) (fun _ => ?_)
    refine J.aload_n (pc := 14) dX10_undo_14 rfl 0 rfl ?_
    obtain ⟨a12, e13, h⟩ := bnd h
    have k14 : (kd a12).1 = 10 := gR_k e13
    refine J.fR (pc := 15) dX10_undo_15 fl_RX10_52 k0 (okN hN10 k0 (by decide)) rfl e13 ?_
    refine J.fI (pc := 18) dX10_undo_18 fl_RX10_181 k14 (okN hN10 k14 (by decide)) (Or.inl rfl) ?_
    refine J.goto (pc := 21) (tgt := 25) dX10_undo_21 (by decide) ?_
    cases h
    exact J.iret (pc := 25) dX10_undo_25 rfl ⟨rfl, rfl, hN10, trivial⟩
def fX11_bounded (v0 : Int32) (v1 : Int32) (v2 : Int32) : Int32 :=
  if v0 < v1 then
    v1
  else
    if v2 < v0 then
      v2
    else
      v0
set_option maxHeartbeats 4000000 in
theorem tX11_bounded {ω : Wd} {l : Launch} (d : Nat) (v0 : Int32) (v1 : Int32) (v2 : Int32) (μ : Mem) (hN : μ.1 = NN) : Ct ω l mX11_bounded d [.int v0, .int v1, .int v2] μ 0 0 (PE (.inl (some (.int (fX11_bounded v0 v1 v2)))) μ True) := by
  refine Ct.of pn_RX11 (Nat.le_of_ble_eq_true rfl) ?_
  show J ω l mX11_bounded d 0 [(0, .int v0), (1, .int v1), (2, .int v2)] [] μ 0 0 _
  generalize h : fX11_bounded v0 v1 v2 = res
  unfold fX11_bounded at h
  refine J.iload_n (pc := 0) dX11_bounded_0 rfl 0 rfl ?_
  refine J.iload_n (pc := 1) dX11_bounded_1 rfl 1 rfl ?_
  rcases ifc h with ⟨hc, h⟩ | ⟨hc, h⟩
  · refine J.cge (pc := 2) (tgt := 9) dX11_bounded_2 (by decide) (fun _ => ?_) (fun q => absurd hc q)
    refine J.iload_n (pc := 5) dX11_bounded_5 rfl 1 rfl ?_
    refine J.goto (pc := 6) (tgt := 19) dX11_bounded_6 (by decide) ?_
    cases h
    exact J.iret (pc := 19) dX11_bounded_19 rfl ⟨rfl, rfl, hN, trivial⟩
  · refine J.cge (pc := 2) (tgt := 9) dX11_bounded_2 (by decide) (fun q => absurd q hc) (fun _ => ?_)
    refine J.iload_n (pc := 9) dX11_bounded_9 rfl 0 rfl ?_
    refine J.iload_n (pc := 10) dX11_bounded_10 rfl 2 rfl ?_
    rcases ifc h with ⟨hc, h⟩ | ⟨hc, h⟩
    · refine J.cle (pc := 11) (tgt := 18) dX11_bounded_11 (by decide) (fun _ => ?_) (fun q => absurd hc q)
      refine J.iload_n (pc := 14) dX11_bounded_14 rfl 2 rfl ?_
      refine J.goto (pc := 15) (tgt := 19) dX11_bounded_15 (by decide) ?_
      cases h
      exact J.iret (pc := 19) dX11_bounded_19 rfl ⟨rfl, rfl, hN, trivial⟩
    · refine J.cle (pc := 11) (tgt := 18) dX11_bounded_11 (by decide) (fun q => absurd q hc) (fun _ => ?_)
      refine J.iload_n (pc := 18) dX11_bounded_18 rfl 0 rfl ?_
      cases h
      exact J.iret (pc := 19) dX11_bounded_19 rfl ⟨rfl, rfl, hN, trivial⟩
def fX11_works (v0 : Int32) (v1 : Int32) (v2 : Int32) : Option (Int32) :=
  if v0 = (4 : Int32) then
    if v1 = 0 then
      some (0 : Int32)
    else
      if v2 = 0 then
        some (0 : Int32)
      else
        some (1 : Int32)
  else
  if v0 = (5 : Int32) then
    if v1 = 0 then
      if v2 = 0 then
        some (0 : Int32)
      else
        some (1 : Int32)
    else
      some (1 : Int32)
  else
  if v0 = (6 : Int32) then
    if v1 < v2 then
      some (1 : Int32)
    else
      some (0 : Int32)
  else
  if v0 = (7 : Int32) then
    if v1 = v2 then
      some (1 : Int32)
    else
      some (0 : Int32)
  else
  if v0 = (8 : Int32) then
    some (v1 + v2)
  else
  if v0 = (9 : Int32) then
    some (v1 - v2)
  else
  if v0 = (10 : Int32) then
    some (v1 * v2)
  else
  if v2 = 0 then
    some (0 : Int32)
  else
    (dvI v1 v2).bind fun x1 =>
    some x1
set_option maxHeartbeats 4000000 in
theorem tX11_works {ω : Wd} {l : Launch} (d : Nat) {v0 : Int32} {v1 : Int32} {v2 : Int32} {μ : Mem} {res : Int32} (h : fX11_works v0 v1 v2 = some res) (hN : μ.1 = NN) : Ct ω l mX11_works d [.int v0, .int v1, .int v2] μ 0 0 (PE (.inl (some (.int res))) μ True) := by
  refine Ct.of pn_RX11 (Nat.le_of_ble_eq_true rfl) ?_
  show J ω l mX11_works d 0 [(0, .int v0), (1, .int v1), (2, .int v2)] [] μ 0 0 _
  unfold fX11_works at h
  refine J.iload_n (pc := 0) dX11_works_0 rfl 0 rfl ?_
  rcases ifc h with ⟨hc, h⟩ | ⟨ns3, h⟩
  · refine J.tableIn (pc := 1) (off := 43) (tgt := 44) dX11_works_1 (by rw [hc]; decide) (by rw [hc]; decide) (by rw [hc]; decide) (by decide) ?_
    refine J.iload_n (pc := 44) dX11_works_44 rfl 1 rfl ?_
    rcases ifc h with ⟨hc, h⟩ | ⟨hc, h⟩
    · refine J.zeq (pc := 45) (tgt := 56) dX11_works_45 (by decide) (fun _ => ?_) (fun q => absurd hc q)
      refine J.iconst (pc := 56) dX11_works_56 ic_0 ?_
      cases h
      exact J.iret (pc := 57) dX11_works_57 rfl ⟨rfl, rfl, hN, trivial⟩
    · refine J.zeq (pc := 45) (tgt := 56) dX11_works_45 (by decide) (fun q => absurd q hc) (fun _ => ?_)
      refine J.iload_n (pc := 48) dX11_works_48 rfl 2 rfl ?_
      rcases ifc h with ⟨hc, h⟩ | ⟨hc, h⟩
      · refine J.zeq (pc := 49) (tgt := 56) dX11_works_49 (by decide) (fun _ => ?_) (fun q => absurd hc q)
        refine J.iconst (pc := 56) dX11_works_56 ic_0 ?_
        cases h
        exact J.iret (pc := 57) dX11_works_57 rfl ⟨rfl, rfl, hN, trivial⟩
      · refine J.zeq (pc := 49) (tgt := 56) dX11_works_49 (by decide) (fun q => absurd q hc) (fun _ => ?_)
        refine J.iconst (pc := 52) dX11_works_52 ic_1 ?_
        refine J.goto (pc := 53) (tgt := 57) dX11_works_53 (by decide) ?_
        cases h
        exact J.iret (pc := 57) dX11_works_57 rfl ⟨rfl, rfl, hN, trivial⟩
  rcases ifc h with ⟨hc, h⟩ | ⟨ns4, h⟩
  · refine J.tableIn (pc := 1) (off := 57) (tgt := 58) dX11_works_1 (by rw [hc]; decide) (by rw [hc]; decide) (by rw [hc]; decide) (by decide) ?_
    refine J.iload_n (pc := 58) dX11_works_58 rfl 1 rfl ?_
    rcases ifc h with ⟨hc, h⟩ | ⟨hc, h⟩
    · refine J.zne (pc := 59) (tgt := 66) dX11_works_59 (by decide) (fun _ => ?_) (fun q => absurd hc q)
      refine J.iload_n (pc := 62) dX11_works_62 rfl 2 rfl ?_
      rcases ifc h with ⟨hc, h⟩ | ⟨hc, h⟩
      · refine J.zeq (pc := 63) (tgt := 70) dX11_works_63 (by decide) (fun _ => ?_) (fun q => absurd hc q)
        refine J.iconst (pc := 70) dX11_works_70 ic_0 ?_
        cases h
        exact J.iret (pc := 71) dX11_works_71 rfl ⟨rfl, rfl, hN, trivial⟩
      · refine J.zeq (pc := 63) (tgt := 70) dX11_works_63 (by decide) (fun q => absurd q hc) (fun _ => ?_)
        refine J.iconst (pc := 66) dX11_works_66 ic_1 ?_
        refine J.goto (pc := 67) (tgt := 71) dX11_works_67 (by decide) ?_
        cases h
        exact J.iret (pc := 71) dX11_works_71 rfl ⟨rfl, rfl, hN, trivial⟩
    · refine J.zne (pc := 59) (tgt := 66) dX11_works_59 (by decide) (fun q => absurd q hc) (fun _ => ?_)
      refine J.iconst (pc := 66) dX11_works_66 ic_1 ?_
      refine J.goto (pc := 67) (tgt := 71) dX11_works_67 (by decide) ?_
      cases h
      exact J.iret (pc := 71) dX11_works_71 rfl ⟨rfl, rfl, hN, trivial⟩
  rcases ifc h with ⟨hc, h⟩ | ⟨ns5, h⟩
  · refine J.tableIn (pc := 1) (off := 71) (tgt := 72) dX11_works_1 (by rw [hc]; decide) (by rw [hc]; decide) (by rw [hc]; decide) (by decide) ?_
    refine J.iload_n (pc := 72) dX11_works_72 rfl 1 rfl ?_
    refine J.iload_n (pc := 73) dX11_works_73 rfl 2 rfl ?_
    rcases ifc h with ⟨hc, h⟩ | ⟨hc, h⟩
    · refine J.cge (pc := 74) (tgt := 81) dX11_works_74 (by decide) (fun _ => ?_) (fun q => absurd hc q)
      refine J.iconst (pc := 77) dX11_works_77 ic_1 ?_
      refine J.goto (pc := 78) (tgt := 82) dX11_works_78 (by decide) ?_
      cases h
      exact J.iret (pc := 82) dX11_works_82 rfl ⟨rfl, rfl, hN, trivial⟩
    · refine J.cge (pc := 74) (tgt := 81) dX11_works_74 (by decide) (fun q => absurd q hc) (fun _ => ?_)
      refine J.iconst (pc := 81) dX11_works_81 ic_0 ?_
      cases h
      exact J.iret (pc := 82) dX11_works_82 rfl ⟨rfl, rfl, hN, trivial⟩
  rcases ifc h with ⟨hc, h⟩ | ⟨ns6, h⟩
  · refine J.tableIn (pc := 1) (off := 82) (tgt := 83) dX11_works_1 (by rw [hc]; decide) (by rw [hc]; decide) (by rw [hc]; decide) (by decide) ?_
    refine J.iload_n (pc := 83) dX11_works_83 rfl 1 rfl ?_
    refine J.iload_n (pc := 84) dX11_works_84 rfl 2 rfl ?_
    rcases ifc h with ⟨hc, h⟩ | ⟨hc, h⟩
    · refine J.cne (pc := 85) (tgt := 92) dX11_works_85 (by decide) (fun _ => ?_) (fun q => absurd hc q)
      refine J.iconst (pc := 88) dX11_works_88 ic_1 ?_
      refine J.goto (pc := 89) (tgt := 93) dX11_works_89 (by decide) ?_
      cases h
      exact J.iret (pc := 93) dX11_works_93 rfl ⟨rfl, rfl, hN, trivial⟩
    · refine J.cne (pc := 85) (tgt := 92) dX11_works_85 (by decide) (fun q => absurd q hc) (fun _ => ?_)
      refine J.iconst (pc := 92) dX11_works_92 ic_0 ?_
      cases h
      exact J.iret (pc := 93) dX11_works_93 rfl ⟨rfl, rfl, hN, trivial⟩
  rcases ifc h with ⟨hc, h⟩ | ⟨ns7, h⟩
  · refine J.tableIn (pc := 1) (off := 93) (tgt := 94) dX11_works_1 (by rw [hc]; decide) (by rw [hc]; decide) (by rw [hc]; decide) (by decide) ?_
    refine J.iload_n (pc := 94) dX11_works_94 rfl 1 rfl ?_
    refine J.iload_n (pc := 95) dX11_works_95 rfl 2 rfl ?_
    refine J.iadd (pc := 96) dX11_works_96 ?_
    cases h
    exact J.iret (pc := 97) dX11_works_97 rfl ⟨rfl, rfl, hN, trivial⟩
  rcases ifc h with ⟨hc, h⟩ | ⟨ns8, h⟩
  · refine J.tableIn (pc := 1) (off := 97) (tgt := 98) dX11_works_1 (by rw [hc]; decide) (by rw [hc]; decide) (by rw [hc]; decide) (by decide) ?_
    refine J.iload_n (pc := 98) dX11_works_98 rfl 1 rfl ?_
    refine J.iload_n (pc := 99) dX11_works_99 rfl 2 rfl ?_
    refine J.isub (pc := 100) dX11_works_100 ?_
    cases h
    exact J.iret (pc := 101) dX11_works_101 rfl ⟨rfl, rfl, hN, trivial⟩
  rcases ifc h with ⟨hc, h⟩ | ⟨ns9, h⟩
  · refine J.tableIn (pc := 1) (off := 101) (tgt := 102) dX11_works_1 (by rw [hc]; decide) (by rw [hc]; decide) (by rw [hc]; decide) (by decide) ?_
    refine J.iload_n (pc := 102) dX11_works_102 rfl 1 rfl ?_
    refine J.iload_n (pc := 103) dX11_works_103 rfl 2 rfl ?_
    refine J.imul (pc := 104) dX11_works_104 ?_
    cases h
    exact J.iret (pc := 105) dX11_works_105 rfl ⟨rfl, rfl, hN, trivial⟩
  refine J.tableOut (pc := 1) (tgt := 106) dX11_works_1 (sw_out (vs := [(4 : Int32), (5 : Int32), (6 : Int32), (7 : Int32), (8 : Int32), (9 : Int32), (10 : Int32)]) (List.forall_mem_cons.mpr ⟨ns3, (List.forall_mem_cons.mpr ⟨ns4, (List.forall_mem_cons.mpr ⟨ns5, (List.forall_mem_cons.mpr ⟨ns6, (List.forall_mem_cons.mpr ⟨ns7, (List.forall_mem_cons.mpr ⟨ns8, (List.forall_mem_cons.mpr ⟨ns9, (fun _ q => nomatch q)⟩)⟩)⟩)⟩)⟩)⟩)⟩) (sw_hv (by decide))) (by decide) ?_
  refine J.iload_n (pc := 106) dX11_works_106 rfl 2 rfl ?_
  rcases ifc h with ⟨hc, h⟩ | ⟨hc, h⟩
  · refine J.zne (pc := 107) (tgt := 114) dX11_works_107 (by decide) (fun _ => ?_) (fun q => absurd hc q)
    refine J.iconst (pc := 110) dX11_works_110 ic_0 ?_
    refine J.goto (pc := 111) (tgt := 117) dX11_works_111 (by decide) ?_
    cases h
    exact J.iret (pc := 117) dX11_works_117 rfl ⟨rfl, rfl, hN, trivial⟩
  · refine J.zne (pc := 107) (tgt := 114) dX11_works_107 (by decide) (fun q => absurd q hc) (fun _ => ?_)
    refine J.iload_n (pc := 114) dX11_works_114 rfl 1 rfl ?_
    refine J.iload_n (pc := 115) dX11_works_115 rfl 2 rfl ?_
    obtain ⟨x1, e2, h⟩ := bnd h
    refine J.dv (pc := 116) dX11_works_116 e2 ?_
    cases h
    exact J.iret (pc := 117) dX11_works_117 rfl ⟨rfl, rfl, hN, trivial⟩
def fX11_reckons_4  : Nat → Nat → Int32 → Int32 → Mem → Option (Int32 × Mem)
  | 0, _, _, _, _ => none
  | n + 1, v0, v2, v3, μ =>
    (gR μ v0 6 0).bind fun a1 =>
    (ldI μ a1 v3).bind fun x4 =>
    if x4 = 0 then
      (gR μ v0 38 0).bind fun a6 =>
      (ldI μ a6 (0 : Int32)).bind fun x9 =>
      some (x9, μ)
    else
      (gR μ v0 6 0).bind fun a11 =>
      (ldI μ a11 v3).bind fun x14 =>
      if x14 = (1 : Int32) then
        (gR μ v0 38 0).bind fun a16 =>
        if x14 = (1 : Int32) then
          (gR μ v0 6 0).bind fun a19 =>
          (ldI μ a19 (v3 + (1 : Int32))).bind fun x22 =>
          (stI μ a16 v2 x22).bind fun μ24 =>
          (fX11_reckons_4 n) v0 (v2 + (1 : Int32)) ((v3 + (1 : Int32)) + (1 : Int32)) μ24
        else
          (gR μ v0 37 0).bind fun a27 =>
          (gR μ v0 6 0).bind fun a30 =>
          (ldI μ a30 (v3 + (1 : Int32))).bind fun x33 =>
          (ldI μ a27 x33).bind fun x35 =>
          (stI μ a16 v2 x35).bind fun μ37 =>
          (fX11_reckons_4 n) v0 (v2 + (1 : Int32)) ((v3 + (1 : Int32)) + (1 : Int32)) μ37
      else
        if x14 = (2 : Int32) then
          (gR μ v0 38 0).bind fun a40 =>
          if x14 = (1 : Int32) then
            (gR μ v0 6 0).bind fun a43 =>
            (ldI μ a43 (v3 + (1 : Int32))).bind fun x46 =>
            (stI μ a40 v2 x46).bind fun μ48 =>
            (fX11_reckons_4 n) v0 (v2 + (1 : Int32)) ((v3 + (1 : Int32)) + (1 : Int32)) μ48
          else
            (gR μ v0 37 0).bind fun a51 =>
            (gR μ v0 6 0).bind fun a54 =>
            (ldI μ a54 (v3 + (1 : Int32))).bind fun x57 =>
            (ldI μ a51 x57).bind fun x59 =>
            (stI μ a40 v2 x59).bind fun μ61 =>
            (fX11_reckons_4 n) v0 (v2 + (1 : Int32)) ((v3 + (1 : Int32)) + (1 : Int32)) μ61
        else
          if x14 = (3 : Int32) then
            (gR μ v0 38 0).bind fun a64 =>
            (gR μ v0 38 0).bind fun a67 =>
            (ldI μ a67 (v2 - (1 : Int32))).bind fun x70 =>
            if x70 = 0 then
              (stI μ a64 (v2 - (1 : Int32)) (1 : Int32)).bind fun μ72 =>
              (fX11_reckons_4 n) v0 v2 (v3 + (1 : Int32)) μ72
            else
              (stI μ a64 (v2 - (1 : Int32)) (0 : Int32)).bind fun μ75 =>
              (fX11_reckons_4 n) v0 v2 (v3 + (1 : Int32)) μ75
          else
            (gR μ v0 38 0).bind fun a78 =>
            (gR μ v0 38 0).bind fun a81 =>
            (ldI μ a81 ((v2 + (-1 : Int32)) - (1 : Int32))).bind fun x84 =>
            (gR μ v0 38 0).bind fun a86 =>
            (ldI μ a86 (v2 + (-1 : Int32))).bind fun x89 =>
            (fX11_works x14 x84 x89).bind fun r92 =>
            (stI μ a78 ((v2 + (-1 : Int32)) - (1 : Int32)) r92).bind fun μ95 =>
            (fX11_reckons_4 n) v0 (v2 + (-1 : Int32)) (v3 + (1 : Int32)) μ95
set_option maxHeartbeats 4000000 in
theorem tX11_reckons_4 {ω : Wd} {l : Launch} (d : Nat) {res : Int32 × Mem} : ∀ n : Nat, ∀ (v0 : Nat) (v2 : Int32) (v3 : Int32) (μ : Mem), fX11_reckons_4 n v0 v2 v3 μ = some res → μ.1 = NN → (kd v0).1 = 21 → J ω l mX11_reckons (d + 1) 4 [(0, .ref v0), (2, .int v2), (3, .int v3)] [] μ 0 0 (PE (.inl (some (.int res.1))) res.2 True) := by
  intro n
  induction n with
  | zero =>
    intro v0 v2 v3 μ h hN k0
    have h9 : (none : Option (Int32 × Mem)) = some res := h
    cases h9
  | succ n ih =>
    intro v0 v2 v3 μ h hN k0
    unfold fX11_reckons_4 at h
    refine J.aload_n (pc := 4) dX11_reckons_4 rfl 0 rfl ?_
    obtain ⟨a1, e2, h⟩ := bnd h
    have k3 : (kd a1).1 = 0 := gR_k e2
    refine J.fR (pc := 5) dX11_reckons_5 fl_RX11_20 k0 (okN hN k0 (by decide)) rfl e2 ?_
    refine J.iload_n (pc := 8) dX11_reckons_8 rfl 2 rfl ?_
    obtain ⟨x4, e5, h⟩ := bnd h
    refine J.aI (pc := 9) dX11_reckons_9 k3 (okN hN k3 (by decide)) e5 ?_
    rcases ifc h with ⟨hc, h⟩ | ⟨hc, h⟩
    · refine J.zeq (pc := 10) (tgt := 143) dX11_reckons_10 (by decide) (fun _ => ?_) (fun q => absurd hc q)
      refine J.aload_n (pc := 143) dX11_reckons_143 rfl 0 rfl ?_
      obtain ⟨a6, e7, h⟩ := bnd h
      have k8 : (kd a6).1 = 0 := gR_k e7
      refine J.fR (pc := 144) dX11_reckons_144 fl_RX11_57 k0 (okN hN k0 (by decide)) rfl e7 ?_
      refine J.iconst (pc := 147) dX11_reckons_147 ic_0 ?_
      obtain ⟨x9, e10, h⟩ := bnd h
      refine J.aI (pc := 148) dX11_reckons_148 k8 (okN hN k8 (by decide)) e10 ?_
      cases h
      exact J.iret (pc := 149) dX11_reckons_149 rfl ⟨rfl, rfl, hN, trivial⟩
    · refine J.zeq (pc := 10) (tgt := 143) dX11_reckons_10 (by decide) (fun q => absurd q hc) (fun _ => ?_)
      refine J.aload_n (pc := 13) dX11_reckons_13 rfl 0 rfl ?_
      obtain ⟨a11, e12, h⟩ := bnd h
      have k13 : (kd a11).1 = 0 := gR_k e12
      refine J.fR (pc := 14) dX11_reckons_14 fl_RX11_20 k0 (okN hN k0 (by decide)) rfl e12 ?_
      refine J.iload_n (pc := 17) dX11_reckons_17 rfl 2 rfl ?_
      obtain ⟨x14, e15, h⟩ := bnd h
      refine J.aI (pc := 18) dX11_reckons_18 k13 (okN hN k13 (by decide)) e15 ?_
      refine J.istore (pc := 19) ([(4, .int x14), (0, .ref v0), (2, .int v2), (3, .int v3)]) dX11_reckons_19 (Nat.le_of_ble_eq_true rfl) rfl ?_
      refine J.iinc (pc := 21) (j := 3) ([(3, .int (v3 + (1 : Int32))), (4, .int x14), (0, .ref v0), (2, .int v2)]) dX11_reckons_21 rfl (iincv ic_1) (Nat.le_of_ble_eq_true rfl) rfl ?_
      refine J.iload (pc := 24) dX11_reckons_24 1 rfl ?_
      refine J.iconst (pc := 26) dX11_reckons_26 ic_1 ?_
      rcases ifc h with ⟨hc, h⟩ | ⟨hc, h⟩
      · refine J.ceq (pc := 27) (tgt := 36) dX11_reckons_27 (by decide) (fun _ => ?_) (fun q => absurd hc q)
        refine J.aload_n (pc := 36) dX11_reckons_36 rfl 2 rfl ?_
        obtain ⟨a16, e17, h⟩ := bnd h
        have k18 : (kd a16).1 = 0 := gR_k e17
        refine J.fR (pc := 37) dX11_reckons_37 fl_RX11_57 k0 (okN hN k0 (by decide)) rfl e17 ?_
        refine J.iload_n (pc := 40) dX11_reckons_40 rfl 3 rfl ?_
        refine J.iload (pc := 41) dX11_reckons_41 1 rfl ?_
        refine J.iconst (pc := 43) dX11_reckons_43 ic_1 ?_
        rcases ifc h with ⟨hc, h⟩ | ⟨hc, h⟩
        · refine J.cne (pc := 44) (tgt := 56) dX11_reckons_44 (by decide) (fun _ => ?_) (fun q => absurd hc q)
          refine J.aload_n (pc := 47) dX11_reckons_47 rfl 2 rfl ?_
          obtain ⟨a19, e20, h⟩ := bnd h
          have k21 : (kd a19).1 = 0 := gR_k e20
          refine J.fR (pc := 48) dX11_reckons_48 fl_RX11_20 k0 (okN hN k0 (by decide)) rfl e20 ?_
          refine J.iload_n (pc := 51) dX11_reckons_51 rfl 0 rfl ?_
          obtain ⟨x22, e23, h⟩ := bnd h
          refine J.aI (pc := 52) dX11_reckons_52 k21 (okN hN k21 (by decide)) e23 ?_
          refine J.goto (pc := 53) (tgt := 67) dX11_reckons_53 (by decide) ?_
          obtain ⟨μ24, e25, h⟩ := bnd h
          have hN26 : μ24.1 = NN := stI_N e25 hN
          refine J.wI (pc := 67) dX11_reckons_67 k18 (okN hN k18 (by decide)) e25 ?_
          refine J.iinc (pc := 68) (j := 0) ([(3, .int ((v3 + (1 : Int32)) + (1 : Int32))), (4, .int x14), (0, .ref v0), (2, .int v2)]) dX11_reckons_68 rfl (iincv ic_1) (Nat.le_of_ble_eq_true rfl) rfl ?_
          refine J.iinc (pc := 71) (j := 3) ([(2, .int (v2 + (1 : Int32))), (3, .int ((v3 + (1 : Int32)) + (1 : Int32))), (4, .int x14), (0, .ref v0)]) dX11_reckons_71 rfl (iincv ic_1) (Nat.le_of_ble_eq_true rfl) rfl ?_
          refine J.goto (pc := 74) (tgt := 140) dX11_reckons_74 (by decide) ?_
          refine J.goto (pc := 140) (tgt := 4) dX11_reckons_140 (by decide) ?_
          refine J.pick [3, 0, 1] rfl ?_
          exact ih v0 (v2 + (1 : Int32)) ((v3 + (1 : Int32)) + (1 : Int32)) μ24 h hN26 k0
        · refine J.cne (pc := 44) (tgt := 56) dX11_reckons_44 (by decide) (fun q => absurd q hc) (fun _ => ?_)
          refine J.aload_n (pc := 56) dX11_reckons_56 rfl 2 rfl ?_
          obtain ⟨a27, e28, h⟩ := bnd h
          have k29 : (kd a27).1 = 0 := gR_k e28
          refine J.fR (pc := 57) dX11_reckons_57 fl_RX11_54 k0 (okN hN k0 (by decide)) rfl e28 ?_
          refine J.aload_n (pc := 60) dX11_reckons_60 rfl 2 rfl ?_
          obtain ⟨a30, e31, h⟩ := bnd h
          have k32 : (kd a30).1 = 0 := gR_k e31
          refine J.fR (pc := 61) dX11_reckons_61 fl_RX11_20 k0 (okN hN k0 (by decide)) rfl e31 ?_
          refine J.iload_n (pc := 64) dX11_reckons_64 rfl 0 rfl ?_
          obtain ⟨x33, e34, h⟩ := bnd h
          refine J.aI (pc := 65) dX11_reckons_65 k32 (okN hN k32 (by decide)) e34 ?_
          obtain ⟨x35, e36, h⟩ := bnd h
          refine J.aI (pc := 66) dX11_reckons_66 k29 (okN hN k29 (by decide)) e36 ?_
          obtain ⟨μ37, e38, h⟩ := bnd h
          have hN39 : μ37.1 = NN := stI_N e38 hN
          refine J.wI (pc := 67) dX11_reckons_67 k18 (okN hN k18 (by decide)) e38 ?_
          refine J.iinc (pc := 68) (j := 0) ([(3, .int ((v3 + (1 : Int32)) + (1 : Int32))), (4, .int x14), (0, .ref v0), (2, .int v2)]) dX11_reckons_68 rfl (iincv ic_1) (Nat.le_of_ble_eq_true rfl) rfl ?_
          refine J.iinc (pc := 71) (j := 3) ([(2, .int (v2 + (1 : Int32))), (3, .int ((v3 + (1 : Int32)) + (1 : Int32))), (4, .int x14), (0, .ref v0)]) dX11_reckons_71 rfl (iincv ic_1) (Nat.le_of_ble_eq_true rfl) rfl ?_
          refine J.goto (pc := 74) (tgt := 140) dX11_reckons_74 (by decide) ?_
          refine J.goto (pc := 140) (tgt := 4) dX11_reckons_140 (by decide) ?_
          refine J.pick [3, 0, 1] rfl ?_
          exact ih v0 (v2 + (1 : Int32)) ((v3 + (1 : Int32)) + (1 : Int32)) μ37 h hN39 k0
      · refine J.ceq (pc := 27) (tgt := 36) dX11_reckons_27 (by decide) (fun q => absurd q hc) (fun _ => ?_)
        refine J.iload (pc := 30) dX11_reckons_30 1 rfl ?_
        refine J.iconst (pc := 32) dX11_reckons_32 ic_2 ?_
        rcases ifc h with ⟨hc, h⟩ | ⟨hc, h⟩
        · refine J.cne (pc := 33) (tgt := 77) dX11_reckons_33 (by decide) (fun _ => ?_) (fun q => absurd hc q)
          refine J.aload_n (pc := 36) dX11_reckons_36 rfl 2 rfl ?_
          obtain ⟨a40, e41, h⟩ := bnd h
          have k42 : (kd a40).1 = 0 := gR_k e41
          refine J.fR (pc := 37) dX11_reckons_37 fl_RX11_57 k0 (okN hN k0 (by decide)) rfl e41 ?_
          refine J.iload_n (pc := 40) dX11_reckons_40 rfl 3 rfl ?_
          refine J.iload (pc := 41) dX11_reckons_41 1 rfl ?_
          refine J.iconst (pc := 43) dX11_reckons_43 ic_1 ?_
          rcases ifc h with ⟨hc, h⟩ | ⟨hc, h⟩
          · refine J.cne (pc := 44) (tgt := 56) dX11_reckons_44 (by decide) (fun _ => ?_) (fun q => absurd hc q)
            refine J.aload_n (pc := 47) dX11_reckons_47 rfl 2 rfl ?_
            obtain ⟨a43, e44, h⟩ := bnd h
            have k45 : (kd a43).1 = 0 := gR_k e44
            refine J.fR (pc := 48) dX11_reckons_48 fl_RX11_20 k0 (okN hN k0 (by decide)) rfl e44 ?_
            refine J.iload_n (pc := 51) dX11_reckons_51 rfl 0 rfl ?_
            obtain ⟨x46, e47, h⟩ := bnd h
            refine J.aI (pc := 52) dX11_reckons_52 k45 (okN hN k45 (by decide)) e47 ?_
            refine J.goto (pc := 53) (tgt := 67) dX11_reckons_53 (by decide) ?_
            obtain ⟨μ48, e49, h⟩ := bnd h
            have hN50 : μ48.1 = NN := stI_N e49 hN
            refine J.wI (pc := 67) dX11_reckons_67 k42 (okN hN k42 (by decide)) e49 ?_
            refine J.iinc (pc := 68) (j := 0) ([(3, .int ((v3 + (1 : Int32)) + (1 : Int32))), (4, .int x14), (0, .ref v0), (2, .int v2)]) dX11_reckons_68 rfl (iincv ic_1) (Nat.le_of_ble_eq_true rfl) rfl ?_
            refine J.iinc (pc := 71) (j := 3) ([(2, .int (v2 + (1 : Int32))), (3, .int ((v3 + (1 : Int32)) + (1 : Int32))), (4, .int x14), (0, .ref v0)]) dX11_reckons_71 rfl (iincv ic_1) (Nat.le_of_ble_eq_true rfl) rfl ?_
            refine J.goto (pc := 74) (tgt := 140) dX11_reckons_74 (by decide) ?_
            refine J.goto (pc := 140) (tgt := 4) dX11_reckons_140 (by decide) ?_
            refine J.pick [3, 0, 1] rfl ?_
            exact ih v0 (v2 + (1 : Int32)) ((v3 + (1 : Int32)) + (1 : Int32)) μ48 h hN50 k0
          · refine J.cne (pc := 44) (tgt := 56) dX11_reckons_44 (by decide) (fun q => absurd q hc) (fun _ => ?_)
            refine J.aload_n (pc := 56) dX11_reckons_56 rfl 2 rfl ?_
            obtain ⟨a51, e52, h⟩ := bnd h
            have k53 : (kd a51).1 = 0 := gR_k e52
            refine J.fR (pc := 57) dX11_reckons_57 fl_RX11_54 k0 (okN hN k0 (by decide)) rfl e52 ?_
            refine J.aload_n (pc := 60) dX11_reckons_60 rfl 2 rfl ?_
            obtain ⟨a54, e55, h⟩ := bnd h
            have k56 : (kd a54).1 = 0 := gR_k e55
            refine J.fR (pc := 61) dX11_reckons_61 fl_RX11_20 k0 (okN hN k0 (by decide)) rfl e55 ?_
            refine J.iload_n (pc := 64) dX11_reckons_64 rfl 0 rfl ?_
            obtain ⟨x57, e58, h⟩ := bnd h
            refine J.aI (pc := 65) dX11_reckons_65 k56 (okN hN k56 (by decide)) e58 ?_
            obtain ⟨x59, e60, h⟩ := bnd h
            refine J.aI (pc := 66) dX11_reckons_66 k53 (okN hN k53 (by decide)) e60 ?_
            obtain ⟨μ61, e62, h⟩ := bnd h
            have hN63 : μ61.1 = NN := stI_N e62 hN
            refine J.wI (pc := 67) dX11_reckons_67 k42 (okN hN k42 (by decide)) e62 ?_
            refine J.iinc (pc := 68) (j := 0) ([(3, .int ((v3 + (1 : Int32)) + (1 : Int32))), (4, .int x14), (0, .ref v0), (2, .int v2)]) dX11_reckons_68 rfl (iincv ic_1) (Nat.le_of_ble_eq_true rfl) rfl ?_
            refine J.iinc (pc := 71) (j := 3) ([(2, .int (v2 + (1 : Int32))), (3, .int ((v3 + (1 : Int32)) + (1 : Int32))), (4, .int x14), (0, .ref v0)]) dX11_reckons_71 rfl (iincv ic_1) (Nat.le_of_ble_eq_true rfl) rfl ?_
            refine J.goto (pc := 74) (tgt := 140) dX11_reckons_74 (by decide) ?_
            refine J.goto (pc := 140) (tgt := 4) dX11_reckons_140 (by decide) ?_
            refine J.pick [3, 0, 1] rfl ?_
            exact ih v0 (v2 + (1 : Int32)) ((v3 + (1 : Int32)) + (1 : Int32)) μ61 h hN63 k0
        · refine J.cne (pc := 33) (tgt := 77) dX11_reckons_33 (by decide) (fun q => absurd q hc) (fun _ => ?_)
          refine J.iload (pc := 77) dX11_reckons_77 1 rfl ?_
          refine J.iconst (pc := 79) dX11_reckons_79 ic_3 ?_
          rcases ifc h with ⟨hc, h⟩ | ⟨hc, h⟩
          · refine J.cne (pc := 80) (tgt := 110) dX11_reckons_80 (by decide) (fun _ => ?_) (fun q => absurd hc q)
            refine J.aload_n (pc := 83) dX11_reckons_83 rfl 2 rfl ?_
            obtain ⟨a64, e65, h⟩ := bnd h
            have k66 : (kd a64).1 = 0 := gR_k e65
            refine J.fR (pc := 84) dX11_reckons_84 fl_RX11_57 k0 (okN hN k0 (by decide)) rfl e65 ?_
            refine J.iload_n (pc := 87) dX11_reckons_87 rfl 3 rfl ?_
            refine J.iconst (pc := 88) dX11_reckons_88 ic_1 ?_
            refine J.isub (pc := 89) dX11_reckons_89 ?_
            refine J.aload_n (pc := 90) dX11_reckons_90 rfl 2 rfl ?_
            obtain ⟨a67, e68, h⟩ := bnd h
            have k69 : (kd a67).1 = 0 := gR_k e68
            refine J.fR (pc := 91) dX11_reckons_91 fl_RX11_57 k0 (okN hN k0 (by decide)) rfl e68 ?_
            refine J.iload_n (pc := 94) dX11_reckons_94 rfl 3 rfl ?_
            refine J.iconst (pc := 95) dX11_reckons_95 ic_1 ?_
            refine J.isub (pc := 96) dX11_reckons_96 ?_
            obtain ⟨x70, e71, h⟩ := bnd h
            refine J.aI (pc := 97) dX11_reckons_97 k69 (okN hN k69 (by decide)) e71 ?_
            rcases ifc h with ⟨hc, h⟩ | ⟨hc, h⟩
            · refine J.zne (pc := 98) (tgt := 105) dX11_reckons_98 (by decide) (fun _ => ?_) (fun q => absurd hc q)
              refine J.iconst (pc := 101) dX11_reckons_101 ic_1 ?_
              refine J.goto (pc := 102) (tgt := 106) dX11_reckons_102 (by decide) ?_
              obtain ⟨μ72, e73, h⟩ := bnd h
              have hN74 : μ72.1 = NN := stI_N e73 hN
              refine J.wI (pc := 106) dX11_reckons_106 k66 (okN hN k66 (by decide)) e73 ?_
              refine J.goto (pc := 107) (tgt := 140) dX11_reckons_107 (by decide) ?_
              refine J.goto (pc := 140) (tgt := 4) dX11_reckons_140 (by decide) ?_
              refine J.pick [2, 3, 0] rfl ?_
              exact ih v0 v2 (v3 + (1 : Int32)) μ72 h hN74 k0
            · refine J.zne (pc := 98) (tgt := 105) dX11_reckons_98 (by decide) (fun q => absurd q hc) (fun _ => ?_)
              refine J.iconst (pc := 105) dX11_reckons_105 ic_0 ?_
              obtain ⟨μ75, e76, h⟩ := bnd h
              have hN77 : μ75.1 = NN := stI_N e76 hN
              refine J.wI (pc := 106) dX11_reckons_106 k66 (okN hN k66 (by decide)) e76 ?_
              refine J.goto (pc := 107) (tgt := 140) dX11_reckons_107 (by decide) ?_
              refine J.goto (pc := 140) (tgt := 4) dX11_reckons_140 (by decide) ?_
              refine J.pick [2, 3, 0] rfl ?_
              exact ih v0 v2 (v3 + (1 : Int32)) μ75 h hN77 k0
          · refine J.cne (pc := 80) (tgt := 110) dX11_reckons_80 (by decide) (fun q => absurd q hc) (fun _ => ?_)
            refine J.iinc (pc := 110) (j := 3) ([(2, .int (v2 + (-1 : Int32))), (3, .int (v3 + (1 : Int32))), (4, .int x14), (0, .ref v0)]) dX11_reckons_110 rfl (iincv ic_m1) (Nat.le_of_ble_eq_true rfl) rfl ?_
            refine J.aload_n (pc := 113) dX11_reckons_113 rfl 3 rfl ?_
            obtain ⟨a78, e79, h⟩ := bnd h
            have k80 : (kd a78).1 = 0 := gR_k e79
            refine J.fR (pc := 114) dX11_reckons_114 fl_RX11_57 k0 (okN hN k0 (by decide)) rfl e79 ?_
            refine J.iload_n (pc := 117) dX11_reckons_117 rfl 0 rfl ?_
            refine J.iconst (pc := 118) dX11_reckons_118 ic_1 ?_
            refine J.isub (pc := 119) dX11_reckons_119 ?_
            refine J.iload (pc := 120) dX11_reckons_120 2 rfl ?_
            refine J.aload_n (pc := 122) dX11_reckons_122 rfl 3 rfl ?_
            obtain ⟨a81, e82, h⟩ := bnd h
            have k83 : (kd a81).1 = 0 := gR_k e82
            refine J.fR (pc := 123) dX11_reckons_123 fl_RX11_57 k0 (okN hN k0 (by decide)) rfl e82 ?_
            refine J.iload_n (pc := 126) dX11_reckons_126 rfl 0 rfl ?_
            refine J.iconst (pc := 127) dX11_reckons_127 ic_1 ?_
            refine J.isub (pc := 128) dX11_reckons_128 ?_
            obtain ⟨x84, e85, h⟩ := bnd h
            refine J.aI (pc := 129) dX11_reckons_129 k83 (okN hN k83 (by decide)) e85 ?_
            refine J.aload_n (pc := 130) dX11_reckons_130 rfl 3 rfl ?_
            obtain ⟨a86, e87, h⟩ := bnd h
            have k88 : (kd a86).1 = 0 := gR_k e87
            refine J.fR (pc := 131) dX11_reckons_131 fl_RX11_57 k0 (okN hN k0 (by decide)) rfl e87 ?_
            refine J.iload_n (pc := 134) dX11_reckons_134 rfl 0 rfl ?_
            obtain ⟨x89, e90, h⟩ := bnd h
            refine J.aI (pc := 135) dX11_reckons_135 k88 (okN hN k88 (by decide)) e90 ?_
            obtain ⟨r92, e91, h⟩ := bnd h
            refine J.callS (Y := mX11_reckons) (Z := mX11_works) (pc := 136) (st := [.int ((v2 + (-1 : Int32)) - (1 : Int32)), .ref a78]) (k2 := 0) (n2 := 0) dX11_reckons_136 ml_RX11_293 mo_X11_works ms_X11_works rfl (tX11_works d e91 hN ) rfl rfl (Nat.le_of_ble_eq_true rfl) (by decide) (by decide) (fun v ν hp => ?_) (fun i ν hp => nrm hp.1)
            obtain ⟨rfl, rfl, hN93, hb94⟩ := QEl hp
            show J _ _ _ _ 139 _ ([.int r92, .int ((v2 + (-1 : Int32)) - (1 : Int32)), .ref a78]) _ _ _ _
            obtain ⟨μ95, e96, h⟩ := bnd h
            have hN97 : μ95.1 = NN := stI_N e96 hN93
            refine J.wI (pc := 139) dX11_reckons_139 k80 (okN hN93 k80 (by decide)) e96 ?_
            refine J.goto (pc := 140) (tgt := 4) dX11_reckons_140 (by decide) ?_
            refine J.pick [3, 0, 1] rfl ?_
            exact ih v0 (v2 + (-1 : Int32)) (v3 + (1 : Int32)) μ95 h hN97 k0
def fX11_reckons (v0 : Nat) (v1 : Int32) (μ : Mem) : Option (Int32 × Mem) :=
  (fX11_reckons_4 fuel) v0 (0 : Int32) v1 μ
set_option maxHeartbeats 4000000 in
theorem tX11_reckons {ω : Wd} {l : Launch} (d : Nat) {v0 : Nat} {v1 : Int32} {μ : Mem} {res : Int32 × Mem} (h : fX11_reckons v0 v1 μ = some res) (hN : μ.1 = NN) (k0 : (kd v0).1 = 21) : Ct ω l mX11_reckons (d + 1) [.ref v0, .int v1] μ 0 0 (PE (.inl (some (.int res.1))) res.2 True) := by
  refine Ct.of pn_RX11 (Nat.le_of_ble_eq_true rfl) ?_
  show J ω l mX11_reckons (d + 1) 0 [(0, .ref v0), (1, .int v1)] [] μ 0 0 _
  unfold fX11_reckons at h
  refine J.iconst (pc := 0) dX11_reckons_0 ic_0 ?_
  refine J.istore_n (pc := 1) ([(2, .int (0 : Int32)), (0, .ref v0), (1, .int v1)]) dX11_reckons_1 rfl (Nat.le_of_ble_eq_true rfl) rfl ?_
  refine J.iload_n (pc := 2) dX11_reckons_2 rfl 2 rfl ?_
  refine J.istore_n (pc := 3) ([(3, .int v1), (2, .int (0 : Int32)), (0, .ref v0), (1, .int v1)]) dX11_reckons_3 rfl (Nat.le_of_ble_eq_true rfl) rfl ?_
  refine J.pick [2, 1, 0] rfl ?_
  exact (tX11_reckons_4 d fuel) v0 (0 : Int32) v1 μ h hN k0
