def fX10_isSeenWith_17  : Nat → Nat → Int32 → Int32 → Mem → Option (Int32 × Mem)
  | 0, _, _, _, _ => none
  | n + 1, v0, v3, v4, μ =>
    if v3 < v4 then
      some ((1 : Int32), μ)
    else
      (gR μ v0 9 18).bind fun a1 =>
      (gR μ v0 14 12).bind fun a4 =>
      (gR μ a4 0 19).bind fun a7 =>
      (fX8_agreesOn a1 v4 a7 μ).bind fun r11 =>
      if r11 = 0 then
        some ((0 : Int32), μ)
      else
        (gR μ v0 14 12).bind fun a14 =>
        (fX2_pass a14 (1 : Int32) μ).bind fun μ18 =>
        (fX10_isSeenWith_17 n) v0 v3 (v4 + (1 : Int32)) μ18
set_option maxHeartbeats 4000000 in
theorem tX10_isSeenWith_17 {ω : Wd} {l : Launch} (d : Nat) {res : Int32 × Mem} : ∀ n : Nat, ∀ (v0 : Nat) (v3 : Int32) (v4 : Int32) (μ : Mem), fX10_isSeenWith_17 n v0 v3 v4 μ = some res → μ.1 = NN → (kd v0).1 = 20 → J ω l mX10_isSeenWith (d + 5) 17 [(0, .ref v0), (3, .int v3), (4, .int v4)] [] μ 0 0 (PE (.inl (some (.int res.1))) res.2 (isB res.1)) := by
  intro n
  induction n with
  | zero =>
    intro v0 v3 v4 μ h hN k0
    have h9 : (none : Option (Int32 × Mem)) = some res := h
    cases h9
  | succ n ih =>
    intro v0 v3 v4 μ h hN k0
    unfold fX10_isSeenWith_17 at h
    refine J.iload (pc := 17) dX10_isSeenWith_17 2 rfl ?_
    refine J.iload_n (pc := 19) dX10_isSeenWith_19 rfl 1 rfl ?_
    rcases ifc h with ⟨hc, h⟩ | ⟨hc, h⟩
    · refine J.cgt (pc := 20) (tgt := 58) dX10_isSeenWith_20 (by decide) (fun _ => ?_) (fun q => absurd hc q)
      refine J.iconst (pc := 58) dX10_isSeenWith_58 ic_1 ?_
      cases h
      exact J.zret (pc := 59) dX10_isSeenWith_59 rfl (narB (Or.inr rfl)) ⟨rfl, rfl, hN, (Or.inr rfl)⟩
    · refine J.cgt (pc := 20) (tgt := 58) dX10_isSeenWith_20 (by decide) (fun q => absurd q hc) (fun _ => ?_)
      refine J.aload_n (pc := 23) dX10_isSeenWith_23 rfl 0 rfl ?_
      obtain ⟨a1, e2, h⟩ := bnd h
      have k3 : (kd a1).1 = 18 := gR_k e2
      refine J.fR (pc := 24) dX10_isSeenWith_24 fl_RX10_59 k0 (okN hN k0 (by decide)) rfl e2 ?_
      refine J.iload (pc := 27) dX10_isSeenWith_27 2 rfl ?_
      refine J.aload_n (pc := 29) dX10_isSeenWith_29 rfl 0 rfl ?_
      obtain ⟨a4, e5, h⟩ := bnd h
      have k6 : (kd a4).1 = 12 := gR_k e5
      refine J.fR (pc := 30) dX10_isSeenWith_30 fl_RX10_79 k0 (okN hN k0 (by decide)) rfl e5 ?_
      obtain ⟨a7, e8, h⟩ := bnd h
      have k9 : (kd a7).1 = 19 := gR_k e8
      refine J.fR (pc := 33) dX10_isSeenWith_33 fl_RX10_242 k6 (okN hN k6 (by decide)) rfl e8 ?_
      obtain ⟨r11, e10, h⟩ := bnd h
      refine J.callV (Y := mX10_isSeenWith) (Z := mX8_agreesOn) (pc := 36) (st := []) (k2 := 0) (n2 := 0) dX10_isSeenWith_36 ml_RX10_347 mo_X8_agreesOn mv_X8_agreesOn rfl (tX8_agreesOn (d + 4) e10 hN k3 k9) k3 (okN hN k3 (by decide)).1 (okN hN k3 (by decide)).2 cq_8 (by decide) rfl rfl (Nat.le_of_ble_eq_true rfl) (by decide) (by decide) (fun v ν hp => ?_) (fun i ν hp => nrm hp.1)
      obtain ⟨rfl, rfl, hN12, hb13⟩ := QEl hp
      show J _ _ _ _ 39 _ ([.int r11]) _ _ _ _
      rcases ifc h with ⟨hc, h⟩ | ⟨hc, h⟩
      · refine J.zne (pc := 39) (tgt := 44) dX10_isSeenWith_39 (by decide) (fun _ => ?_) (fun q => absurd hc q)
        refine J.iconst (pc := 42) dX10_isSeenWith_42 ic_0 ?_
        cases h
        exact J.zret (pc := 43) dX10_isSeenWith_43 rfl (narB (Or.inl rfl)) ⟨rfl, rfl, hN12, (Or.inl rfl)⟩
      · refine J.zne (pc := 39) (tgt := 44) dX10_isSeenWith_39 (by decide) (fun q => absurd q hc) (fun _ => ?_)
        refine J.aload_n (pc := 44) dX10_isSeenWith_44 rfl 0 rfl ?_
        obtain ⟨a14, e15, h⟩ := bnd h
        have k16 : (kd a14).1 = 12 := gR_k e15
        refine J.fR (pc := 45) dX10_isSeenWith_45 fl_RX10_79 k0 (okN hN12 k0 (by decide)) rfl e15 ?_
        refine J.iconst (pc := 48) dX10_isSeenWith_48 ic_1 ?_
        obtain ⟨μ18, e17, h⟩ := bnd h
        refine J.callV (Y := mX10_isSeenWith) (Z := mX2_pass) (pc := 49) (st := []) (k2 := 0) (n2 := 0) dX10_isSeenWith_49 ml_RX10_268 mo_X2_pass mv_X2_pass rfl (tX2_pass d e17 hN12 k16) k16 (okN hN12 k16 (by decide)).1 (okN hN12 k16 (by decide)).2 cq_2 (by decide) rfl rfl (Nat.le_of_ble_eq_true rfl) (by decide) (by decide) (fun v ν hp => ?_) (fun i ν hp => nrm hp.1)
        obtain ⟨rfl, rfl, hN19, hb20⟩ := QEl hp
        show J _ _ _ _ 52 _ ([]) _ _ _ _
        refine J.iinc (pc := 52) (j := 2) ([(4, .int (v4 + (1 : Int32))), (0, .ref v0), (3, .int v3)]) dX10_isSeenWith_52 rfl (iincv ic_1) (Nat.le_of_ble_eq_true rfl) rfl ?_
        refine J.goto (pc := 55) (tgt := 17) dX10_isSeenWith_55 (by decide) ?_
        refine J.pick [1, 2, 0] rfl ?_
        exact ih v0 v3 (v4 + (1 : Int32)) μ18 h hN19 k0
def fX10_isSeenWith (v0 : Nat) (v1 : Int32) (v2 : Int32) (μ : Mem) : Option (Int32 × Mem) :=
  (fX10_beginWith v0 v1 v2 μ).bind fun μ2 =>
  (gR μ2 v0 9 18).bind fun a5 =>
  (fX8_lastDay a5 μ2).bind fun r9 =>
  (fX10_isSeenWith_17 fuel) v0 r9 (0 : Int32) μ2
set_option maxHeartbeats 4000000 in
theorem tX10_isSeenWith {ω : Wd} {l : Launch} (d : Nat) {v0 : Nat} {v1 : Int32} {v2 : Int32} {μ : Mem} {res : Int32 × Mem} (h : fX10_isSeenWith v0 v1 v2 μ = some res) (hN : μ.1 = NN) (k0 : (kd v0).1 = 20) : Ct ω l mX10_isSeenWith (d + 5) [.ref v0, .int v1, .int v2] μ 0 0 (PE (.inl (some (.int res.1))) res.2 (isB res.1)) := by
  refine Ct.of pn_RX10 (Nat.le_of_ble_eq_true rfl) ?_
  show J ω l mX10_isSeenWith (d + 5) 0 [(0, .ref v0), (1, .int v1), (2, .int v2)] [] μ 0 0 _
  unfold fX10_isSeenWith at h
  refine J.aload_n (pc := 0) dX10_isSeenWith_0 rfl 0 rfl ?_
  refine J.iload_n (pc := 1) dX10_isSeenWith_1 rfl 1 rfl ?_
  refine J.iload_n (pc := 2) dX10_isSeenWith_2 rfl 2 rfl ?_
  obtain ⟨μ2, e1, h⟩ := bnd h
  refine J.callV (Y := mX10_isSeenWith) (Z := mX10_beginWith) (pc := 3) (st := []) (k2 := 0) (n2 := 0) dX10_isSeenWith_3 ml_RX10_341 mo_X10_beginWith mv_X10_beginWith rfl (tX10_beginWith (d + 1) e1 hN k0) k0 (okN hN k0 (by decide)).1 (okN hN k0 (by decide)).2 cq_10 (by decide) rfl rfl (Nat.le_of_ble_eq_true rfl) (by decide) (by decide) (fun v ν hp => ?_) (fun i ν hp => nrm hp.1)
  obtain ⟨rfl, rfl, hN3, hb4⟩ := QEl hp
  show J _ _ _ _ 6 _ ([]) _ _ _ _
  refine J.aload_n (pc := 6) dX10_isSeenWith_6 rfl 0 rfl ?_
  obtain ⟨a5, e6, h⟩ := bnd h
  have k7 : (kd a5).1 = 18 := gR_k e6
  refine J.fR (pc := 7) dX10_isSeenWith_7 fl_RX10_59 k0 (okN hN3 k0 (by decide)) rfl e6 ?_
  obtain ⟨r9, e8, h⟩ := bnd h
  refine J.callV (Y := mX10_isSeenWith) (Z := mX8_lastDay) (pc := 10) (st := []) (k2 := 0) (n2 := 0) dX10_isSeenWith_10 ml_RX10_344 mo_X8_lastDay mv_X8_lastDay rfl (tX8_lastDay (d + 3) e8 hN3 k7) k7 (okN hN3 k7 (by decide)).1 (okN hN3 k7 (by decide)).2 cq_8 (by decide) rfl rfl (Nat.le_of_ble_eq_true rfl) (by decide) (by decide) (fun v ν hp => ?_) (fun i ν hp => nrm hp.1)
  obtain ⟨rfl, rfl, hN10, hb11⟩ := QEl hp
  show J _ _ _ _ 13 _ ([.int r9]) _ _ _ _
  refine J.istore_n (pc := 13) ([(3, .int r9), (0, .ref v0), (1, .int v1), (2, .int v2)]) dX10_isSeenWith_13 rfl (Nat.le_of_ble_eq_true rfl) rfl ?_
  refine J.iconst (pc := 14) dX10_isSeenWith_14 ic_0 ?_
  refine J.istore (pc := 15) ([(4, .int (0 : Int32)), (3, .int r9), (0, .ref v0), (1, .int v1), (2, .int v2)]) dX10_isSeenWith_15 (Nat.le_of_ble_eq_true rfl) rfl ?_
  refine J.pick [2, 1, 0] rfl ?_
  exact (tX10_isSeenWith_17 d fuel) v0 r9 (0 : Int32) μ2 h hN10 k0
def fX10_mostLookedFor_7 (μ : Mem) : Nat → Nat → Int32 → Int32 → Int32 → Int32 → Option (Int32)
  | 0, _, _, _, _, _ => none
  | n + 1, v0, v1, v2, v3, v4 =>
    (gR μ v0 4 11).bind fun a1 =>
    if v4 < (μ.2.1 a1 1) then
      (gR μ v0 18 1).bind fun a4 =>
      (ldL μ a4 v4).bind fun x7 =>
      if v3 < (fJ13_bitCount_95d88 x7) then
        (fX10_mostLookedFor_7 μ n) v0 v1 v4 (fJ13_bitCount_95d88 x7) (v4 + (1 : Int32))
      else
        (fX10_mostLookedFor_7 μ n) v0 v1 v2 v3 (v4 + (1 : Int32))
    else
      if v1 = 0 then
        some v2
      else
        some v3
set_option maxHeartbeats 4000000 in
theorem tX10_mostLookedFor_7 {ω : Wd} {l : Launch} (d : Nat) {μ : Mem} (hN : μ.1 = NN) {res : Int32} : ∀ n : Nat, ∀ (v0 : Nat) (v1 : Int32) (v2 : Int32) (v3 : Int32) (v4 : Int32), fX10_mostLookedFor_7 μ n v0 v1 v2 v3 v4 = some res → (kd v0).1 = 20 → J ω l mX10_mostLookedFor (d + 1) 7 [(0, .ref v0), (1, .int v1), (2, .int v2), (3, .int v3), (4, .int v4)] [] μ 0 0 (PE (.inl (some (.int res))) μ True) := by
  intro n
  induction n with
  | zero =>
    intro v0 v1 v2 v3 v4 h k0
    have h9 : (none : Option (Int32)) = some res := h
    cases h9
  | succ n ih =>
    intro v0 v1 v2 v3 v4 h k0
    unfold fX10_mostLookedFor_7 at h
    refine J.iload (pc := 7) dX10_mostLookedFor_7 4 rfl ?_
    refine J.aload_n (pc := 9) dX10_mostLookedFor_9 rfl 0 rfl ?_
    obtain ⟨a1, e2, h⟩ := bnd h
    have k3 : (kd a1).1 = 11 := gR_k e2
    refine J.fR (pc := 10) dX10_mostLookedFor_10 fl_RX10_26 k0 (okN hN k0 (by decide)) rfl e2 ?_
    refine J.fI (pc := 13) dX10_mostLookedFor_13 fl_RX10_147 k3 (okN hN k3 (by decide)) (Or.inl rfl) ?_
    rcases ifc h with ⟨hc, h⟩ | ⟨hc, h⟩
    · refine J.cge (pc := 16) (tgt := 49) dX10_mostLookedFor_16 (by decide) (fun _ => ?_) (fun q => absurd hc q)
      refine J.aload_n (pc := 19) dX10_mostLookedFor_19 rfl 0 rfl ?_
      obtain ⟨a4, e5, h⟩ := bnd h
      have k6 : (kd a4).1 = 1 := gR_k e5
      refine J.fR (pc := 20) dX10_mostLookedFor_20 fl_RX10_104 k0 (okN hN k0 (by decide)) rfl e5 ?_
      refine J.iload (pc := 23) dX10_mostLookedFor_23 4 rfl ?_
      obtain ⟨x7, e8, h⟩ := bnd h
      refine J.aL (pc := 25) dX10_mostLookedFor_25 k6 (okN hN k6 (by decide)) e8 ?_
      refine J.callS (Y := mX10_mostLookedFor) (Z := mJ13_bitCount_95d88) (pc := 26) (st := []) (k2 := 0) (n2 := 0) dX10_mostLookedFor_26 ml_RX10_165 mo_J13_bitCount_95d88 ms_J13_bitCount_95d88 rfl (tJ13_bitCount_95d88 d x7 μ hN ) rfl rfl (Nat.le_of_ble_eq_true rfl) (by decide) (by decide) (fun v ν hp => ?_) (fun i ν hp => nrm hp.1)
      obtain ⟨rfl, rfl, hN10, hb11⟩ := QEl hp
      show J _ _ _ _ 29 _ ([.int (fJ13_bitCount_95d88 x7)]) _ _ _ _
      refine J.istore (pc := 29) ([(5, .int (fJ13_bitCount_95d88 x7)), (0, .ref v0), (1, .int v1), (2, .int v2), (3, .int v3), (4, .int v4)]) dX10_mostLookedFor_29 (Nat.le_of_ble_eq_true rfl) rfl ?_
      refine J.iload (pc := 31) dX10_mostLookedFor_31 0 rfl ?_
      refine J.iload_n (pc := 33) dX10_mostLookedFor_33 rfl 4 rfl ?_
      rcases ifc h with ⟨hc, h⟩ | ⟨hc, h⟩
      · refine J.cle (pc := 34) (tgt := 43) dX10_mostLookedFor_34 (by decide) (fun _ => ?_) (fun q => absurd hc q)
        refine J.iload (pc := 37) dX10_mostLookedFor_37 0 rfl ?_
        refine J.istore_n (pc := 39) ([(3, .int (fJ13_bitCount_95d88 x7)), (5, .int (fJ13_bitCount_95d88 x7)), (0, .ref v0), (1, .int v1), (2, .int v2), (4, .int v4)]) dX10_mostLookedFor_39 rfl (Nat.le_of_ble_eq_true rfl) rfl ?_
        refine J.iload (pc := 40) dX10_mostLookedFor_40 5 rfl ?_
        refine J.istore_n (pc := 42) ([(2, .int v4), (3, .int (fJ13_bitCount_95d88 x7)), (5, .int (fJ13_bitCount_95d88 x7)), (0, .ref v0), (1, .int v1), (4, .int v4)]) dX10_mostLookedFor_42 rfl (Nat.le_of_ble_eq_true rfl) rfl ?_
        refine J.iinc (pc := 43) (j := 5) ([(4, .int (v4 + (1 : Int32))), (2, .int v4), (3, .int (fJ13_bitCount_95d88 x7)), (5, .int (fJ13_bitCount_95d88 x7)), (0, .ref v0), (1, .int v1)]) dX10_mostLookedFor_43 rfl (iincv ic_1) (Nat.le_of_ble_eq_true rfl) rfl ?_
        refine J.goto (pc := 46) (tgt := 7) dX10_mostLookedFor_46 (by decide) ?_
        refine J.pick [4, 5, 1, 2, 0] rfl ?_
        exact ih v0 v1 v4 (fJ13_bitCount_95d88 x7) (v4 + (1 : Int32)) h k0
      · refine J.cle (pc := 34) (tgt := 43) dX10_mostLookedFor_34 (by decide) (fun q => absurd q hc) (fun _ => ?_)
        refine J.iinc (pc := 43) (j := 5) ([(4, .int (v4 + (1 : Int32))), (5, .int (fJ13_bitCount_95d88 x7)), (0, .ref v0), (1, .int v1), (2, .int v2), (3, .int v3)]) dX10_mostLookedFor_43 rfl (iincv ic_1) (Nat.le_of_ble_eq_true rfl) rfl ?_
        refine J.goto (pc := 46) (tgt := 7) dX10_mostLookedFor_46 (by decide) ?_
        refine J.pick [2, 3, 4, 5, 0] rfl ?_
        exact ih v0 v1 v2 v3 (v4 + (1 : Int32)) h k0
    · refine J.cge (pc := 16) (tgt := 49) dX10_mostLookedFor_16 (by decide) (fun q => absurd q hc) (fun _ => ?_)
      refine J.iload_n (pc := 49) dX10_mostLookedFor_49 rfl 1 rfl ?_
      rcases ifc h with ⟨hc, h⟩ | ⟨hc, h⟩
      · refine J.zne (pc := 50) (tgt := 57) dX10_mostLookedFor_50 (by decide) (fun _ => ?_) (fun q => absurd hc q)
        refine J.iload_n (pc := 53) dX10_mostLookedFor_53 rfl 2 rfl ?_
        refine J.goto (pc := 54) (tgt := 58) dX10_mostLookedFor_54 (by decide) ?_
        cases h
        exact J.iret (pc := 58) dX10_mostLookedFor_58 rfl ⟨rfl, rfl, hN, trivial⟩
      · refine J.zne (pc := 50) (tgt := 57) dX10_mostLookedFor_50 (by decide) (fun q => absurd q hc) (fun _ => ?_)
        refine J.iload_n (pc := 57) dX10_mostLookedFor_57 rfl 3 rfl ?_
        cases h
        exact J.iret (pc := 58) dX10_mostLookedFor_58 rfl ⟨rfl, rfl, hN, trivial⟩
def fX10_mostLookedFor (v0 : Nat) (v1 : Int32) (μ : Mem) : Option (Int32) :=
  (fX10_mostLookedFor_7 μ fuel) v0 v1 (-1 : Int32) (0 : Int32) (0 : Int32)
set_option maxHeartbeats 4000000 in
theorem tX10_mostLookedFor {ω : Wd} {l : Launch} (d : Nat) {v0 : Nat} {v1 : Int32} {μ : Mem} {res : Int32} (h : fX10_mostLookedFor v0 v1 μ = some res) (hN : μ.1 = NN) (k0 : (kd v0).1 = 20) : Ct ω l mX10_mostLookedFor (d + 1) [.ref v0, .int v1] μ 0 0 (PE (.inl (some (.int res))) μ True) := by
  refine Ct.of pn_RX10 (Nat.le_of_ble_eq_true rfl) ?_
  show J ω l mX10_mostLookedFor (d + 1) 0 [(0, .ref v0), (1, .int v1)] [] μ 0 0 _
  unfold fX10_mostLookedFor at h
  refine J.iconst (pc := 0) dX10_mostLookedFor_0 ic_m1 ?_
  refine J.istore_n (pc := 1) ([(2, .int (-1 : Int32)), (0, .ref v0), (1, .int v1)]) dX10_mostLookedFor_1 rfl (Nat.le_of_ble_eq_true rfl) rfl ?_
  refine J.iconst (pc := 2) dX10_mostLookedFor_2 ic_0 ?_
  refine J.istore_n (pc := 3) ([(3, .int (0 : Int32)), (2, .int (-1 : Int32)), (0, .ref v0), (1, .int v1)]) dX10_mostLookedFor_3 rfl (Nat.le_of_ble_eq_true rfl) rfl ?_
  refine J.iconst (pc := 4) dX10_mostLookedFor_4 ic_0 ?_
  refine J.istore (pc := 5) ([(4, .int (0 : Int32)), (3, .int (0 : Int32)), (2, .int (-1 : Int32)), (0, .ref v0), (1, .int v1)]) dX10_mostLookedFor_5 (Nat.le_of_ble_eq_true rfl) rfl ?_
  refine J.pick [3, 4, 2, 1, 0] rfl ?_
  exact (tX10_mostLookedFor_7 d hN fuel) v0 v1 (-1 : Int32) (0 : Int32) (0 : Int32) h k0
def fX10_look_42  (K29 : Nat → Int32 → Int32 → Mem → Option ((Int32 ⊕ Nat) × Mem)) : Nat → Nat → Int32 → Int32 → Int32 → Mem → Option ((Int32 ⊕ Nat) × Mem)
  | 0, _, _, _, _, _ => none
  | n + 1, v0, v1, v2, v3, μ =>
    if (9 : Int32) < v3 then
      K29 v0 v1 (v2 + (1 : Int32)) μ
    else
      (gR μ v0 4 11).bind fun a1 =>
      (gR μ a1 4 0).bind fun a4 =>
      (ldI μ a4 v2).bind fun x7 =>
      if v3 = x7 then
        (fX10_look_42 K29 n) v0 v1 v2 (v3 + (1 : Int32)) μ
      else
        (fX10_isSeenWith v0 v2 v3 μ).bind fun (r11, μ10) =>
        if r11 = 0 then
          (fX10_look_42 K29 n) v0 v1 v2 (v3 + (1 : Int32)) μ10
        else
          (fX10_addPlacesWith v0 v2 v3 μ10).bind fun μ15 =>
          (fX10_look_42 K29 n) v0 v1 v2 (v3 + (1 : Int32)) μ15
set_option maxHeartbeats 4000000 in
theorem tX10_look_42 {ω : Wd} {l : Launch} (d : Nat) {res : (Int32 ⊕ Nat) × Mem} (K29 : Nat → Int32 → Int32 → Mem → Option ((Int32 ⊕ Nat) × Mem)) (hK29 : ∀ (v0 : Nat) (v1 : Int32) (v2 : Int32) (μ : Mem), K29 v0 v1 v2 μ = some res → μ.1 = NN → (kd v0).1 = 20 → J ω l mX10_look (d + 9) 29 [(0, .ref v0), (1, .int v1), (2, .int v2)] [] μ 0 0 (PE (oI res.1) res.2 True)) : ∀ n : Nat, ∀ (v0 : Nat) (v1 : Int32) (v2 : Int32) (v3 : Int32) (μ : Mem), fX10_look_42 K29 n v0 v1 v2 v3 μ = some res → μ.1 = NN → (kd v0).1 = 20 → J ω l mX10_look (d + 9) 42 [(0, .ref v0), (1, .int v1), (2, .int v2), (3, .int v3)] [] μ 0 0 (PE (oI res.1) res.2 True) := by
  intro n
  induction n with
  | zero =>
    intro v0 v1 v2 v3 μ h hN k0
    have h9 : (none : Option ((Int32 ⊕ Nat) × Mem)) = some res := h
    cases h9
  | succ n ih =>
    intro v0 v1 v2 v3 μ h hN k0
    unfold fX10_look_42 at h
    refine J.iload_n (pc := 42) dX10_look_42 rfl 3 rfl ?_
    refine J.bipush (pc := 43) dX10_look_43 ib_9 ?_
    rcases ifc h with ⟨hc, h⟩ | ⟨hc, h⟩
    · refine J.cgt (pc := 45) (tgt := 82) dX10_look_45 (by decide) (fun _ => ?_) (fun q => absurd hc q)
      refine J.iinc (pc := 82) (j := 2) ([(2, .int (v2 + (1 : Int32))), (0, .ref v0), (1, .int v1), (3, .int v3)]) dX10_look_82 rfl (iincv ic_1) (Nat.le_of_ble_eq_true rfl) rfl ?_
      refine J.goto (pc := 85) (tgt := 29) dX10_look_85 (by decide) ?_
      refine J.pick [1, 2, 0] rfl ?_
      exact hK29 v0 v1 (v2 + (1 : Int32)) μ h hN k0
    · refine J.cgt (pc := 45) (tgt := 82) dX10_look_45 (by decide) (fun q => absurd q hc) (fun _ => ?_)
      refine J.iload_n (pc := 48) dX10_look_48 rfl 3 rfl ?_
      refine J.aload_n (pc := 49) dX10_look_49 rfl 0 rfl ?_
      obtain ⟨a1, e2, h⟩ := bnd h
      have k3 : (kd a1).1 = 11 := gR_k e2
      refine J.fR (pc := 50) dX10_look_50 fl_RX10_26 k0 (okN hN k0 (by decide)) rfl e2 ?_
      obtain ⟨a4, e5, h⟩ := bnd h
      have k6 : (kd a4).1 = 0 := gR_k e5
      refine J.fR (pc := 53) dX10_look_53 fl_RX10_217 k3 (okN hN k3 (by decide)) rfl e5 ?_
      refine J.iload_n (pc := 56) dX10_look_56 rfl 2 rfl ?_
      obtain ⟨x7, e8, h⟩ := bnd h
      refine J.aI (pc := 57) dX10_look_57 k6 (okN hN k6 (by decide)) e8 ?_
      rcases ifc h with ⟨hc, h⟩ | ⟨hc, h⟩
      · refine J.ceq (pc := 58) (tgt := 76) dX10_look_58 (by decide) (fun _ => ?_) (fun q => absurd hc q)
        refine J.iinc (pc := 76) (j := 3) ([(3, .int (v3 + (1 : Int32))), (0, .ref v0), (1, .int v1), (2, .int v2)]) dX10_look_76 rfl (iincv ic_1) (Nat.le_of_ble_eq_true rfl) rfl ?_
        refine J.goto (pc := 79) (tgt := 42) dX10_look_79 (by decide) ?_
        refine J.pick [1, 2, 3, 0] rfl ?_
        exact ih v0 v1 v2 (v3 + (1 : Int32)) μ h hN k0
      · refine J.ceq (pc := 58) (tgt := 76) dX10_look_58 (by decide) (fun q => absurd q hc) (fun _ => ?_)
        refine J.aload_n (pc := 61) dX10_look_61 rfl 0 rfl ?_
        refine J.iload_n (pc := 62) dX10_look_62 rfl 2 rfl ?_
        refine J.iload_n (pc := 63) dX10_look_63 rfl 3 rfl ?_
        obtain ⟨⟨r11, μ10⟩, e9, h⟩ := bnd h
        try dsimp only at h
        refine J.callV (Y := mX10_look) (Z := mX10_isSeenWith) (pc := 64) (st := []) (k2 := 0) (n2 := 0) dX10_look_64 ml_RX10_337 mo_X10_isSeenWith mv_X10_isSeenWith rfl (tX10_isSeenWith (d + 3) e9 hN k0) k0 (okN hN k0 (by decide)).1 (okN hN k0 (by decide)).2 cq_10 (by decide) rfl rfl (Nat.le_of_ble_eq_true rfl) (by decide) (by decide) (fun v ν hp => ?_) (fun i ν hp => nrm hp.1)
        obtain ⟨rfl, rfl, hN12, hb13⟩ := QEl hp
        show J _ _ _ _ 67 _ ([.int r11]) _ _ _ _
        rcases ifc h with ⟨hc, h⟩ | ⟨hc, h⟩
        · refine J.zeq (pc := 67) (tgt := 76) dX10_look_67 (by decide) (fun _ => ?_) (fun q => absurd hc q)
          refine J.iinc (pc := 76) (j := 3) ([(3, .int (v3 + (1 : Int32))), (0, .ref v0), (1, .int v1), (2, .int v2)]) dX10_look_76 rfl (iincv ic_1) (Nat.le_of_ble_eq_true rfl) rfl ?_
          refine J.goto (pc := 79) (tgt := 42) dX10_look_79 (by decide) ?_
          refine J.pick [1, 2, 3, 0] rfl ?_
          exact ih v0 v1 v2 (v3 + (1 : Int32)) μ10 h hN12 k0
        · refine J.zeq (pc := 67) (tgt := 76) dX10_look_67 (by decide) (fun q => absurd q hc) (fun _ => ?_)
          refine J.aload_n (pc := 70) dX10_look_70 rfl 0 rfl ?_
          refine J.iload_n (pc := 71) dX10_look_71 rfl 2 rfl ?_
          refine J.iload_n (pc := 72) dX10_look_72 rfl 3 rfl ?_
          obtain ⟨μ15, e14, h⟩ := bnd h
          refine J.callV (Y := mX10_look) (Z := mX10_addPlacesWith) (pc := 73) (st := []) (k2 := 0) (n2 := 0) dX10_look_73 ml_RX10_352 mo_X10_addPlacesWith mv_X10_addPlacesWith rfl (tX10_addPlacesWith (d + 3) e14 hN12 k0) k0 (okN hN12 k0 (by decide)).1 (okN hN12 k0 (by decide)).2 cq_10 (by decide) rfl rfl (Nat.le_of_ble_eq_true rfl) (by decide) (by decide) (fun v ν hp => ?_) (fun i ν hp => nrm hp.1)
          obtain ⟨rfl, rfl, hN16, hb17⟩ := QEl hp
          show J _ _ _ _ 76 _ ([]) _ _ _ _
          refine J.iinc (pc := 76) (j := 3) ([(3, .int (v3 + (1 : Int32))), (0, .ref v0), (1, .int v1), (2, .int v2)]) dX10_look_76 rfl (iincv ic_1) (Nat.le_of_ble_eq_true rfl) rfl ?_
          refine J.goto (pc := 79) (tgt := 42) dX10_look_79 (by decide) ?_
          refine J.pick [1, 2, 3, 0] rfl ?_
          exact ih v0 v1 v2 (v3 + (1 : Int32)) μ15 h hN16 k0
def fX10_look_29  : Nat → Nat → Int32 → Int32 → Mem → Option ((Int32 ⊕ Nat) × Mem)
  | 0, _, _, _, _ => none
  | n + 1, v0, v1, v2, μ =>
    (gR μ v0 4 11).bind fun a1 =>
    if v2 < (μ.2.1 a1 1) then
      (fX10_look_42 (fX10_look_29 n) fuel) v0 v1 v2 (0 : Int32) μ
    else
      (fX10_mostLookedFor v0 v1 μ).bind fun r5 =>
      some (.inl r5, μ)
set_option maxHeartbeats 4000000 in
theorem tX10_look_29 {ω : Wd} {l : Launch} (d : Nat) {res : (Int32 ⊕ Nat) × Mem} : ∀ n : Nat, ∀ (v0 : Nat) (v1 : Int32) (v2 : Int32) (μ : Mem), fX10_look_29 n v0 v1 v2 μ = some res → μ.1 = NN → (kd v0).1 = 20 → J ω l mX10_look (d + 9) 29 [(0, .ref v0), (1, .int v1), (2, .int v2)] [] μ 0 0 (PE (oI res.1) res.2 True) := by
  intro n
  induction n with
  | zero =>
    intro v0 v1 v2 μ h hN k0
    have h9 : (none : Option ((Int32 ⊕ Nat) × Mem)) = some res := h
    cases h9
  | succ n ih =>
    intro v0 v1 v2 μ h hN k0
    unfold fX10_look_29 at h
    refine J.iload_n (pc := 29) dX10_look_29 rfl 2 rfl ?_
    refine J.aload_n (pc := 30) dX10_look_30 rfl 0 rfl ?_
    obtain ⟨a1, e2, h⟩ := bnd h
    have k3 : (kd a1).1 = 11 := gR_k e2
    refine J.fR (pc := 31) dX10_look_31 fl_RX10_26 k0 (okN hN k0 (by decide)) rfl e2 ?_
    refine J.fI (pc := 34) dX10_look_34 fl_RX10_147 k3 (okN hN k3 (by decide)) (Or.inl rfl) ?_
    rcases ifc h with ⟨hc, h⟩ | ⟨hc, h⟩
    · refine J.cge (pc := 37) (tgt := 88) dX10_look_37 (by decide) (fun _ => ?_) (fun q => absurd hc q)
      refine J.iconst (pc := 40) dX10_look_40 ic_0 ?_
      refine J.istore_n (pc := 41) ([(3, .int (0 : Int32)), (0, .ref v0), (1, .int v1), (2, .int v2)]) dX10_look_41 rfl (Nat.le_of_ble_eq_true rfl) rfl ?_
      refine J.pick [1, 2, 3, 0] rfl ?_
      exact (tX10_look_42 d (fX10_look_29 n) ih fuel) v0 v1 v2 (0 : Int32) μ h hN k0
    · refine J.cge (pc := 37) (tgt := 88) dX10_look_37 (by decide) (fun q => absurd q hc) (fun _ => ?_)
      refine J.aload_n (pc := 88) dX10_look_88 rfl 0 rfl ?_
      refine J.iload_n (pc := 89) dX10_look_89 rfl 1 rfl ?_
      obtain ⟨r5, e4, h⟩ := bnd h
      refine J.callV (Y := mX10_look) (Z := mX10_mostLookedFor) (pc := 90) (st := []) (k2 := 0) (n2 := 0) dX10_look_90 ml_RX10_355 mo_X10_mostLookedFor mv_X10_mostLookedFor rfl (tX10_mostLookedFor (d + 7) e4 hN k0) k0 (okN hN k0 (by decide)).1 (okN hN k0 (by decide)).2 cq_10 (by decide) rfl rfl (Nat.le_of_ble_eq_true rfl) (by decide) (by decide) (fun v ν hp => ?_) (fun i ν hp => nrm hp.1)
      obtain ⟨rfl, rfl, hN6, hb7⟩ := QEl hp
      show J _ _ _ _ 93 _ ([.int r5]) _ _ _ _
      cases h
      exact J.iret (pc := 93) dX10_look_93 rfl ⟨rfl, rfl, hN6, trivial⟩
def fX10_look_8  : Nat → Nat → Int32 → Int32 → Mem → Option ((Int32 ⊕ Nat) × Mem)
  | 0, _, _, _, _ => none
  | n + 1, v0, v1, v2, μ =>
    if v2 < (6 : Int32) then
      (gR μ v0 18 1).bind fun a1 =>
      (stL μ a1 v2 (0 : Int64)).bind fun μ4 =>
      (fX10_look_8 n) v0 v1 (v2 + (1 : Int32)) μ4
    else
      (fX10_look_29 fuel) v0 v1 (0 : Int32) μ
set_option maxHeartbeats 4000000 in
theorem tX10_look_8 {ω : Wd} {l : Launch} (d : Nat) {res : (Int32 ⊕ Nat) × Mem} : ∀ n : Nat, ∀ (v0 : Nat) (v1 : Int32) (v2 : Int32) (μ : Mem), fX10_look_8 n v0 v1 v2 μ = some res → μ.1 = NN → (kd v0).1 = 20 → J ω l mX10_look (d + 9) 8 [(0, .ref v0), (1, .int v1), (2, .int v2)] [] μ 0 0 (PE (oI res.1) res.2 True) := by
  intro n
  induction n with
  | zero =>
    intro v0 v1 v2 μ h hN k0
    have h9 : (none : Option ((Int32 ⊕ Nat) × Mem)) = some res := h
    cases h9
  | succ n ih =>
    intro v0 v1 v2 μ h hN k0
    unfold fX10_look_8 at h
    refine J.iload_n (pc := 8) dX10_look_8 rfl 2 rfl ?_
    refine J.bipush (pc := 9) dX10_look_9 ib_6 ?_
    rcases ifc h with ⟨hc, h⟩ | ⟨hc, h⟩
    · refine J.cge (pc := 11) (tgt := 27) dX10_look_11 (by decide) (fun _ => ?_) (fun q => absurd hc q)
      refine J.aload_n (pc := 14) dX10_look_14 rfl 0 rfl ?_
      obtain ⟨a1, e2, h⟩ := bnd h
      have k3 : (kd a1).1 = 1 := gR_k e2
      refine J.fR (pc := 15) dX10_look_15 fl_RX10_104 k0 (okN hN k0 (by decide)) rfl e2 ?_
      refine J.iload_n (pc := 18) dX10_look_18 rfl 2 rfl ?_
      refine J.lconst (pc := 19) dX10_look_19 lc_0 ?_
      obtain ⟨μ4, e5, h⟩ := bnd h
      have hN6 : μ4.1 = NN := stL_N e5 hN
      refine J.wL (pc := 20) dX10_look_20 k3 (okN hN k3 (by decide)) e5 ?_
      refine J.iinc (pc := 21) (j := 2) ([(2, .int (v2 + (1 : Int32))), (0, .ref v0), (1, .int v1)]) dX10_look_21 rfl (iincv ic_1) (Nat.le_of_ble_eq_true rfl) rfl ?_
      refine J.goto (pc := 24) (tgt := 8) dX10_look_24 (by decide) ?_
      refine J.pick [1, 2, 0] rfl ?_
      exact ih v0 v1 (v2 + (1 : Int32)) μ4 h hN6 k0
    · refine J.cge (pc := 11) (tgt := 27) dX10_look_11 (by decide) (fun q => absurd q hc) (fun _ => ?_)
      refine J.iconst (pc := 27) dX10_look_27 ic_0 ?_
      refine J.istore_n (pc := 28) ([(2, .int (0 : Int32)), (0, .ref v0), (1, .int v1)]) dX10_look_28 rfl (Nat.le_of_ble_eq_true rfl) rfl ?_
      refine J.pick [1, 2, 0] rfl ?_
      exact (tX10_look_29 d fuel) v0 v1 (0 : Int32) μ h hN k0
def fX10_look (v0 : Nat) (v1 : Int32) (μ : Mem) : Option ((Int32 ⊕ Nat) × Mem) :=
  (fX10_needWhat v0 v1 (2 : Int32)).bind fun
  | .inl _ =>
    (fX10_look_8 fuel) v0 v1 (0 : Int32) μ
  | .inr i4 =>
    some (.inr i4, μ)
set_option maxHeartbeats 4000000 in
theorem tX10_look {ω : Wd} {l : Launch} (d : Nat) {v0 : Nat} {v1 : Int32} {μ : Mem} {res : (Int32 ⊕ Nat) × Mem} (h : fX10_look v0 v1 μ = some res) (hN : μ.1 = NN) (k0 : (kd v0).1 = 20) : Ct ω l mX10_look (d + 9) [.ref v0, .int v1] μ 1 6 (PE (oI res.1) res.2 True) := by
  refine Ct.of pn_RX10 (Nat.le_of_ble_eq_true rfl) ?_
  show J ω l mX10_look (d + 9) 0 [(0, .ref v0), (1, .int v1)] [] μ 1 6 _
  unfold fX10_look at h
  refine J.aload_n (pc := 0) dX10_look_0 rfl 0 rfl ?_
  refine J.iload_n (pc := 1) dX10_look_1 rfl 1 rfl ?_
  refine J.iconst (pc := 2) dX10_look_2 ic_2 ?_
  obtain ⟨q, e1, h⟩ := bnd h
  rcases q with u | i4
  · try dsimp only at h
    refine J.callV (Y := mX10_look) (Z := mX10_needWhat) (pc := 3) (st := []) (k2 := 0) (n2 := 0) dX10_look_3 ml_RX10_140 mo_X10_needWhat mv_X10_needWhat rfl (tX10_needWhat d e1 hN k0) k0 (okN hN k0 (by decide)).1 (okN hN k0 (by decide)).2 cq_10 (by decide) rfl rfl (Nat.le_of_ble_eq_true rfl) (by decide) (by decide) (fun v ν hp => ?_) (fun i ν hp => nrm hp.1)
    obtain ⟨rfl, rfl, hN2, hb3⟩ := QEl hp
    show J _ _ _ _ 6 _ ([]) _ _ _ _
    refine J.iconst (pc := 6) dX10_look_6 ic_0 ?_
    refine J.istore_n (pc := 7) ([(2, .int (0 : Int32)), (0, .ref v0), (1, .int v1)]) dX10_look_7 rfl (Nat.le_of_ble_eq_true rfl) rfl ?_
    refine J.pick [1, 2, 0] rfl ?_
    exact (tX10_look_8 d fuel) v0 v1 (0 : Int32) μ h hN2 k0
  · try dsimp only at h
    refine J.callV (Y := mX10_look) (Z := mX10_needWhat) (pc := 3) (st := []) (k2 := 0) (n2 := 0) dX10_look_3 ml_RX10_140 mo_X10_needWhat mv_X10_needWhat rfl (tX10_needWhat d e1 hN k0) k0 (okN hN k0 (by decide)).1 (okN hN k0 (by decide)).2 cq_10 (by decide) rfl rfl (Nat.le_of_ble_eq_true rfl) (by decide) (by decide) (fun v ν hp => nlm hp.1) (fun i ν hp => ?_)
    obtain ⟨rfl, rfl, hN9, -⟩ := QEr hp
    cases h
    exact JX.out rfl ⟨rfl, rfl, hN9, trivial⟩
def fL_look (v0 : Nat) (v1 : Int32) (v2 : Nat) (μ : Mem) : Option (Int32 × Mem) :=
  (fX10_look v0 v1 μ).bind fun
  | (.inl r3, μ2) =>
    (stL μ2 v2 (0 : Int32) (r3.toInt64)).bind fun μ6 =>
    some ((0 : Int32), μ6)
  | (.inr i9, μ2) =>
    if i9 = 0 then some ((1 : Int32), μ2) else
    none
set_option maxHeartbeats 4000000 in
theorem tL_look {ω : Wd} {l : Launch} (d : Nat) {v0 : Nat} {v1 : Int32} {v2 : Nat} {μ : Mem} {res : Int32 × Mem} (h : fL_look v0 v1 v2 μ = some res) (hN : μ.1 = NN) (k0 : (kd v0).1 = 20) (k2 : (kd v2).1 = 1) : Ct ω l mL_look (d + 10) [.ref v0, .int v1, .ref v2] μ 1 6 (PE (.inl (some (.int res.1))) res.2 True) := by
  refine Ct.of pn_RL (Nat.le_of_ble_eq_true rfl) ?_
  show J ω l mL_look (d + 10) 0 [(0, .ref v0), (1, .int v1), (2, .ref v2)] [] μ 1 6 _
  unfold fL_look at h
  refine J.aload_n (pc := 0) dL_look_0 rfl 2 rfl ?_
  refine J.iconst (pc := 1) dL_look_1 ic_0 ?_
  refine J.aload_n (pc := 2) dL_look_2 rfl 0 rfl ?_
  refine J.iload_n (pc := 3) dL_look_3 rfl 1 rfl ?_
  obtain ⟨⟨q, μ2⟩, e1, h⟩ := bnd h
  rcases q with r3 | i9
  · try dsimp only at h
    refine J.callV (Y := mL_look) (Z := mX10_look) (pc := 4) (st := [.int (0 : Int32), .ref v2]) (k2 := 0) (n2 := 0) dL_look_4 ml_RL_83 mo_X10_look mv_X10_look rfl (tX10_look d e1 hN k0) k0 (okN hN k0 (by decide)).1 (okN hN k0 (by decide)).2 cq_10 (by decide) rfl rfl (Nat.le_of_ble_eq_true rfl) (by decide) (by decide) (fun v ν hp => ?_) (fun i ν hp => nrm hp.1)
    obtain ⟨rfl, rfl, hN4, hb5⟩ := QEl hp
    show J _ _ _ _ 7 _ ([.int r3, .int (0 : Int32), .ref v2]) _ _ _ _
    refine J.i2l (pc := 7) dL_look_7 ?_
    obtain ⟨μ6, e7, h⟩ := bnd h
    have hN8 : μ6.1 = NN := stL_N e7 hN4
    refine J.wL (pc := 8) dL_look_8 k2 (okN hN4 k2 (by decide)) e7 ?_
    refine J.goto (pc := 9) (tgt := 15) dL_look_9 (by decide) ?_
    refine J.iconst (pc := 15) dL_look_15 ic_0 ?_
    cases h
    exact J.iret (pc := 16) dL_look_16 rfl ⟨rfl, rfl, hN8, trivial⟩
  · try dsimp only at h
    refine J.callV (Y := mL_look) (Z := mX10_look) (pc := 4) (st := [.int (0 : Int32), .ref v2]) (k2 := 0) (n2 := 0) dL_look_4 ml_RL_83 mo_X10_look mv_X10_look rfl (tX10_look d e1 hN k0) k0 (okN hN k0 (by decide)).1 (okN hN k0 (by decide)).2 cq_10 (by decide) rfl rfl (Nat.le_of_ble_eq_true rfl) (by decide) (by decide) (fun v ν hp => nlm hp.1) (fun i ν hp => ?_)
    obtain ⟨rfl, rfl, hN9, -⟩ := QEr hp
    rcases ifc h with ⟨hc, h⟩ | ⟨hc, h⟩
    · subst hc
      cases h
      exact JX.catch1 (i := 0) (by decide) rfl rfl (Nat.le_of_ble_eq_true rfl) (Nat.le_of_ble_eq_true rfl) (Or.inr ⟨3, Nat.le_of_ble_eq_true rfl, rfl, dL_look_12⟩) dL_look_13 ic_1 dL_look_14 rfl ⟨rfl, rfl, hN9, trivial⟩
    cases h
def fX10_meet_34  : Nat → Nat → Int32 → Int32 → Int32 → Mem → Option ((Int32 ⊕ Nat) × Mem)
  | 0, _, _, _, _, _ => none
  | n + 1, v0, v1, v2, v3, μ =>
    if (60 : Int32) < v3 then
      some (.inl (-1 : Int32), μ)
    else
      (gR μ v0 14 12).bind fun a1 =>
      (gR μ a1 0 19).bind fun a4 =>
      (gR μ a4 4 0).bind fun a7 =>
      (ldI μ a7 v1).bind fun x10 =>
      (gR μ v0 14 12).bind fun a12 =>
      (gR μ a12 0 19).bind fun a15 =>
      (gR μ a15 4 0).bind fun a18 =>
      (ldI μ a18 v2).bind fun x21 =>
      if x10 = x21 then
        some (.inl v3, μ)
      else
        (gR μ v0 14 12).bind fun a23 =>
        (fX2_pass a23 (1 : Int32) μ).bind fun μ27 =>
        (fX10_meet_34 n) v0 v1 v2 (v3 + (1 : Int32)) μ27
set_option maxHeartbeats 4000000 in
theorem tX10_meet_34 {ω : Wd} {l : Launch} (d : Nat) {res : (Int32 ⊕ Nat) × Mem} : ∀ n : Nat, ∀ (v0 : Nat) (v1 : Int32) (v2 : Int32) (v3 : Int32) (μ : Mem), fX10_meet_34 n v0 v1 v2 v3 μ = some res → μ.1 = NN → (kd v0).1 = 20 → J ω l mX10_meet (d + 9) 34 [(0, .ref v0), (1, .int v1), (2, .int v2), (3, .int v3)] [] μ 0 0 (PE (oI res.1) res.2 True) := by
  intro n
  induction n with
  | zero =>
    intro v0 v1 v2 v3 μ h hN k0
    have h9 : (none : Option ((Int32 ⊕ Nat) × Mem)) = some res := h
    cases h9
  | succ n ih =>
    intro v0 v1 v2 v3 μ h hN k0
    unfold fX10_meet_34 at h
    refine J.iload_n (pc := 34) dX10_meet_34 rfl 3 rfl ?_
    refine J.bipush (pc := 35) dX10_meet_35 ib_60 ?_
    rcases ifc h with ⟨hc, h⟩ | ⟨hc, h⟩
    · refine J.cgt (pc := 37) (tgt := 83) dX10_meet_37 (by decide) (fun _ => ?_) (fun q => absurd hc q)
      refine J.iconst (pc := 83) dX10_meet_83 ic_m1 ?_
      cases h
      exact J.iret (pc := 84) dX10_meet_84 rfl ⟨rfl, rfl, hN, trivial⟩
    · refine J.cgt (pc := 37) (tgt := 83) dX10_meet_37 (by decide) (fun q => absurd q hc) (fun _ => ?_)
      refine J.aload_n (pc := 40) dX10_meet_40 rfl 0 rfl ?_
      obtain ⟨a1, e2, h⟩ := bnd h
      have k3 : (kd a1).1 = 12 := gR_k e2
      refine J.fR (pc := 41) dX10_meet_41 fl_RX10_79 k0 (okN hN k0 (by decide)) rfl e2 ?_
      obtain ⟨a4, e5, h⟩ := bnd h
      have k6 : (kd a4).1 = 19 := gR_k e5
      refine J.fR (pc := 44) dX10_meet_44 fl_RX10_242 k3 (okN hN k3 (by decide)) rfl e5 ?_
      obtain ⟨a7, e8, h⟩ := bnd h
      have k9 : (kd a7).1 = 0 := gR_k e8
      refine J.fR (pc := 47) dX10_meet_47 fl_RX10_208 k6 (okN hN k6 (by decide)) rfl e8 ?_
      refine J.iload_n (pc := 50) dX10_meet_50 rfl 1 rfl ?_
      obtain ⟨x10, e11, h⟩ := bnd h
      refine J.aI (pc := 51) dX10_meet_51 k9 (okN hN k9 (by decide)) e11 ?_
      refine J.aload_n (pc := 52) dX10_meet_52 rfl 0 rfl ?_
      obtain ⟨a12, e13, h⟩ := bnd h
      have k14 : (kd a12).1 = 12 := gR_k e13
      refine J.fR (pc := 53) dX10_meet_53 fl_RX10_79 k0 (okN hN k0 (by decide)) rfl e13 ?_
      obtain ⟨a15, e16, h⟩ := bnd h
      have k17 : (kd a15).1 = 19 := gR_k e16
      refine J.fR (pc := 56) dX10_meet_56 fl_RX10_242 k14 (okN hN k14 (by decide)) rfl e16 ?_
      obtain ⟨a18, e19, h⟩ := bnd h
      have k20 : (kd a18).1 = 0 := gR_k e19
      refine J.fR (pc := 59) dX10_meet_59 fl_RX10_208 k17 (okN hN k17 (by decide)) rfl e19 ?_
      refine J.iload_n (pc := 62) dX10_meet_62 rfl 2 rfl ?_
      obtain ⟨x21, e22, h⟩ := bnd h
      refine J.aI (pc := 63) dX10_meet_63 k20 (okN hN k20 (by decide)) e22 ?_
      rcases ifc h with ⟨hc, h⟩ | ⟨hc, h⟩
      · refine J.cne (pc := 64) (tgt := 69) dX10_meet_64 (by decide) (fun _ => ?_) (fun q => absurd hc q)
        refine J.iload_n (pc := 67) dX10_meet_67 rfl 3 rfl ?_
        cases h
        exact J.iret (pc := 68) dX10_meet_68 rfl ⟨rfl, rfl, hN, trivial⟩
      · refine J.cne (pc := 64) (tgt := 69) dX10_meet_64 (by decide) (fun q => absurd q hc) (fun _ => ?_)
        refine J.aload_n (pc := 69) dX10_meet_69 rfl 0 rfl ?_
        obtain ⟨a23, e24, h⟩ := bnd h
        have k25 : (kd a23).1 = 12 := gR_k e24
        refine J.fR (pc := 70) dX10_meet_70 fl_RX10_79 k0 (okN hN k0 (by decide)) rfl e24 ?_
        refine J.iconst (pc := 73) dX10_meet_73 ic_1 ?_
        obtain ⟨μ27, e26, h⟩ := bnd h
        refine J.callV (Y := mX10_meet) (Z := mX2_pass) (pc := 74) (st := []) (k2 := 0) (n2 := 0) dX10_meet_74 ml_RX10_268 mo_X2_pass mv_X2_pass rfl (tX2_pass (d + 4) e26 hN k25) k25 (okN hN k25 (by decide)).1 (okN hN k25 (by decide)).2 cq_2 (by decide) rfl rfl (Nat.le_of_ble_eq_true rfl) (by decide) (by decide) (fun v ν hp => ?_) (fun i ν hp => nrm hp.1)
        obtain ⟨rfl, rfl, hN28, hb29⟩ := QEl hp
        show J _ _ _ _ 77 _ ([]) _ _ _ _
        refine J.iinc (pc := 77) (j := 3) ([(3, .int (v3 + (1 : Int32))), (0, .ref v0), (1, .int v1), (2, .int v2)]) dX10_meet_77 rfl (iincv ic_1) (Nat.le_of_ble_eq_true rfl) rfl ?_
        refine J.goto (pc := 80) (tgt := 34) dX10_meet_80 (by decide) ?_
        refine J.pick [1, 2, 3, 0] rfl ?_
        exact ih v0 v1 v2 (v3 + (1 : Int32)) μ27 h hN28 k0
def fX10_meet (v0 : Nat) (v1 : Int32) (v2 : Int32) (μ : Mem) : Option ((Int32 ⊕ Nat) × Mem) :=
  (fX10_needPerson v0 v1 μ).bind fun
  | .inl _ =>
    (fX10_needPerson v0 v2 μ).bind fun
    | .inl _ =>
      if v1 = v2 then
        some (.inl (-1 : Int32), μ)
      else
        (gR μ v0 14 12).bind fun a7 =>
        (gR μ v0 4 11).bind fun a10 =>
        (gR μ v0 7 19).bind fun a13 =>
        (fX2_begin a7 a10 a13 μ).bind fun μ17 =>
        (fX10_meet_34 fuel) v0 v1 v2 (0 : Int32) μ17
    | .inr i20 =>
      some (.inr i20, μ)
  | .inr i21 =>
    some (.inr i21, μ)
set_option maxHeartbeats 4000000 in
theorem tX10_meet {ω : Wd} {l : Launch} (d : Nat) {v0 : Nat} {v1 : Int32} {v2 : Int32} {μ : Mem} {res : (Int32 ⊕ Nat) × Mem} (h : fX10_meet v0 v1 v2 μ = some res) (hN : μ.1 = NN) (k0 : (kd v0).1 = 20) : Ct ω l mX10_meet (d + 9) [.ref v0, .int v1, .int v2] μ 2 12 (PE (oI res.1) res.2 True) := by
  refine Ct.of pn_RX10 (Nat.le_of_ble_eq_true rfl) ?_
  show J ω l mX10_meet (d + 9) 0 [(0, .ref v0), (1, .int v1), (2, .int v2)] [] μ 2 12 _
  unfold fX10_meet at h
  refine J.aload_n (pc := 0) dX10_meet_0 rfl 0 rfl ?_
  refine J.iload_n (pc := 1) dX10_meet_1 rfl 1 rfl ?_
  obtain ⟨q, e1, h⟩ := bnd h
  rcases q with u | i21
  · try dsimp only at h
    refine J.callV (Y := mX10_meet) (Z := mX10_needPerson) (pc := 2) (st := []) (k2 := 1) (n2 := 6) dX10_meet_2 ml_RX10_211 mo_X10_needPerson mv_X10_needPerson rfl (tX10_needPerson d e1 hN k0) k0 (okN hN k0 (by decide)).1 (okN hN k0 (by decide)).2 cq_10 (by decide) rfl rfl (Nat.le_of_ble_eq_true rfl) (by decide) (by decide) (fun v ν hp => ?_) (fun i ν hp => nrm hp.1)
    obtain ⟨rfl, rfl, hN2, hb3⟩ := QEl hp
    show J _ _ _ _ 5 _ ([]) _ _ _ _
    refine J.aload_n (pc := 5) dX10_meet_5 rfl 0 rfl ?_
    refine J.iload_n (pc := 6) dX10_meet_6 rfl 2 rfl ?_
    obtain ⟨q, e4, h⟩ := bnd h
    rcases q with u | i20
    · try dsimp only at h
      refine J.callV (Y := mX10_meet) (Z := mX10_needPerson) (pc := 7) (st := []) (k2 := 0) (n2 := 0) dX10_meet_7 ml_RX10_211 mo_X10_needPerson mv_X10_needPerson rfl (tX10_needPerson d e4 hN2 k0) k0 (okN hN2 k0 (by decide)).1 (okN hN2 k0 (by decide)).2 cq_10 (by decide) rfl rfl (Nat.le_of_ble_eq_true rfl) (by decide) (by decide) (fun v ν hp => ?_) (fun i ν hp => nrm hp.1)
      obtain ⟨rfl, rfl, hN5, hb6⟩ := QEl hp
      show J _ _ _ _ 10 _ ([]) _ _ _ _
      refine J.iload_n (pc := 10) dX10_meet_10 rfl 1 rfl ?_
      refine J.iload_n (pc := 11) dX10_meet_11 rfl 2 rfl ?_
      rcases ifc h with ⟨hc, h⟩ | ⟨hc, h⟩
      · refine J.cne (pc := 12) (tgt := 17) dX10_meet_12 (by decide) (fun _ => ?_) (fun q => absurd hc q)
        refine J.iconst (pc := 15) dX10_meet_15 ic_m1 ?_
        cases h
        exact J.iret (pc := 16) dX10_meet_16 rfl ⟨rfl, rfl, hN5, trivial⟩
      · refine J.cne (pc := 12) (tgt := 17) dX10_meet_12 (by decide) (fun q => absurd q hc) (fun _ => ?_)
        refine J.aload_n (pc := 17) dX10_meet_17 rfl 0 rfl ?_
        obtain ⟨a7, e8, h⟩ := bnd h
        have k9 : (kd a7).1 = 12 := gR_k e8
        refine J.fR (pc := 18) dX10_meet_18 fl_RX10_79 k0 (okN hN5 k0 (by decide)) rfl e8 ?_
        refine J.aload_n (pc := 21) dX10_meet_21 rfl 0 rfl ?_
        obtain ⟨a10, e11, h⟩ := bnd h
        have k12 : (kd a10).1 = 11 := gR_k e11
        refine J.fR (pc := 22) dX10_meet_22 fl_RX10_26 k0 (okN hN5 k0 (by decide)) rfl e11 ?_
        refine J.aload_n (pc := 25) dX10_meet_25 rfl 0 rfl ?_
        obtain ⟨a13, e14, h⟩ := bnd h
        have k15 : (kd a13).1 = 19 := gR_k e14
        refine J.fR (pc := 26) dX10_meet_26 fl_RX10_45 k0 (okN hN5 k0 (by decide)) rfl e14 ?_
        obtain ⟨μ17, e16, h⟩ := bnd h
        refine J.callV (Y := mX10_meet) (Z := mX2_begin) (pc := 29) (st := []) (k2 := 0) (n2 := 0) dX10_meet_29 ml_RX10_264 mo_X2_begin mv_X2_begin rfl (tX2_begin (d + 6) e16 hN5 k9 k12 k15) k9 (okN hN5 k9 (by decide)).1 (okN hN5 k9 (by decide)).2 cq_2 (by decide) rfl rfl (Nat.le_of_ble_eq_true rfl) (by decide) (by decide) (fun v ν hp => ?_) (fun i ν hp => nrm hp.1)
        obtain ⟨rfl, rfl, hN18, hb19⟩ := QEl hp
        show J _ _ _ _ 32 _ ([]) _ _ _ _
        refine J.iconst (pc := 32) dX10_meet_32 ic_0 ?_
        refine J.istore_n (pc := 33) ([(3, .int (0 : Int32)), (0, .ref v0), (1, .int v1), (2, .int v2)]) dX10_meet_33 rfl (Nat.le_of_ble_eq_true rfl) rfl ?_
        refine J.pick [1, 2, 3, 0] rfl ?_
        exact (tX10_meet_34 d fuel) v0 v1 v2 (0 : Int32) μ17 h hN18 k0
    · try dsimp only at h
      refine J.callV (Y := mX10_meet) (Z := mX10_needPerson) (pc := 7) (st := []) (k2 := 0) (n2 := 0) dX10_meet_7 ml_RX10_211 mo_X10_needPerson mv_X10_needPerson rfl (tX10_needPerson d e4 hN2 k0) k0 (okN hN2 k0 (by decide)).1 (okN hN2 k0 (by decide)).2 cq_10 (by decide) rfl rfl (Nat.le_of_ble_eq_true rfl) (by decide) (by decide) (fun v ν hp => nlm hp.1) (fun i ν hp => ?_)
      obtain ⟨rfl, rfl, hN9, -⟩ := QEr hp
      cases h
      exact JX.out rfl ⟨rfl, rfl, hN9, trivial⟩
  · try dsimp only at h
    refine J.callV (Y := mX10_meet) (Z := mX10_needPerson) (pc := 2) (st := []) (k2 := 1) (n2 := 6) dX10_meet_2 ml_RX10_211 mo_X10_needPerson mv_X10_needPerson rfl (tX10_needPerson d e1 hN k0) k0 (okN hN k0 (by decide)).1 (okN hN k0 (by decide)).2 cq_10 (by decide) rfl rfl (Nat.le_of_ble_eq_true rfl) (by decide) (by decide) (fun v ν hp => nlm hp.1) (fun i ν hp => ?_)
    obtain ⟨rfl, rfl, hN9, -⟩ := QEr hp
    cases h
    exact JX.out rfl ⟨rfl, rfl, hN9, trivial⟩
def fL_meet (v0 : Nat) (v1 : Int32) (v2 : Int32) (v3 : Nat) (μ : Mem) : Option (Int32 × Mem) :=
  (fX10_meet v0 v1 v2 μ).bind fun
  | (.inl r3, μ2) =>
    (stL μ2 v3 (0 : Int32) (r3.toInt64)).bind fun μ6 =>
    some ((0 : Int32), μ6)
  | (.inr i9, μ2) =>
    if i9 = 0 then some ((1 : Int32), μ2) else
    none
set_option maxHeartbeats 4000000 in
theorem tL_meet {ω : Wd} {l : Launch} (d : Nat) {v0 : Nat} {v1 : Int32} {v2 : Int32} {v3 : Nat} {μ : Mem} {res : Int32 × Mem} (h : fL_meet v0 v1 v2 v3 μ = some res) (hN : μ.1 = NN) (k0 : (kd v0).1 = 20) (k3 : (kd v3).1 = 1) : Ct ω l mL_meet (d + 10) [.ref v0, .int v1, .int v2, .ref v3] μ 2 12 (PE (.inl (some (.int res.1))) res.2 True) := by
  refine Ct.of pn_RL (Nat.le_of_ble_eq_true rfl) ?_
  show J ω l mL_meet (d + 10) 0 [(0, .ref v0), (1, .int v1), (2, .int v2), (3, .ref v3)] [] μ 2 12 _
  unfold fL_meet at h
  refine J.aload_n (pc := 0) dL_meet_0 rfl 3 rfl ?_
  refine J.iconst (pc := 1) dL_meet_1 ic_0 ?_
  refine J.aload_n (pc := 2) dL_meet_2 rfl 0 rfl ?_
  refine J.iload_n (pc := 3) dL_meet_3 rfl 1 rfl ?_
  refine J.iload_n (pc := 4) dL_meet_4 rfl 2 rfl ?_
  obtain ⟨⟨q, μ2⟩, e1, h⟩ := bnd h
  rcases q with r3 | i9
  · try dsimp only at h
    refine J.callV (Y := mL_meet) (Z := mX10_meet) (pc := 5) (st := [.int (0 : Int32), .ref v3]) (k2 := 0) (n2 := 0) dL_meet_5 ml_RL_50 mo_X10_meet mv_X10_meet rfl (tX10_meet d e1 hN k0) k0 (okN hN k0 (by decide)).1 (okN hN k0 (by decide)).2 cq_10 (by decide) rfl rfl (Nat.le_of_ble_eq_true rfl) (by decide) (by decide) (fun v ν hp => ?_) (fun i ν hp => nrm hp.1)
    obtain ⟨rfl, rfl, hN4, hb5⟩ := QEl hp
    show J _ _ _ _ 8 _ ([.int r3, .int (0 : Int32), .ref v3]) _ _ _ _
    refine J.i2l (pc := 8) dL_meet_8 ?_
    obtain ⟨μ6, e7, h⟩ := bnd h
    have hN8 : μ6.1 = NN := stL_N e7 hN4
    refine J.wL (pc := 9) dL_meet_9 k3 (okN hN4 k3 (by decide)) e7 ?_
    refine J.goto (pc := 10) (tgt := 17) dL_meet_10 (by decide) ?_
    refine J.iconst (pc := 17) dL_meet_17 ic_0 ?_
    cases h
    exact J.iret (pc := 18) dL_meet_18 rfl ⟨rfl, rfl, hN8, trivial⟩
  · try dsimp only at h
    refine J.callV (Y := mL_meet) (Z := mX10_meet) (pc := 5) (st := [.int (0 : Int32), .ref v3]) (k2 := 0) (n2 := 0) dL_meet_5 ml_RL_50 mo_X10_meet mv_X10_meet rfl (tX10_meet d e1 hN k0) k0 (okN hN k0 (by decide)).1 (okN hN k0 (by decide)).2 cq_10 (by decide) rfl rfl (Nat.le_of_ble_eq_true rfl) (by decide) (by decide) (fun v ν hp => nlm hp.1) (fun i ν hp => ?_)
    obtain ⟨rfl, rfl, hN9, -⟩ := QEr hp
    rcases ifc h with ⟨hc, h⟩ | ⟨hc, h⟩
    · subst hc
      cases h
      exact JX.catch1 (i := 0) (by decide) rfl rfl (Nat.le_of_ble_eq_true rfl) (Nat.le_of_ble_eq_true rfl) (Or.inl ⟨4, Nat.le_of_ble_eq_true rfl, rfl, dL_meet_13⟩) dL_meet_15 ic_1 dL_meet_16 rfl ⟨rfl, rfl, hN9, trivial⟩
    cases h
def fX10_near_18  : Nat → Nat → Int32 → Int32 → Int32 → Int32 → Mem → Option ((Int32 ⊕ Nat) × Mem)
  | 0, _, _, _, _, _, _ => none
  | n + 1, v0, v1, v2, v3, v4, μ =>
    (gR μ v0 4 11).bind fun a1 =>
    if v4 < (μ.2.1 a1 1) then
      if v4 = v1 then
        if (-1 : Int32) = (-1 : Int32) then
          (fX10_near_18 n) v0 v1 v2 v3 (v4 + (1 : Int32)) μ
        else
          if (-1 : Int32) < v3 then
            (fX10_near_18 n) v0 v1 v4 (-1 : Int32) (v4 + (1 : Int32)) μ
          else
            (fX10_near_18 n) v0 v1 v2 v3 (v4 + (1 : Int32)) μ
      else
        (gR μ v0 15 15).bind fun a4 =>
        (gR μ v0 7 19).bind fun a7 =>
        (gR μ a7 4 0).bind fun a10 =>
        (ldI μ a10 v1).bind fun x13 =>
        (gR μ v0 7 19).bind fun a15 =>
        (gR μ a15 4 0).bind fun a18 =>
        (ldI μ a18 v4).bind fun x21 =>
        (fX5_far a4 x13 x21 μ).bind fun (r25, μ24) =>
        if r25 = (-1 : Int32) then
          (fX10_near_18 n) v0 v1 v2 v3 (v4 + (1 : Int32)) μ24
        else
          if r25 < v3 then
            (fX10_near_18 n) v0 v1 v4 r25 (v4 + (1 : Int32)) μ24
          else
            (fX10_near_18 n) v0 v1 v2 v3 (v4 + (1 : Int32)) μ24
    else
      some (.inl v2, μ)
set_option maxHeartbeats 4000000 in
theorem tX10_near_18 {ω : Wd} {l : Launch} (d : Nat) {res : (Int32 ⊕ Nat) × Mem} : ∀ n : Nat, ∀ (v0 : Nat) (v1 : Int32) (v2 : Int32) (v3 : Int32) (v4 : Int32) (μ : Mem), fX10_near_18 n v0 v1 v2 v3 v4 μ = some res → μ.1 = NN → (kd v0).1 = 20 → J ω l mX10_near (d + 9) 18 [(0, .ref v0), (1, .int v1), (2, .int v2), (3, .int v3), (4, .int v4)] [] μ 0 0 (PE (oI res.1) res.2 True) := by
  intro n
  induction n with
  | zero =>
    intro v0 v1 v2 v3 v4 μ h hN k0
    have h9 : (none : Option ((Int32 ⊕ Nat) × Mem)) = some res := h
    cases h9
  | succ n ih =>
    intro v0 v1 v2 v3 v4 μ h hN k0
    unfold fX10_near_18 at h
    refine J.iload (pc := 18) dX10_near_18 4 rfl ?_
    refine J.aload_n (pc := 20) dX10_near_20 rfl 0 rfl ?_
    obtain ⟨a1, e2, h⟩ := bnd h
    have k3 : (kd a1).1 = 11 := gR_k e2
    refine J.fR (pc := 21) dX10_near_21 fl_RX10_26 k0 (okN hN k0 (by decide)) rfl e2 ?_
    refine J.fI (pc := 24) dX10_near_24 fl_RX10_147 k3 (okN hN k3 (by decide)) (Or.inl rfl) ?_
    rcases ifc h with ⟨hc, h⟩ | ⟨hc, h⟩
    · refine J.cge (pc := 27) (tgt := 92) dX10_near_27 (by decide) (fun _ => ?_) (fun q => absurd hc q)
      refine J.iload (pc := 30) dX10_near_30 4 rfl ?_
      refine J.iload_n (pc := 32) dX10_near_32 rfl 1 rfl ?_
      rcases ifc h with ⟨hc, h⟩ | ⟨hc, h⟩
      · refine J.cne (pc := 33) (tgt := 40) dX10_near_33 (by decide) (fun _ => ?_) (fun q => absurd hc q)
        refine J.iconst (pc := 36) dX10_near_36 ic_m1 ?_
        refine J.goto (pc := 37) (tgt := 66) dX10_near_37 (by decide) ?_
        refine J.istore (pc := 66) ([(5, .int (-1 : Int32)), (0, .ref v0), (1, .int v1), (2, .int v2), (3, .int v3), (4, .int v4)]) dX10_near_66 (Nat.le_of_ble_eq_true rfl) rfl ?_
        refine J.iload (pc := 68) dX10_near_68 0 rfl ?_
        refine J.iconst (pc := 70) dX10_near_70 ic_m1 ?_
        rcases ifc h with ⟨hc, h⟩ | ⟨hc, h⟩
        · refine J.ceq (pc := 71) (tgt := 86) dX10_near_71 (by decide) (fun _ => ?_) (fun q => absurd hc q)
          refine J.iinc (pc := 86) (j := 5) ([(4, .int (v4 + (1 : Int32))), (5, .int (-1 : Int32)), (0, .ref v0), (1, .int v1), (2, .int v2), (3, .int v3)]) dX10_near_86 rfl (iincv ic_1) (Nat.le_of_ble_eq_true rfl) rfl ?_
          refine J.goto (pc := 89) (tgt := 18) dX10_near_89 (by decide) ?_
          refine J.pick [2, 3, 4, 5, 0] rfl ?_
          exact ih v0 v1 v2 v3 (v4 + (1 : Int32)) μ h hN k0
        · refine J.ceq (pc := 71) (tgt := 86) dX10_near_71 (by decide) (fun q => absurd q hc) (fun _ => ?_)
          refine J.iload (pc := 74) dX10_near_74 0 rfl ?_
          refine J.iload_n (pc := 76) dX10_near_76 rfl 4 rfl ?_
          rcases ifc h with ⟨hc, h⟩ | ⟨hc, h⟩
          · refine J.cge (pc := 77) (tgt := 86) dX10_near_77 (by decide) (fun _ => ?_) (fun q => absurd hc q)
            refine J.iload (pc := 80) dX10_near_80 0 rfl ?_
            refine J.istore_n (pc := 82) ([(3, .int (-1 : Int32)), (5, .int (-1 : Int32)), (0, .ref v0), (1, .int v1), (2, .int v2), (4, .int v4)]) dX10_near_82 rfl (Nat.le_of_ble_eq_true rfl) rfl ?_
            refine J.iload (pc := 83) dX10_near_83 5 rfl ?_
            refine J.istore_n (pc := 85) ([(2, .int v4), (3, .int (-1 : Int32)), (5, .int (-1 : Int32)), (0, .ref v0), (1, .int v1), (4, .int v4)]) dX10_near_85 rfl (Nat.le_of_ble_eq_true rfl) rfl ?_
            refine J.iinc (pc := 86) (j := 5) ([(4, .int (v4 + (1 : Int32))), (2, .int v4), (3, .int (-1 : Int32)), (5, .int (-1 : Int32)), (0, .ref v0), (1, .int v1)]) dX10_near_86 rfl (iincv ic_1) (Nat.le_of_ble_eq_true rfl) rfl ?_
            refine J.goto (pc := 89) (tgt := 18) dX10_near_89 (by decide) ?_
            refine J.pick [4, 5, 1, 2, 0] rfl ?_
            exact ih v0 v1 v4 (-1 : Int32) (v4 + (1 : Int32)) μ h hN k0
          · refine J.cge (pc := 77) (tgt := 86) dX10_near_77 (by decide) (fun q => absurd q hc) (fun _ => ?_)
            refine J.iinc (pc := 86) (j := 5) ([(4, .int (v4 + (1 : Int32))), (5, .int (-1 : Int32)), (0, .ref v0), (1, .int v1), (2, .int v2), (3, .int v3)]) dX10_near_86 rfl (iincv ic_1) (Nat.le_of_ble_eq_true rfl) rfl ?_
            refine J.goto (pc := 89) (tgt := 18) dX10_near_89 (by decide) ?_
            refine J.pick [2, 3, 4, 5, 0] rfl ?_
            exact ih v0 v1 v2 v3 (v4 + (1 : Int32)) μ h hN k0
      · refine J.cne (pc := 33) (tgt := 40) dX10_near_33 (by decide) (fun q => absurd q hc) (fun _ => ?_)
        refine J.aload_n (pc := 40) dX10_near_40 rfl 0 rfl ?_
        obtain ⟨a4, e5, h⟩ := bnd h
        have k6 : (kd a4).1 = 15 := gR_k e5
        refine J.fR (pc := 41) dX10_near_41 fl_RX10_86 k0 (okN hN k0 (by decide)) rfl e5 ?_
        refine J.aload_n (pc := 44) dX10_near_44 rfl 0 rfl ?_
        obtain ⟨a7, e8, h⟩ := bnd h
        have k9 : (kd a7).1 = 19 := gR_k e8
        refine J.fR (pc := 45) dX10_near_45 fl_RX10_45 k0 (okN hN k0 (by decide)) rfl e8 ?_
        obtain ⟨a10, e11, h⟩ := bnd h
        have k12 : (kd a10).1 = 0 := gR_k e11
        refine J.fR (pc := 48) dX10_near_48 fl_RX10_208 k9 (okN hN k9 (by decide)) rfl e11 ?_
        refine J.iload_n (pc := 51) dX10_near_51 rfl 1 rfl ?_
        obtain ⟨x13, e14, h⟩ := bnd h
        refine J.aI (pc := 52) dX10_near_52 k12 (okN hN k12 (by decide)) e14 ?_
        refine J.aload_n (pc := 53) dX10_near_53 rfl 0 rfl ?_
        obtain ⟨a15, e16, h⟩ := bnd h
        have k17 : (kd a15).1 = 19 := gR_k e16
        refine J.fR (pc := 54) dX10_near_54 fl_RX10_45 k0 (okN hN k0 (by decide)) rfl e16 ?_
        obtain ⟨a18, e19, h⟩ := bnd h
        have k20 : (kd a18).1 = 0 := gR_k e19
        refine J.fR (pc := 57) dX10_near_57 fl_RX10_208 k17 (okN hN k17 (by decide)) rfl e19 ?_
        refine J.iload (pc := 60) dX10_near_60 4 rfl ?_
        obtain ⟨x21, e22, h⟩ := bnd h
        refine J.aI (pc := 62) dX10_near_62 k20 (okN hN k20 (by decide)) e22 ?_
        obtain ⟨⟨r25, μ24⟩, e23, h⟩ := bnd h
        try dsimp only at h
        refine J.callV (Y := mX10_near) (Z := mX5_far) (pc := 63) (st := []) (k2 := 0) (n2 := 0) dX10_near_63 ml_RX10_226 mo_X5_far mv_X5_far rfl (tX5_far (d + 7) e23 hN k6) k6 (okN hN k6 (by decide)).1 (okN hN k6 (by decide)).2 cq_5 (by decide) rfl rfl (Nat.le_of_ble_eq_true rfl) (by decide) (by decide) (fun v ν hp => ?_) (fun i ν hp => nrm hp.1)
        obtain ⟨rfl, rfl, hN26, hb27⟩ := QEl hp
        show J _ _ _ _ 66 _ ([.int r25]) _ _ _ _
        refine J.istore (pc := 66) ([(5, .int r25), (0, .ref v0), (1, .int v1), (2, .int v2), (3, .int v3), (4, .int v4)]) dX10_near_66 (Nat.le_of_ble_eq_true rfl) rfl ?_
        refine J.iload (pc := 68) dX10_near_68 0 rfl ?_
        refine J.iconst (pc := 70) dX10_near_70 ic_m1 ?_
        rcases ifc h with ⟨hc, h⟩ | ⟨hc, h⟩
        · refine J.ceq (pc := 71) (tgt := 86) dX10_near_71 (by decide) (fun _ => ?_) (fun q => absurd hc q)
          refine J.iinc (pc := 86) (j := 5) ([(4, .int (v4 + (1 : Int32))), (5, .int r25), (0, .ref v0), (1, .int v1), (2, .int v2), (3, .int v3)]) dX10_near_86 rfl (iincv ic_1) (Nat.le_of_ble_eq_true rfl) rfl ?_
          refine J.goto (pc := 89) (tgt := 18) dX10_near_89 (by decide) ?_
          refine J.pick [2, 3, 4, 5, 0] rfl ?_
          exact ih v0 v1 v2 v3 (v4 + (1 : Int32)) μ24 h hN26 k0
        · refine J.ceq (pc := 71) (tgt := 86) dX10_near_71 (by decide) (fun q => absurd q hc) (fun _ => ?_)
          refine J.iload (pc := 74) dX10_near_74 0 rfl ?_
          refine J.iload_n (pc := 76) dX10_near_76 rfl 4 rfl ?_
          rcases ifc h with ⟨hc, h⟩ | ⟨hc, h⟩
          · refine J.cge (pc := 77) (tgt := 86) dX10_near_77 (by decide) (fun _ => ?_) (fun q => absurd hc q)
            refine J.iload (pc := 80) dX10_near_80 0 rfl ?_
            refine J.istore_n (pc := 82) ([(3, .int r25), (5, .int r25), (0, .ref v0), (1, .int v1), (2, .int v2), (4, .int v4)]) dX10_near_82 rfl (Nat.le_of_ble_eq_true rfl) rfl ?_
            refine J.iload (pc := 83) dX10_near_83 5 rfl ?_
            refine J.istore_n (pc := 85) ([(2, .int v4), (3, .int r25), (5, .int r25), (0, .ref v0), (1, .int v1), (4, .int v4)]) dX10_near_85 rfl (Nat.le_of_ble_eq_true rfl) rfl ?_
            refine J.iinc (pc := 86) (j := 5) ([(4, .int (v4 + (1 : Int32))), (2, .int v4), (3, .int r25), (5, .int r25), (0, .ref v0), (1, .int v1)]) dX10_near_86 rfl (iincv ic_1) (Nat.le_of_ble_eq_true rfl) rfl ?_
            refine J.goto (pc := 89) (tgt := 18) dX10_near_89 (by decide) ?_
            refine J.pick [4, 5, 1, 2, 0] rfl ?_
            exact ih v0 v1 v4 r25 (v4 + (1 : Int32)) μ24 h hN26 k0
          · refine J.cge (pc := 77) (tgt := 86) dX10_near_77 (by decide) (fun q => absurd q hc) (fun _ => ?_)
            refine J.iinc (pc := 86) (j := 5) ([(4, .int (v4 + (1 : Int32))), (5, .int r25), (0, .ref v0), (1, .int v1), (2, .int v2), (3, .int v3)]) dX10_near_86 rfl (iincv ic_1) (Nat.le_of_ble_eq_true rfl) rfl ?_
            refine J.goto (pc := 89) (tgt := 18) dX10_near_89 (by decide) ?_
            refine J.pick [2, 3, 4, 5, 0] rfl ?_
            exact ih v0 v1 v2 v3 (v4 + (1 : Int32)) μ24 h hN26 k0
    · refine J.cge (pc := 27) (tgt := 92) dX10_near_27 (by decide) (fun q => absurd q hc) (fun _ => ?_)
      refine J.iload_n (pc := 92) dX10_near_92 rfl 2 rfl ?_
      cases h
      exact J.iret (pc := 93) dX10_near_93 rfl ⟨rfl, rfl, hN, trivial⟩
def fX10_near (v0 : Nat) (v1 : Int32) (μ : Mem) : Option ((Int32 ⊕ Nat) × Mem) :=
  (fX10_needPerson v0 v1 μ).bind fun
  | .inl _ =>
    (fX10_here v0 μ).bind fun (a6, μ5) =>
    (fX10_near_18 fuel) v0 v1 (-1 : Int32) (48 : Int32) (0 : Int32) μ5
  | .inr i9 =>
    some (.inr i9, μ)
set_option maxHeartbeats 4000000 in
theorem tX10_near {ω : Wd} {l : Launch} (d : Nat) {v0 : Nat} {v1 : Int32} {μ : Mem} {res : (Int32 ⊕ Nat) × Mem} (h : fX10_near v0 v1 μ = some res) (hN : μ.1 = NN) (k0 : (kd v0).1 = 20) : Ct ω l mX10_near (d + 9) [.ref v0, .int v1] μ 1 6 (PE (oI res.1) res.2 True) := by
  refine Ct.of pn_RX10 (Nat.le_of_ble_eq_true rfl) ?_
  show J ω l mX10_near (d + 9) 0 [(0, .ref v0), (1, .int v1)] [] μ 1 6 _
  unfold fX10_near at h
  refine J.aload_n (pc := 0) dX10_near_0 rfl 0 rfl ?_
  refine J.iload_n (pc := 1) dX10_near_1 rfl 1 rfl ?_
  obtain ⟨q, e1, h⟩ := bnd h
  rcases q with u | i9
  · try dsimp only at h
    refine J.callV (Y := mX10_near) (Z := mX10_needPerson) (pc := 2) (st := []) (k2 := 0) (n2 := 0) dX10_near_2 ml_RX10_211 mo_X10_needPerson mv_X10_needPerson rfl (tX10_needPerson d e1 hN k0) k0 (okN hN k0 (by decide)).1 (okN hN k0 (by decide)).2 cq_10 (by decide) rfl rfl (Nat.le_of_ble_eq_true rfl) (by decide) (by decide) (fun v ν hp => ?_) (fun i ν hp => nrm hp.1)
    obtain ⟨rfl, rfl, hN2, hb3⟩ := QEl hp
    show J _ _ _ _ 5 _ ([]) _ _ _ _
    refine J.aload_n (pc := 5) dX10_near_5 rfl 0 rfl ?_
    obtain ⟨⟨a6, μ5⟩, e4, h⟩ := bnd h
    try dsimp only at h
    refine J.callV (Y := mX10_near) (Z := mX10_here) (pc := 6) (st := []) (k2 := 0) (n2 := 0) dX10_near_6 ml_RX10_153 mo_X10_here mv_X10_here rfl (tX10_here (d + 7) e4 hN2 k0) k0 (okN hN2 k0 (by decide)).1 (okN hN2 k0 (by decide)).2 cq_10 (by decide) rfl rfl (Nat.le_of_ble_eq_true rfl) (by decide) (by decide) (fun v ν hp => ?_) (fun i ν hp => nrm hp.1)
    obtain ⟨rfl, rfl, hN7, hb8⟩ := QEl hp
    show J _ _ _ _ 9 _ ([.ref a6]) _ _ _ _
    refine J.pop (pc := 9) dX10_near_9 rfl ?_
    refine J.iconst (pc := 10) dX10_near_10 ic_m1 ?_
    refine J.istore_n (pc := 11) ([(2, .int (-1 : Int32)), (0, .ref v0), (1, .int v1)]) dX10_near_11 rfl (Nat.le_of_ble_eq_true rfl) rfl ?_
    refine J.bipush (pc := 12) dX10_near_12 ib_48 ?_
    refine J.istore_n (pc := 14) ([(3, .int (48 : Int32)), (2, .int (-1 : Int32)), (0, .ref v0), (1, .int v1)]) dX10_near_14 rfl (Nat.le_of_ble_eq_true rfl) rfl ?_
    refine J.iconst (pc := 15) dX10_near_15 ic_0 ?_
    refine J.istore (pc := 16) ([(4, .int (0 : Int32)), (3, .int (48 : Int32)), (2, .int (-1 : Int32)), (0, .ref v0), (1, .int v1)]) dX10_near_16 (Nat.le_of_ble_eq_true rfl) rfl ?_
    refine J.pick [3, 4, 2, 1, 0] rfl ?_
    exact (tX10_near_18 d fuel) v0 v1 (-1 : Int32) (48 : Int32) (0 : Int32) μ5 h hN7 k0
  · try dsimp only at h
    refine J.callV (Y := mX10_near) (Z := mX10_needPerson) (pc := 2) (st := []) (k2 := 0) (n2 := 0) dX10_near_2 ml_RX10_211 mo_X10_needPerson mv_X10_needPerson rfl (tX10_needPerson d e1 hN k0) k0 (okN hN k0 (by decide)).1 (okN hN k0 (by decide)).2 cq_10 (by decide) rfl rfl (Nat.le_of_ble_eq_true rfl) (by decide) (by decide) (fun v ν hp => nlm hp.1) (fun i ν hp => ?_)
    obtain ⟨rfl, rfl, hN9, -⟩ := QEr hp
    cases h
    exact JX.out rfl ⟨rfl, rfl, hN9, trivial⟩
def fL_near (v0 : Nat) (v1 : Int32) (v2 : Nat) (μ : Mem) : Option (Int32 × Mem) :=
  (fX10_near v0 v1 μ).bind fun
  | (.inl r3, μ2) =>
    (stL μ2 v2 (0 : Int32) (r3.toInt64)).bind fun μ6 =>
    some ((0 : Int32), μ6)
  | (.inr i9, μ2) =>
    if i9 = 0 then some ((1 : Int32), μ2) else
    none
set_option maxHeartbeats 4000000 in
theorem tL_near {ω : Wd} {l : Launch} (d : Nat) {v0 : Nat} {v1 : Int32} {v2 : Nat} {μ : Mem} {res : Int32 × Mem} (h : fL_near v0 v1 v2 μ = some res) (hN : μ.1 = NN) (k0 : (kd v0).1 = 20) (k2 : (kd v2).1 = 1) : Ct ω l mL_near (d + 10) [.ref v0, .int v1, .ref v2] μ 1 6 (PE (.inl (some (.int res.1))) res.2 True) := by
  refine Ct.of pn_RL (Nat.le_of_ble_eq_true rfl) ?_
  show J ω l mL_near (d + 10) 0 [(0, .ref v0), (1, .int v1), (2, .ref v2)] [] μ 1 6 _
  unfold fL_near at h
  refine J.aload_n (pc := 0) dL_near_0 rfl 2 rfl ?_
  refine J.iconst (pc := 1) dL_near_1 ic_0 ?_
  refine J.aload_n (pc := 2) dL_near_2 rfl 0 rfl ?_
  refine J.iload_n (pc := 3) dL_near_3 rfl 1 rfl ?_
  obtain ⟨⟨q, μ2⟩, e1, h⟩ := bnd h
  rcases q with r3 | i9
  · try dsimp only at h
    refine J.callV (Y := mL_near) (Z := mX10_near) (pc := 4) (st := [.int (0 : Int32), .ref v2]) (k2 := 0) (n2 := 0) dL_near_4 ml_RL_101 mo_X10_near mv_X10_near rfl (tX10_near d e1 hN k0) k0 (okN hN k0 (by decide)).1 (okN hN k0 (by decide)).2 cq_10 (by decide) rfl rfl (Nat.le_of_ble_eq_true rfl) (by decide) (by decide) (fun v ν hp => ?_) (fun i ν hp => nrm hp.1)
    obtain ⟨rfl, rfl, hN4, hb5⟩ := QEl hp
    show J _ _ _ _ 7 _ ([.int r3, .int (0 : Int32), .ref v2]) _ _ _ _
    refine J.i2l (pc := 7) dL_near_7 ?_
    obtain ⟨μ6, e7, h⟩ := bnd h
    have hN8 : μ6.1 = NN := stL_N e7 hN4
    refine J.wL (pc := 8) dL_near_8 k2 (okN hN4 k2 (by decide)) e7 ?_
    refine J.goto (pc := 9) (tgt := 15) dL_near_9 (by decide) ?_
    refine J.iconst (pc := 15) dL_near_15 ic_0 ?_
    cases h
    exact J.iret (pc := 16) dL_near_16 rfl ⟨rfl, rfl, hN8, trivial⟩
  · try dsimp only at h
    refine J.callV (Y := mL_near) (Z := mX10_near) (pc := 4) (st := [.int (0 : Int32), .ref v2]) (k2 := 0) (n2 := 0) dL_near_4 ml_RL_101 mo_X10_near mv_X10_near rfl (tX10_near d e1 hN k0) k0 (okN hN k0 (by decide)).1 (okN hN k0 (by decide)).2 cq_10 (by decide) rfl rfl (Nat.le_of_ble_eq_true rfl) (by decide) (by decide) (fun v ν hp => nlm hp.1) (fun i ν hp => ?_)
    obtain ⟨rfl, rfl, hN9, -⟩ := QEr hp
    rcases ifc h with ⟨hc, h⟩ | ⟨hc, h⟩
    · subst hc
      cases h
      exact JX.catch1 (i := 0) (by decide) rfl rfl (Nat.le_of_ble_eq_true rfl) (Nat.le_of_ble_eq_true rfl) (Or.inr ⟨3, Nat.le_of_ble_eq_true rfl, rfl, dL_near_12⟩) dL_near_13 ic_1 dL_near_14 rfl ⟨rfl, rfl, hN9, trivial⟩
    cases h
def fX10_person (v0 : Nat) (v1 : Int32) (v2 : Int32) (μ : Mem) : Option ((Int32 ⊕ Nat) × Mem) :=
  (fX10_needPerson v0 v1 μ).bind fun
  | .inl _ =>
    (fX10_needWhat v0 v2 (6 : Int32)).bind fun
    | .inl _ =>
      if v2 = (0 : Int32) then
        (gR μ v0 7 19).bind fun a7 =>
        (gR μ a7 4 0).bind fun a10 =>
        (ldI μ a10 v1).bind fun x13 =>
        some (.inl (fX10_outside x13), μ)
      else
      if v2 = (1 : Int32) then
        (gR μ v0 4 11).bind fun a18 =>
        (gR μ a18 4 0).bind fun a21 =>
        (ldI μ a21 v1).bind fun x24 =>
        some (.inl x24, μ)
      else
      if v2 = (2 : Int32) then
        (gR μ v0 7 19).bind fun a26 =>
        (gR μ a26 5 0).bind fun a29 =>
        (ldI μ a29 v1).bind fun x32 =>
        some (.inl (fX10_outside x32), μ)
      else
      if v2 = (3 : Int32) then
        (gR μ v0 7 19).bind fun a37 =>
        (gR μ a37 6 0).bind fun a40 =>
        (ldI μ a40 v1).bind fun x43 =>
        some (.inl x43, μ)
      else
      if v2 = (4 : Int32) then
        (gR μ v0 7 19).bind fun a45 =>
        (gR μ a45 5 0).bind fun a48 =>
        (ldI μ a48 v1).bind fun x51 =>
        if x51 = (-1 : Int32) then
          some (.inl (-1 : Int32), μ)
        else
          (fX10_here v0 μ).bind fun (a55, μ54) =>
          (gR μ54 v0 7 19).bind fun a58 =>
          (gR μ54 a58 4 0).bind fun a61 =>
          (ldI μ54 a61 v1).bind fun x64 =>
          (gR μ54 v0 7 19).bind fun a66 =>
          (gR μ54 a66 5 0).bind fun a69 =>
          (ldI μ54 a69 v1).bind fun x72 =>
          (fX5_far a55 x64 x72 μ54).bind fun (r76, μ75) =>
          some (.inl r76, μ75)
      else
      (gR μ v0 7 19).bind fun a79 =>
      (fX9_others a79 v1 μ).bind fun r83 =>
      some (.inl r83, μ)
    | .inr i86 =>
      some (.inr i86, μ)
  | .inr i87 =>
    some (.inr i87, μ)
set_option maxHeartbeats 4000000 in
theorem tX10_person {ω : Wd} {l : Launch} (d : Nat) {v0 : Nat} {v1 : Int32} {v2 : Int32} {μ : Mem} {res : (Int32 ⊕ Nat) × Mem} (h : fX10_person v0 v1 v2 μ = some res) (hN : μ.1 = NN) (k0 : (kd v0).1 = 20) : Ct ω l mX10_person (d + 9) [.ref v0, .int v1, .int v2] μ 2 12 (PE (oI res.1) res.2 True) := by
  refine Ct.of pn_RX10 (Nat.le_of_ble_eq_true rfl) ?_
  show J ω l mX10_person (d + 9) 0 [(0, .ref v0), (1, .int v1), (2, .int v2)] [] μ 2 12 _
  unfold fX10_person at h
  refine J.aload_n (pc := 0) dX10_person_0 rfl 0 rfl ?_
  refine J.iload_n (pc := 1) dX10_person_1 rfl 1 rfl ?_
  obtain ⟨q, e1, h⟩ := bnd h
  rcases q with u | i87
  · try dsimp only at h
    refine J.callV (Y := mX10_person) (Z := mX10_needPerson) (pc := 2) (st := []) (k2 := 1) (n2 := 6) dX10_person_2 ml_RX10_211 mo_X10_needPerson mv_X10_needPerson rfl (tX10_needPerson d e1 hN k0) k0 (okN hN k0 (by decide)).1 (okN hN k0 (by decide)).2 cq_10 (by decide) rfl rfl (Nat.le_of_ble_eq_true rfl) (by decide) (by decide) (fun v ν hp => ?_) (fun i ν hp => nrm hp.1)
    obtain ⟨rfl, rfl, hN2, hb3⟩ := QEl hp
    show J _ _ _ _ 5 _ ([]) _ _ _ _
    refine J.aload_n (pc := 5) dX10_person_5 rfl 0 rfl ?_
    refine J.iload_n (pc := 6) dX10_person_6 rfl 2 rfl ?_
    refine J.bipush (pc := 7) dX10_person_7 ib_6 ?_
    obtain ⟨q, e4, h⟩ := bnd h
    rcases q with u | i86
    · try dsimp only at h
      refine J.callV (Y := mX10_person) (Z := mX10_needWhat) (pc := 9) (st := []) (k2 := 0) (n2 := 0) dX10_person_9 ml_RX10_140 mo_X10_needWhat mv_X10_needWhat rfl (tX10_needWhat d e4 hN2 k0) k0 (okN hN2 k0 (by decide)).1 (okN hN2 k0 (by decide)).2 cq_10 (by decide) rfl rfl (Nat.le_of_ble_eq_true rfl) (by decide) (by decide) (fun v ν hp => ?_) (fun i ν hp => nrm hp.1)
      obtain ⟨rfl, rfl, hN5, hb6⟩ := QEl hp
      show J _ _ _ _ 12 _ ([]) _ _ _ _
      refine J.iload_n (pc := 12) dX10_person_12 rfl 2 rfl ?_
      rcases ifc h with ⟨hc, h⟩ | ⟨ns88, h⟩
      · refine J.tableIn (pc := 13) (off := 35) (tgt := 48) dX10_person_13 (by rw [hc]; decide) (by rw [hc]; decide) (by rw [hc]; decide) (by decide) ?_
        refine J.aload_n (pc := 48) dX10_person_48 rfl 0 rfl ?_
        obtain ⟨a7, e8, h⟩ := bnd h
        have k9 : (kd a7).1 = 19 := gR_k e8
        refine J.fR (pc := 49) dX10_person_49 fl_RX10_45 k0 (okN hN5 k0 (by decide)) rfl e8 ?_
        obtain ⟨a10, e11, h⟩ := bnd h
        have k12 : (kd a10).1 = 0 := gR_k e11
        refine J.fR (pc := 52) dX10_person_52 fl_RX10_208 k9 (okN hN5 k9 (by decide)) rfl e11 ?_
        refine J.iload_n (pc := 55) dX10_person_55 rfl 1 rfl ?_
        obtain ⟨x13, e14, h⟩ := bnd h
        refine J.aI (pc := 56) dX10_person_56 k12 (okN hN5 k12 (by decide)) e14 ?_
        refine J.callS (Y := mX10_person) (Z := mX10_outside) (pc := 57) (st := []) (k2 := 0) (n2 := 0) dX10_person_57 ml_RX10_214 mo_X10_outside ms_X10_outside rfl (tX10_outside (d + 8) x13 μ hN5 ) rfl rfl (Nat.le_of_ble_eq_true rfl) (by decide) (by decide) (fun v ν hp => ?_) (fun i ν hp => nrm hp.1)
        obtain ⟨rfl, rfl, hN16, hb17⟩ := QEl hp
        show J _ _ _ _ 60 _ ([.int (fX10_outside x13)]) _ _ _ _
        cases h
        exact J.iret (pc := 60) dX10_person_60 rfl ⟨rfl, rfl, hN16, trivial⟩
      rcases ifc h with ⟨hc, h⟩ | ⟨ns89, h⟩
      · refine J.tableIn (pc := 13) (off := 48) (tgt := 61) dX10_person_13 (by rw [hc]; decide) (by rw [hc]; decide) (by rw [hc]; decide) (by decide) ?_
        refine J.aload_n (pc := 61) dX10_person_61 rfl 0 rfl ?_
        obtain ⟨a18, e19, h⟩ := bnd h
        have k20 : (kd a18).1 = 11 := gR_k e19
        refine J.fR (pc := 62) dX10_person_62 fl_RX10_26 k0 (okN hN5 k0 (by decide)) rfl e19 ?_
        obtain ⟨a21, e22, h⟩ := bnd h
        have k23 : (kd a21).1 = 0 := gR_k e22
        refine J.fR (pc := 65) dX10_person_65 fl_RX10_217 k20 (okN hN5 k20 (by decide)) rfl e22 ?_
        refine J.iload_n (pc := 68) dX10_person_68 rfl 1 rfl ?_
        obtain ⟨x24, e25, h⟩ := bnd h
        refine J.aI (pc := 69) dX10_person_69 k23 (okN hN5 k23 (by decide)) e25 ?_
        cases h
        exact J.iret (pc := 70) dX10_person_70 rfl ⟨rfl, rfl, hN5, trivial⟩
      rcases ifc h with ⟨hc, h⟩ | ⟨ns90, h⟩
      · refine J.tableIn (pc := 13) (off := 58) (tgt := 71) dX10_person_13 (by rw [hc]; decide) (by rw [hc]; decide) (by rw [hc]; decide) (by decide) ?_
        refine J.aload_n (pc := 71) dX10_person_71 rfl 0 rfl ?_
        obtain ⟨a26, e27, h⟩ := bnd h
        have k28 : (kd a26).1 = 19 := gR_k e27
        refine J.fR (pc := 72) dX10_person_72 fl_RX10_45 k0 (okN hN5 k0 (by decide)) rfl e27 ?_
        obtain ⟨a29, e30, h⟩ := bnd h
        have k31 : (kd a29).1 = 0 := gR_k e30
        refine J.fR (pc := 75) dX10_person_75 fl_RX10_220 k28 (okN hN5 k28 (by decide)) rfl e30 ?_
        refine J.iload_n (pc := 78) dX10_person_78 rfl 1 rfl ?_
        obtain ⟨x32, e33, h⟩ := bnd h
        refine J.aI (pc := 79) dX10_person_79 k31 (okN hN5 k31 (by decide)) e33 ?_
        refine J.callS (Y := mX10_person) (Z := mX10_outside) (pc := 80) (st := []) (k2 := 0) (n2 := 0) dX10_person_80 ml_RX10_214 mo_X10_outside ms_X10_outside rfl (tX10_outside (d + 8) x32 μ hN5 ) rfl rfl (Nat.le_of_ble_eq_true rfl) (by decide) (by decide) (fun v ν hp => ?_) (fun i ν hp => nrm hp.1)
        obtain ⟨rfl, rfl, hN35, hb36⟩ := QEl hp
        show J _ _ _ _ 83 _ ([.int (fX10_outside x32)]) _ _ _ _
        cases h
        exact J.iret (pc := 83) dX10_person_83 rfl ⟨rfl, rfl, hN35, trivial⟩
      rcases ifc h with ⟨hc, h⟩ | ⟨ns91, h⟩
      · refine J.tableIn (pc := 13) (off := 71) (tgt := 84) dX10_person_13 (by rw [hc]; decide) (by rw [hc]; decide) (by rw [hc]; decide) (by decide) ?_
        refine J.aload_n (pc := 84) dX10_person_84 rfl 0 rfl ?_
        obtain ⟨a37, e38, h⟩ := bnd h
        have k39 : (kd a37).1 = 19 := gR_k e38
        refine J.fR (pc := 85) dX10_person_85 fl_RX10_45 k0 (okN hN5 k0 (by decide)) rfl e38 ?_
        obtain ⟨a40, e41, h⟩ := bnd h
        have k42 : (kd a40).1 = 0 := gR_k e41
        refine J.fR (pc := 88) dX10_person_88 fl_RX10_223 k39 (okN hN5 k39 (by decide)) rfl e41 ?_
        refine J.iload_n (pc := 91) dX10_person_91 rfl 1 rfl ?_
        obtain ⟨x43, e44, h⟩ := bnd h
        refine J.aI (pc := 92) dX10_person_92 k42 (okN hN5 k42 (by decide)) e44 ?_
        cases h
        exact J.iret (pc := 93) dX10_person_93 rfl ⟨rfl, rfl, hN5, trivial⟩
      rcases ifc h with ⟨hc, h⟩ | ⟨ns92, h⟩
      · refine J.tableIn (pc := 13) (off := 81) (tgt := 94) dX10_person_13 (by rw [hc]; decide) (by rw [hc]; decide) (by rw [hc]; decide) (by decide) ?_
        refine J.aload_n (pc := 94) dX10_person_94 rfl 0 rfl ?_
        obtain ⟨a45, e46, h⟩ := bnd h
        have k47 : (kd a45).1 = 19 := gR_k e46
        refine J.fR (pc := 95) dX10_person_95 fl_RX10_45 k0 (okN hN5 k0 (by decide)) rfl e46 ?_
        obtain ⟨a48, e49, h⟩ := bnd h
        have k50 : (kd a48).1 = 0 := gR_k e49
        refine J.fR (pc := 98) dX10_person_98 fl_RX10_220 k47 (okN hN5 k47 (by decide)) rfl e49 ?_
        refine J.iload_n (pc := 101) dX10_person_101 rfl 1 rfl ?_
        obtain ⟨x51, e52, h⟩ := bnd h
        refine J.aI (pc := 102) dX10_person_102 k50 (okN hN5 k50 (by decide)) e52 ?_
        refine J.iconst (pc := 103) dX10_person_103 ic_m1 ?_
        rcases ifc h with ⟨hc, h⟩ | ⟨hc, h⟩
        · refine J.cne (pc := 104) (tgt := 111) dX10_person_104 (by decide) (fun _ => ?_) (fun q => absurd hc q)
          refine J.iconst (pc := 107) dX10_person_107 ic_m1 ?_
          refine J.goto (pc := 108) (tgt := 136) dX10_person_108 (by decide) ?_
          cases h
          exact J.iret (pc := 136) dX10_person_136 rfl ⟨rfl, rfl, hN5, trivial⟩
        · refine J.cne (pc := 104) (tgt := 111) dX10_person_104 (by decide) (fun q => absurd q hc) (fun _ => ?_)
          refine J.aload_n (pc := 111) dX10_person_111 rfl 0 rfl ?_
          obtain ⟨⟨a55, μ54⟩, e53, h⟩ := bnd h
          try dsimp only at h
          refine J.callV (Y := mX10_person) (Z := mX10_here) (pc := 112) (st := []) (k2 := 0) (n2 := 0) dX10_person_112 ml_RX10_153 mo_X10_here mv_X10_here rfl (tX10_here (d + 7) e53 hN5 k0) k0 (okN hN5 k0 (by decide)).1 (okN hN5 k0 (by decide)).2 cq_10 (by decide) rfl rfl (Nat.le_of_ble_eq_true rfl) (by decide) (by decide) (fun v ν hp => ?_) (fun i ν hp => nrm hp.1)
          obtain ⟨rfl, rfl, hN56, hb57⟩ := QEl hp
          show J _ _ _ _ 115 _ ([.ref a55]) _ _ _ _
          refine J.aload_n (pc := 115) dX10_person_115 rfl 0 rfl ?_
          obtain ⟨a58, e59, h⟩ := bnd h
          have k60 : (kd a58).1 = 19 := gR_k e59
          refine J.fR (pc := 116) dX10_person_116 fl_RX10_45 k0 (okN hN56 k0 (by decide)) rfl e59 ?_
          obtain ⟨a61, e62, h⟩ := bnd h
          have k63 : (kd a61).1 = 0 := gR_k e62
          refine J.fR (pc := 119) dX10_person_119 fl_RX10_208 k60 (okN hN56 k60 (by decide)) rfl e62 ?_
          refine J.iload_n (pc := 122) dX10_person_122 rfl 1 rfl ?_
          obtain ⟨x64, e65, h⟩ := bnd h
          refine J.aI (pc := 123) dX10_person_123 k63 (okN hN56 k63 (by decide)) e65 ?_
          refine J.aload_n (pc := 124) dX10_person_124 rfl 0 rfl ?_
          obtain ⟨a66, e67, h⟩ := bnd h
          have k68 : (kd a66).1 = 19 := gR_k e67
          refine J.fR (pc := 125) dX10_person_125 fl_RX10_45 k0 (okN hN56 k0 (by decide)) rfl e67 ?_
          obtain ⟨a69, e70, h⟩ := bnd h
          have k71 : (kd a69).1 = 0 := gR_k e70
          refine J.fR (pc := 128) dX10_person_128 fl_RX10_220 k68 (okN hN56 k68 (by decide)) rfl e70 ?_
          refine J.iload_n (pc := 131) dX10_person_131 rfl 1 rfl ?_
          obtain ⟨x72, e73, h⟩ := bnd h
          refine J.aI (pc := 132) dX10_person_132 k71 (okN hN56 k71 (by decide)) e73 ?_
          obtain ⟨⟨r76, μ75⟩, e74, h⟩ := bnd h
          try dsimp only at h
          refine J.callV (Y := mX10_person) (Z := mX5_far) (pc := 133) (st := []) (k2 := 0) (n2 := 0) dX10_person_133 ml_RX10_226 mo_X5_far mv_X5_far rfl (tX5_far (d + 7) e74 hN56 hb57) hb57 (okN hN56 hb57 (by decide)).1 (okN hN56 hb57 (by decide)).2 cq_5 (by decide) rfl rfl (Nat.le_of_ble_eq_true rfl) (by decide) (by decide) (fun v ν hp => ?_) (fun i ν hp => nrm hp.1)
          obtain ⟨rfl, rfl, hN77, hb78⟩ := QEl hp
          show J _ _ _ _ 136 _ ([.int r76]) _ _ _ _
          cases h
          exact J.iret (pc := 136) dX10_person_136 rfl ⟨rfl, rfl, hN77, trivial⟩
      refine J.tableOut (pc := 13) (tgt := 137) dX10_person_13 (sw_out (vs := [(0 : Int32), (1 : Int32), (2 : Int32), (3 : Int32), (4 : Int32)]) (List.forall_mem_cons.mpr ⟨ns88, (List.forall_mem_cons.mpr ⟨ns89, (List.forall_mem_cons.mpr ⟨ns90, (List.forall_mem_cons.mpr ⟨ns91, (List.forall_mem_cons.mpr ⟨ns92, (fun _ q => nomatch q)⟩)⟩)⟩)⟩)⟩) (sw_hv (by decide))) (by decide) ?_
      refine J.aload_n (pc := 137) dX10_person_137 rfl 0 rfl ?_
      obtain ⟨a79, e80, h⟩ := bnd h
      have k81 : (kd a79).1 = 19 := gR_k e80
      refine J.fR (pc := 138) dX10_person_138 fl_RX10_45 k0 (okN hN5 k0 (by decide)) rfl e80 ?_
      refine J.iload_n (pc := 141) dX10_person_141 rfl 1 rfl ?_
      obtain ⟨r83, e82, h⟩ := bnd h
      refine J.callV (Y := mX10_person) (Z := mX9_others) (pc := 142) (st := []) (k2 := 0) (n2 := 0) dX10_person_142 ml_RX10_230 mo_X9_others mv_X9_others rfl (tX9_others (d + 7) e82 hN5 k81) k81 (okN hN5 k81 (by decide)).1 (okN hN5 k81 (by decide)).2 cq_9 (by decide) rfl rfl (Nat.le_of_ble_eq_true rfl) (by decide) (by decide) (fun v ν hp => ?_) (fun i ν hp => nrm hp.1)
      obtain ⟨rfl, rfl, hN84, hb85⟩ := QEl hp
      show J _ _ _ _ 145 _ ([.int r83]) _ _ _ _
      cases h
      exact J.iret (pc := 145) dX10_person_145 rfl ⟨rfl, rfl, hN84, trivial⟩
    · try dsimp only at h
      refine J.callV (Y := mX10_person) (Z := mX10_needWhat) (pc := 9) (st := []) (k2 := 0) (n2 := 0) dX10_person_9 ml_RX10_140 mo_X10_needWhat mv_X10_needWhat rfl (tX10_needWhat d e4 hN2 k0) k0 (okN hN2 k0 (by decide)).1 (okN hN2 k0 (by decide)).2 cq_10 (by decide) rfl rfl (Nat.le_of_ble_eq_true rfl) (by decide) (by decide) (fun v ν hp => nlm hp.1) (fun i ν hp => ?_)
      obtain ⟨rfl, rfl, hN9, -⟩ := QEr hp
      cases h
      exact JX.out rfl ⟨rfl, rfl, hN9, trivial⟩
  · try dsimp only at h
    refine J.callV (Y := mX10_person) (Z := mX10_needPerson) (pc := 2) (st := []) (k2 := 1) (n2 := 6) dX10_person_2 ml_RX10_211 mo_X10_needPerson mv_X10_needPerson rfl (tX10_needPerson d e1 hN k0) k0 (okN hN k0 (by decide)).1 (okN hN k0 (by decide)).2 cq_10 (by decide) rfl rfl (Nat.le_of_ble_eq_true rfl) (by decide) (by decide) (fun v ν hp => nlm hp.1) (fun i ν hp => ?_)
    obtain ⟨rfl, rfl, hN9, -⟩ := QEr hp
    cases h
    exact JX.out rfl ⟨rfl, rfl, hN9, trivial⟩
