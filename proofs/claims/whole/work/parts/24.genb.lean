def fX11_fault (v0 : Nat) (μ : Mem) : Option (Int32 × Mem) :=
  (some (sI μ v0 0 (0 : Int32))).bind fun μ1 =>
  some ((μ1.2.1 v0 10), μ1)
set_option maxHeartbeats 4000000 in
theorem tX11_fault {ω : Wd} {l : Launch} (d : Nat) {v0 : Nat} {μ : Mem} {res : Int32 × Mem} (h : fX11_fault v0 μ = some res) (hN : μ.1 = NN) (k0 : (kd v0).1 = 21) : Ct ω l mX11_fault d [.ref v0] μ 0 0 (PE (.inl (some (.int res.1))) res.2 True) := by
  refine Ct.of pn_RX11 (Nat.le_of_ble_eq_true rfl) ?_
  show J ω l mX11_fault d 0 [(0, .ref v0)] [] μ 0 0 _
  unfold fX11_fault at h
  refine J.aload_n (pc := 0) dX11_fault_0 rfl 0 rfl ?_
  refine J.iconst (pc := 1) dX11_fault_1 ic_0 ?_
  obtain ⟨μ1, e2, h⟩ := bnd h
  have hN3 : μ1.1 = NN := smN e2 hN
  refine J.qI (pc := 2) dX11_fault_2 fl_RX11_99 k0 (okN hN k0 (by decide)) rfl rfl e2 ?_
  refine J.aload_n (pc := 5) dX11_fault_5 rfl 0 rfl ?_
  refine J.fI (pc := 6) dX11_fault_6 fl_RX11_26 k0 (okN hN3 k0 (by decide)) (Or.inl rfl) ?_
  cases h
  exact J.iret (pc := 9) dX11_fault_9 rfl ⟨rfl, rfl, hN3, trivial⟩
def fX11_lays_3  : Nat → Nat → Int32 → Int32 → Mem → Option (Mem)
  | 0, _, _, _, _ => none
  | n + 1, v0, v1, v2, μ =>
    if v2 < 0 then
      some μ
    else
      (gR μ v0 7 0).bind fun a1 =>
      (stI μ a1 (μ.2.1 v0 8) ((v1 >>> (v2 &&& 31)) &&& (255 : Int32))).bind fun μ4 =>
      (some (sI μ4 v0 8 ((μ4.2.1 v0 8) + (1 : Int32)))).bind fun μ7 =>
      (fX11_lays_3 n) v0 v1 (v2 + (-8 : Int32)) μ7
set_option maxHeartbeats 4000000 in
theorem tX11_lays_3 {ω : Wd} {l : Launch} (d : Nat) {res : Mem} : ∀ n : Nat, ∀ (v0 : Nat) (v1 : Int32) (v2 : Int32) (μ : Mem), fX11_lays_3 n v0 v1 v2 μ = some res → μ.1 = NN → (kd v0).1 = 21 → J ω l mX11_lays d 3 [(0, .ref v0), (1, .int v1), (2, .int v2)] [] μ 0 0 (PE (.inl none) res True) := by
  intro n
  induction n with
  | zero =>
    intro v0 v1 v2 μ h hN k0
    have h9 : (none : Option (Mem)) = some res := h
    cases h9
  | succ n ih =>
    intro v0 v1 v2 μ h hN k0
    unfold fX11_lays_3 at h
    refine J.iload_n (pc := 3) dX11_lays_3 rfl 2 rfl ?_
    rcases ifc h with ⟨hc, h⟩ | ⟨hc, h⟩
    · refine J.zlt (pc := 4) (tgt := 39) dX11_lays_4 (by decide) (fun _ => ?_) (fun q => absurd hc q)
      cases h
      exact J.vret (pc := 39) dX11_lays_39 rfl ⟨rfl, rfl, hN, trivial⟩
    · refine J.zlt (pc := 4) (tgt := 39) dX11_lays_4 (by decide) (fun q => absurd q hc) (fun _ => ?_)
      refine J.aload_n (pc := 7) dX11_lays_7 rfl 0 rfl ?_
      obtain ⟨a1, e2, h⟩ := bnd h
      have k3 : (kd a1).1 = 0 := gR_k e2
      refine J.fR (pc := 8) dX11_lays_8 fl_RX11_23 k0 (okN hN k0 (by decide)) rfl e2 ?_
      refine J.aload_n (pc := 11) dX11_lays_11 rfl 0 rfl ?_
      refine J.fI (pc := 12) dX11_lays_12 fl_RX11_102 k0 (okN hN k0 (by decide)) (Or.inl rfl) ?_
      refine J.iload_n (pc := 15) dX11_lays_15 rfl 1 rfl ?_
      refine J.iload_n (pc := 16) dX11_lays_16 rfl 2 rfl ?_
      refine J.ishr (pc := 17) dX11_lays_17 ?_
      refine J.sipush (pc := 18) dX11_lays_18 is_255 ?_
      refine J.iand (pc := 21) dX11_lays_21 ?_
      obtain ⟨μ4, e5, h⟩ := bnd h
      have hN6 : μ4.1 = NN := stI_N e5 hN
      refine J.wI (pc := 22) dX11_lays_22 k3 (okN hN k3 (by decide)) e5 ?_
      refine J.aload_n (pc := 23) dX11_lays_23 rfl 0 rfl ?_
      refine J.dup (pc := 24) dX11_lays_24 rfl ?_
      refine J.fI (pc := 25) dX11_lays_25 fl_RX11_102 k0 (okN hN6 k0 (by decide)) (Or.inl rfl) ?_
      refine J.iconst (pc := 28) dX11_lays_28 ic_1 ?_
      refine J.iadd (pc := 29) dX11_lays_29 ?_
      obtain ⟨μ7, e8, h⟩ := bnd h
      have hN9 : μ7.1 = NN := smN e8 hN6
      refine J.qI (pc := 30) dX11_lays_30 fl_RX11_102 k0 (okN hN6 k0 (by decide)) rfl rfl e8 ?_
      refine J.iinc (pc := 33) (j := 2) ([(2, .int (v2 + (-8 : Int32))), (0, .ref v0), (1, .int v1)]) dX11_lays_33 rfl (iincv ic_m8) (Nat.le_of_ble_eq_true rfl) rfl ?_
      refine J.goto (pc := 36) (tgt := 3) dX11_lays_36 (by decide) ?_
      refine J.pick [1, 2, 0] rfl ?_
      exact ih v0 v1 (v2 + (-8 : Int32)) μ7 h hN9 k0
def fX11_lays (v0 : Nat) (v1 : Int32) (μ : Mem) : Option (Mem) :=
  (fX11_lays_3 fuel) v0 v1 (24 : Int32) μ
set_option maxHeartbeats 4000000 in
theorem tX11_lays {ω : Wd} {l : Launch} (d : Nat) {v0 : Nat} {v1 : Int32} {μ : Mem} {res : Mem} (h : fX11_lays v0 v1 μ = some res) (hN : μ.1 = NN) (k0 : (kd v0).1 = 21) : Ct ω l mX11_lays d [.ref v0, .int v1] μ 0 0 (PE (.inl none) res True) := by
  refine Ct.of pn_RX11 (Nat.le_of_ble_eq_true rfl) ?_
  show J ω l mX11_lays d 0 [(0, .ref v0), (1, .int v1)] [] μ 0 0 _
  unfold fX11_lays at h
  refine J.bipush (pc := 0) dX11_lays_0 ib_24 ?_
  refine J.istore_n (pc := 2) ([(2, .int (24 : Int32)), (0, .ref v0), (1, .int v1)]) dX11_lays_2 rfl (Nat.le_of_ble_eq_true rfl) rfl ?_
  refine J.pick [1, 2, 0] rfl ?_
  exact (tX11_lays_3 d fuel) v0 v1 (24 : Int32) μ h hN k0
def fX11_feed (v0 : Nat) (v1 : Int32) (v2 : Int32) (v3 : Int32) (v4 : Int32) (v5 : Int32) (μ : Mem) : Option (Int32 × Mem) :=
  (some (sI μ v0 0 (0 : Int32))).bind fun μ1 =>
  if (700 : Int32) < ((μ1.2.1 v0 8) + (20 : Int32)) then
    some ((-1 : Int32), μ1)
  else
    (fX11_lays v0 v1 μ1).bind fun μ5 =>
    (fX11_lays v0 v2 μ5).bind fun μ9 =>
    (fX11_lays v0 v3 μ9).bind fun μ13 =>
    (fX11_lays v0 v4 μ13).bind fun μ17 =>
    (fX11_lays v0 v5 μ17).bind fun μ21 =>
    some ((μ21.2.1 v0 8), μ21)
set_option maxHeartbeats 4000000 in
theorem tX11_feed {ω : Wd} {l : Launch} (d : Nat) {v0 : Nat} {v1 : Int32} {v2 : Int32} {v3 : Int32} {v4 : Int32} {v5 : Int32} {μ : Mem} {res : Int32 × Mem} (h : fX11_feed v0 v1 v2 v3 v4 v5 μ = some res) (hN : μ.1 = NN) (k0 : (kd v0).1 = 21) : Ct ω l mX11_feed (d + 1) [.ref v0, .int v1, .int v2, .int v3, .int v4, .int v5] μ 0 0 (PE (.inl (some (.int res.1))) res.2 True) := by
  refine Ct.of pn_RX11 (Nat.le_of_ble_eq_true rfl) ?_
  show J ω l mX11_feed (d + 1) 0 [(0, .ref v0), (1, .int v1), (2, .int v2), (3, .int v3), (4, .int v4), (5, .int v5)] [] μ 0 0 _
  unfold fX11_feed at h
  refine J.aload_n (pc := 0) dX11_feed_0 rfl 0 rfl ?_
  refine J.iconst (pc := 1) dX11_feed_1 ic_0 ?_
  obtain ⟨μ1, e2, h⟩ := bnd h
  have hN3 : μ1.1 = NN := smN e2 hN
  refine J.qI (pc := 2) dX11_feed_2 fl_RX11_99 k0 (okN hN k0 (by decide)) rfl rfl e2 ?_
  refine J.aload_n (pc := 5) dX11_feed_5 rfl 0 rfl ?_
  refine J.fI (pc := 6) dX11_feed_6 fl_RX11_102 k0 (okN hN3 k0 (by decide)) (Or.inl rfl) ?_
  refine J.bipush (pc := 9) dX11_feed_9 ib_20 ?_
  refine J.iadd (pc := 11) dX11_feed_11 ?_
  refine J.sipush (pc := 12) dX11_feed_12 is_700 ?_
  rcases ifc h with ⟨hc, h⟩ | ⟨hc, h⟩
  · refine J.cle (pc := 15) (tgt := 20) dX11_feed_15 (by decide) (fun _ => ?_) (fun q => absurd hc q)
    refine J.iconst (pc := 18) dX11_feed_18 ic_m1 ?_
    cases h
    exact J.iret (pc := 19) dX11_feed_19 rfl ⟨rfl, rfl, hN3, trivial⟩
  · refine J.cle (pc := 15) (tgt := 20) dX11_feed_15 (by decide) (fun q => absurd q hc) (fun _ => ?_)
    refine J.aload_n (pc := 20) dX11_feed_20 rfl 0 rfl ?_
    refine J.iload_n (pc := 21) dX11_feed_21 rfl 1 rfl ?_
    obtain ⟨μ5, e4, h⟩ := bnd h
    refine J.callV (Y := mX11_feed) (Z := mX11_lays) (pc := 22) (st := []) (k2 := 0) (n2 := 0) dX11_feed_22 ml_RX11_105 mo_X11_lays mv_X11_lays rfl (tX11_lays d e4 hN3 k0) k0 (okN hN3 k0 (by decide)).1 (okN hN3 k0 (by decide)).2 cq_11 (by decide) rfl rfl (Nat.le_of_ble_eq_true rfl) (by decide) (by decide) (fun v ν hp => ?_) (fun i ν hp => nrm hp.1)
    obtain ⟨rfl, rfl, hN6, hb7⟩ := QEl hp
    show J _ _ _ _ 25 _ ([]) _ _ _ _
    refine J.aload_n (pc := 25) dX11_feed_25 rfl 0 rfl ?_
    refine J.iload_n (pc := 26) dX11_feed_26 rfl 2 rfl ?_
    obtain ⟨μ9, e8, h⟩ := bnd h
    refine J.callV (Y := mX11_feed) (Z := mX11_lays) (pc := 27) (st := []) (k2 := 0) (n2 := 0) dX11_feed_27 ml_RX11_105 mo_X11_lays mv_X11_lays rfl (tX11_lays d e8 hN6 k0) k0 (okN hN6 k0 (by decide)).1 (okN hN6 k0 (by decide)).2 cq_11 (by decide) rfl rfl (Nat.le_of_ble_eq_true rfl) (by decide) (by decide) (fun v ν hp => ?_) (fun i ν hp => nrm hp.1)
    obtain ⟨rfl, rfl, hN10, hb11⟩ := QEl hp
    show J _ _ _ _ 30 _ ([]) _ _ _ _
    refine J.aload_n (pc := 30) dX11_feed_30 rfl 0 rfl ?_
    refine J.iload_n (pc := 31) dX11_feed_31 rfl 3 rfl ?_
    obtain ⟨μ13, e12, h⟩ := bnd h
    refine J.callV (Y := mX11_feed) (Z := mX11_lays) (pc := 32) (st := []) (k2 := 0) (n2 := 0) dX11_feed_32 ml_RX11_105 mo_X11_lays mv_X11_lays rfl (tX11_lays d e12 hN10 k0) k0 (okN hN10 k0 (by decide)).1 (okN hN10 k0 (by decide)).2 cq_11 (by decide) rfl rfl (Nat.le_of_ble_eq_true rfl) (by decide) (by decide) (fun v ν hp => ?_) (fun i ν hp => nrm hp.1)
    obtain ⟨rfl, rfl, hN14, hb15⟩ := QEl hp
    show J _ _ _ _ 35 _ ([]) _ _ _ _
    refine J.aload_n (pc := 35) dX11_feed_35 rfl 0 rfl ?_
    refine J.iload (pc := 36) dX11_feed_36 4 rfl ?_
    obtain ⟨μ17, e16, h⟩ := bnd h
    refine J.callV (Y := mX11_feed) (Z := mX11_lays) (pc := 38) (st := []) (k2 := 0) (n2 := 0) dX11_feed_38 ml_RX11_105 mo_X11_lays mv_X11_lays rfl (tX11_lays d e16 hN14 k0) k0 (okN hN14 k0 (by decide)).1 (okN hN14 k0 (by decide)).2 cq_11 (by decide) rfl rfl (Nat.le_of_ble_eq_true rfl) (by decide) (by decide) (fun v ν hp => ?_) (fun i ν hp => nrm hp.1)
    obtain ⟨rfl, rfl, hN18, hb19⟩ := QEl hp
    show J _ _ _ _ 41 _ ([]) _ _ _ _
    refine J.aload_n (pc := 41) dX11_feed_41 rfl 0 rfl ?_
    refine J.iload (pc := 42) dX11_feed_42 5 rfl ?_
    obtain ⟨μ21, e20, h⟩ := bnd h
    refine J.callV (Y := mX11_feed) (Z := mX11_lays) (pc := 44) (st := []) (k2 := 0) (n2 := 0) dX11_feed_44 ml_RX11_105 mo_X11_lays mv_X11_lays rfl (tX11_lays d e20 hN18 k0) k0 (okN hN18 k0 (by decide)).1 (okN hN18 k0 (by decide)).2 cq_11 (by decide) rfl rfl (Nat.le_of_ble_eq_true rfl) (by decide) (by decide) (fun v ν hp => ?_) (fun i ν hp => nrm hp.1)
    obtain ⟨rfl, rfl, hN22, hb23⟩ := QEl hp
    show J _ _ _ _ 47 _ ([]) _ _ _ _
    refine J.aload_n (pc := 47) dX11_feed_47 rfl 0 rfl ?_
    refine J.fI (pc := 48) dX11_feed_48 fl_RX11_102 k0 (okN hN22 k0 (by decide)) (Or.inl rfl) ?_
    cases h
    exact J.iret (pc := 51) dX11_feed_51 rfl ⟨rfl, rfl, hN22, trivial⟩
def fX11_forget (v0 : Nat) (μ : Mem) : Option (Mem) :=
  (some (sI μ v0 0 (0 : Int32))).bind fun μ1 =>
  (some (sI μ1 v0 49 (0 : Int32))).bind fun μ4 =>
  some μ4
set_option maxHeartbeats 4000000 in
theorem tX11_forget {ω : Wd} {l : Launch} (d : Nat) {v0 : Nat} {μ : Mem} {res : Mem} (h : fX11_forget v0 μ = some res) (hN : μ.1 = NN) (k0 : (kd v0).1 = 21) : Ct ω l mX11_forget d [.ref v0] μ 0 0 (PE (.inl none) res True) := by
  refine Ct.of pn_RX11 (Nat.le_of_ble_eq_true rfl) ?_
  show J ω l mX11_forget d 0 [(0, .ref v0)] [] μ 0 0 _
  unfold fX11_forget at h
  refine J.aload_n (pc := 0) dX11_forget_0 rfl 0 rfl ?_
  refine J.iconst (pc := 1) dX11_forget_1 ic_0 ?_
  obtain ⟨μ1, e2, h⟩ := bnd h
  have hN3 : μ1.1 = NN := smN e2 hN
  refine J.qI (pc := 2) dX11_forget_2 fl_RX11_99 k0 (okN hN k0 (by decide)) rfl rfl e2 ?_
  refine J.aload_n (pc := 5) dX11_forget_5 rfl 0 rfl ?_
  refine J.iconst (pc := 6) dX11_forget_6 ic_0 ?_
  obtain ⟨μ4, e5, h⟩ := bnd h
  have hN6 : μ4.1 = NN := smN e5 hN3
  refine J.qI (pc := 7) dX11_forget_7 fl_RX11_286 k0 (okN hN3 k0 (by decide)) rfl rfl e5 ?_
  cases h
  exact J.vret (pc := 10) dX11_forget_10 rfl ⟨rfl, rfl, hN6, trivial⟩
def fX11_gains_43  : Nat → Nat → Int32 → Int32 → Int32 → Mem → Option (Int32 × Mem)
  | 0, _, _, _, _, _ => none
  | n + 1, v0, v1, v5, v6, μ =>
    if v6 < (6 : Int32) then
      (fX11_dayGoes v0 (79 : Int32) μ).bind fun μ2 =>
      (fX11_gains_43 n) v0 v1 (v5 ||| (μ2.2.1 v0 42)) (v6 + (1 : Int32)) μ2
    else
      (gR μ v0 34 0).bind fun a5 =>
      (ldI μ a5 ((146 : Int32) + v1)).bind fun x8 =>
      (gR μ v0 34 0).bind fun a10 =>
      (ldI μ a10 ((67 : Int32) + v1)).bind fun x13 =>
      some ((((2 : Int32) * (x8 - x13)) + ((5 : Int32) * ((v5 >>> (v1 &&& 31)) &&& (1 : Int32)))), μ)
set_option maxHeartbeats 4000000 in
theorem tX11_gains_43 {ω : Wd} {l : Launch} (d : Nat) {res : Int32 × Mem} : ∀ n : Nat, ∀ (v0 : Nat) (v1 : Int32) (v5 : Int32) (v6 : Int32) (μ : Mem), fX11_gains_43 n v0 v1 v5 v6 μ = some res → μ.1 = NN → (kd v0).1 = 21 → J ω l mX11_gains (d + 5) 43 [(0, .ref v0), (1, .int v1), (5, .int v5), (6, .int v6)] [] μ 0 0 (PE (.inl (some (.int res.1))) res.2 True) := by
  intro n
  induction n with
  | zero =>
    intro v0 v1 v5 v6 μ h hN k0
    have h9 : (none : Option (Int32 × Mem)) = some res := h
    cases h9
  | succ n ih =>
    intro v0 v1 v5 v6 μ h hN k0
    unfold fX11_gains_43 at h
    refine J.iload (pc := 43) dX11_gains_43 3 rfl ?_
    refine J.bipush (pc := 45) dX11_gains_45 ib_6 ?_
    rcases ifc h with ⟨hc, h⟩ | ⟨hc, h⟩
    · refine J.cge (pc := 47) (tgt := 71) dX11_gains_47 (by decide) (fun _ => ?_) (fun q => absurd hc q)
      refine J.aload_n (pc := 50) dX11_gains_50 rfl 0 rfl ?_
      refine J.bipush (pc := 51) dX11_gains_51 ib_79 ?_
      obtain ⟨μ2, e1, h⟩ := bnd h
      refine J.callV (Y := mX11_gains) (Z := mX11_dayGoes) (pc := 53) (st := []) (k2 := 0) (n2 := 0) dX11_gains_53 ml_RX11_341 mo_X11_dayGoes mv_X11_dayGoes rfl (tX11_dayGoes d e1 hN k0) k0 (okN hN k0 (by decide)).1 (okN hN k0 (by decide)).2 cq_11 (by decide) rfl rfl (Nat.le_of_ble_eq_true rfl) (by decide) (by decide) (fun v ν hp => ?_) (fun i ν hp => nrm hp.1)
      obtain ⟨rfl, rfl, hN3, hb4⟩ := QEl hp
      show J _ _ _ _ 56 _ ([]) _ _ _ _
      refine J.iload (pc := 56) dX11_gains_56 2 rfl ?_
      refine J.aload_n (pc := 58) dX11_gains_58 rfl 0 rfl ?_
      refine J.fI (pc := 59) dX11_gains_59 fl_RX11_323 k0 (okN hN3 k0 (by decide)) (Or.inl rfl) ?_
      refine J.ior (pc := 62) dX11_gains_62 ?_
      refine J.istore (pc := 63) ([(5, .int (v5 ||| (μ2.2.1 v0 42))), (0, .ref v0), (1, .int v1), (6, .int v6)]) dX11_gains_63 (Nat.le_of_ble_eq_true rfl) rfl ?_
      refine J.iinc (pc := 65) (j := 3) ([(6, .int (v6 + (1 : Int32))), (5, .int (v5 ||| (μ2.2.1 v0 42))), (0, .ref v0), (1, .int v1)]) dX11_gains_65 rfl (iincv ic_1) (Nat.le_of_ble_eq_true rfl) rfl ?_
      refine J.goto (pc := 68) (tgt := 43) dX11_gains_68 (by decide) ?_
      refine J.pick [2, 3, 1, 0] rfl ?_
      exact ih v0 v1 (v5 ||| (μ2.2.1 v0 42)) (v6 + (1 : Int32)) μ2 h hN3 k0
    · refine J.cge (pc := 47) (tgt := 71) dX11_gains_47 (by decide) (fun q => absurd q hc) (fun _ => ?_)
      refine J.iconst (pc := 71) dX11_gains_71 ic_2 ?_
      refine J.aload_n (pc := 72) dX11_gains_72 rfl 0 rfl ?_
      obtain ⟨a5, e6, h⟩ := bnd h
      have k7 : (kd a5).1 = 0 := gR_k e6
      refine J.fR (pc := 73) dX11_gains_73 fl_RX11_48 k0 (okN hN k0 (by decide)) rfl e6 ?_
      refine J.sipush (pc := 76) dX11_gains_76 is_146 ?_
      refine J.iload_n (pc := 79) dX11_gains_79 rfl 1 rfl ?_
      refine J.iadd (pc := 80) dX11_gains_80 ?_
      obtain ⟨x8, e9, h⟩ := bnd h
      refine J.aI (pc := 81) dX11_gains_81 k7 (okN hN k7 (by decide)) e9 ?_
      refine J.aload_n (pc := 82) dX11_gains_82 rfl 0 rfl ?_
      obtain ⟨a10, e11, h⟩ := bnd h
      have k12 : (kd a10).1 = 0 := gR_k e11
      refine J.fR (pc := 83) dX11_gains_83 fl_RX11_48 k0 (okN hN k0 (by decide)) rfl e11 ?_
      refine J.bipush (pc := 86) dX11_gains_86 ib_67 ?_
      refine J.iload_n (pc := 88) dX11_gains_88 rfl 1 rfl ?_
      refine J.iadd (pc := 89) dX11_gains_89 ?_
      obtain ⟨x13, e14, h⟩ := bnd h
      refine J.aI (pc := 90) dX11_gains_90 k12 (okN hN k12 (by decide)) e14 ?_
      refine J.isub (pc := 91) dX11_gains_91 ?_
      refine J.imul (pc := 92) dX11_gains_92 ?_
      refine J.iconst (pc := 93) dX11_gains_93 ic_5 ?_
      refine J.iload (pc := 94) dX11_gains_94 2 rfl ?_
      refine J.iload_n (pc := 96) dX11_gains_96 rfl 1 rfl ?_
      refine J.ishr (pc := 97) dX11_gains_97 ?_
      refine J.iconst (pc := 98) dX11_gains_98 ic_1 ?_
      refine J.iand (pc := 99) dX11_gains_99 ?_
      refine J.imul (pc := 100) dX11_gains_100 ?_
      refine J.iadd (pc := 101) dX11_gains_101 ?_
      cases h
      exact J.iret (pc := 102) dX11_gains_102 rfl ⟨rfl, rfl, hN, trivial⟩
def fX11_gains (v0 : Nat) (v1 : Int32) (v2 : Int32) (v3 : Int32) (v4 : Int32) (μ : Mem) : Option (Int32 × Mem) :=
  (fX11_tries v0 μ).bind fun μ2 =>
  if v3 = (1 : Int32) then
    (gR μ2 v0 34 0).bind fun a5 =>
    (stI μ2 a5 ((140 : Int32) + v1) (-1 : Int32)).bind fun μ8 =>
    if v4 = (1 : Int32) then
      (gR μ8 v0 34 0).bind fun a11 =>
      (stI μ8 a11 ((140 : Int32) + v2) (-1 : Int32)).bind fun μ14 =>
      (fX11_gains_43 fuel) v0 v1 (0 : Int32) (0 : Int32) μ14
    else
      (fX11_gains_43 fuel) v0 v1 (0 : Int32) (0 : Int32) μ8
  else
    if v4 = (1 : Int32) then
      (gR μ2 v0 34 0).bind fun a17 =>
      (stI μ2 a17 ((140 : Int32) + v2) (-1 : Int32)).bind fun μ20 =>
      (fX11_gains_43 fuel) v0 v1 (0 : Int32) (0 : Int32) μ20
    else
      (fX11_gains_43 fuel) v0 v1 (0 : Int32) (0 : Int32) μ2
set_option maxHeartbeats 4000000 in
theorem tX11_gains {ω : Wd} {l : Launch} (d : Nat) {v0 : Nat} {v1 : Int32} {v2 : Int32} {v3 : Int32} {v4 : Int32} {μ : Mem} {res : Int32 × Mem} (h : fX11_gains v0 v1 v2 v3 v4 μ = some res) (hN : μ.1 = NN) (k0 : (kd v0).1 = 21) : Ct ω l mX11_gains (d + 5) [.ref v0, .int v1, .int v2, .int v3, .int v4] μ 0 0 (PE (.inl (some (.int res.1))) res.2 True) := by
  refine Ct.of pn_RX11 (Nat.le_of_ble_eq_true rfl) ?_
  show J ω l mX11_gains (d + 5) 0 [(0, .ref v0), (1, .int v1), (2, .int v2), (3, .int v3), (4, .int v4)] [] μ 0 0 _
  unfold fX11_gains at h
  refine J.aload_n (pc := 0) dX11_gains_0 rfl 0 rfl ?_
  obtain ⟨μ2, e1, h⟩ := bnd h
  refine J.callV (Y := mX11_gains) (Z := mX11_tries) (pc := 1) (st := []) (k2 := 0) (n2 := 0) dX11_gains_1 ml_RX11_389 mo_X11_tries mv_X11_tries rfl (tX11_tries (d + 4) e1 hN k0) k0 (okN hN k0 (by decide)).1 (okN hN k0 (by decide)).2 cq_11 (by decide) rfl rfl (Nat.le_of_ble_eq_true rfl) (by decide) (by decide) (fun v ν hp => ?_) (fun i ν hp => nrm hp.1)
  obtain ⟨rfl, rfl, hN3, hb4⟩ := QEl hp
  show J _ _ _ _ 4 _ ([]) _ _ _ _
  refine J.iload_n (pc := 4) dX11_gains_4 rfl 3 rfl ?_
  refine J.iconst (pc := 5) dX11_gains_5 ic_1 ?_
  rcases ifc h with ⟨hc, h⟩ | ⟨hc, h⟩
  · refine J.cne (pc := 6) (tgt := 20) dX11_gains_6 (by decide) (fun _ => ?_) (fun q => absurd hc q)
    refine J.aload_n (pc := 9) dX11_gains_9 rfl 0 rfl ?_
    obtain ⟨a5, e6, h⟩ := bnd h
    have k7 : (kd a5).1 = 0 := gR_k e6
    refine J.fR (pc := 10) dX11_gains_10 fl_RX11_48 k0 (okN hN3 k0 (by decide)) rfl e6 ?_
    refine J.sipush (pc := 13) dX11_gains_13 is_140 ?_
    refine J.iload_n (pc := 16) dX11_gains_16 rfl 1 rfl ?_
    refine J.iadd (pc := 17) dX11_gains_17 ?_
    refine J.iconst (pc := 18) dX11_gains_18 ic_m1 ?_
    obtain ⟨μ8, e9, h⟩ := bnd h
    have hN10 : μ8.1 = NN := stI_N e9 hN3
    refine J.wI (pc := 19) dX11_gains_19 k7 (okN hN3 k7 (by decide)) e9 ?_
    refine J.iload (pc := 20) dX11_gains_20 4 rfl ?_
    refine J.iconst (pc := 22) dX11_gains_22 ic_1 ?_
    rcases ifc h with ⟨hc, h⟩ | ⟨hc, h⟩
    · refine J.cne (pc := 23) (tgt := 37) dX11_gains_23 (by decide) (fun _ => ?_) (fun q => absurd hc q)
      refine J.aload_n (pc := 26) dX11_gains_26 rfl 0 rfl ?_
      obtain ⟨a11, e12, h⟩ := bnd h
      have k13 : (kd a11).1 = 0 := gR_k e12
      refine J.fR (pc := 27) dX11_gains_27 fl_RX11_48 k0 (okN hN10 k0 (by decide)) rfl e12 ?_
      refine J.sipush (pc := 30) dX11_gains_30 is_140 ?_
      refine J.iload_n (pc := 33) dX11_gains_33 rfl 2 rfl ?_
      refine J.iadd (pc := 34) dX11_gains_34 ?_
      refine J.iconst (pc := 35) dX11_gains_35 ic_m1 ?_
      obtain ⟨μ14, e15, h⟩ := bnd h
      have hN16 : μ14.1 = NN := stI_N e15 hN10
      refine J.wI (pc := 36) dX11_gains_36 k13 (okN hN10 k13 (by decide)) e15 ?_
      refine J.iconst (pc := 37) dX11_gains_37 ic_0 ?_
      refine J.istore (pc := 38) ([(5, .int (0 : Int32)), (0, .ref v0), (1, .int v1), (2, .int v2), (3, .int v3), (4, .int v4)]) dX11_gains_38 (Nat.le_of_ble_eq_true rfl) rfl ?_
      refine J.iconst (pc := 40) dX11_gains_40 ic_0 ?_
      refine J.istore (pc := 41) ([(6, .int (0 : Int32)), (5, .int (0 : Int32)), (0, .ref v0), (1, .int v1), (2, .int v2), (3, .int v3), (4, .int v4)]) dX11_gains_41 (Nat.le_of_ble_eq_true rfl) rfl ?_
      refine J.pick [2, 3, 1, 0] rfl ?_
      exact (tX11_gains_43 d fuel) v0 v1 (0 : Int32) (0 : Int32) μ14 h hN16 k0
    · refine J.cne (pc := 23) (tgt := 37) dX11_gains_23 (by decide) (fun q => absurd q hc) (fun _ => ?_)
      refine J.iconst (pc := 37) dX11_gains_37 ic_0 ?_
      refine J.istore (pc := 38) ([(5, .int (0 : Int32)), (0, .ref v0), (1, .int v1), (2, .int v2), (3, .int v3), (4, .int v4)]) dX11_gains_38 (Nat.le_of_ble_eq_true rfl) rfl ?_
      refine J.iconst (pc := 40) dX11_gains_40 ic_0 ?_
      refine J.istore (pc := 41) ([(6, .int (0 : Int32)), (5, .int (0 : Int32)), (0, .ref v0), (1, .int v1), (2, .int v2), (3, .int v3), (4, .int v4)]) dX11_gains_41 (Nat.le_of_ble_eq_true rfl) rfl ?_
      refine J.pick [2, 3, 1, 0] rfl ?_
      exact (tX11_gains_43 d fuel) v0 v1 (0 : Int32) (0 : Int32) μ8 h hN10 k0
  · refine J.cne (pc := 6) (tgt := 20) dX11_gains_6 (by decide) (fun q => absurd q hc) (fun _ => ?_)
    refine J.iload (pc := 20) dX11_gains_20 4 rfl ?_
    refine J.iconst (pc := 22) dX11_gains_22 ic_1 ?_
    rcases ifc h with ⟨hc, h⟩ | ⟨hc, h⟩
    · refine J.cne (pc := 23) (tgt := 37) dX11_gains_23 (by decide) (fun _ => ?_) (fun q => absurd hc q)
      refine J.aload_n (pc := 26) dX11_gains_26 rfl 0 rfl ?_
      obtain ⟨a17, e18, h⟩ := bnd h
      have k19 : (kd a17).1 = 0 := gR_k e18
      refine J.fR (pc := 27) dX11_gains_27 fl_RX11_48 k0 (okN hN3 k0 (by decide)) rfl e18 ?_
      refine J.sipush (pc := 30) dX11_gains_30 is_140 ?_
      refine J.iload_n (pc := 33) dX11_gains_33 rfl 2 rfl ?_
      refine J.iadd (pc := 34) dX11_gains_34 ?_
      refine J.iconst (pc := 35) dX11_gains_35 ic_m1 ?_
      obtain ⟨μ20, e21, h⟩ := bnd h
      have hN22 : μ20.1 = NN := stI_N e21 hN3
      refine J.wI (pc := 36) dX11_gains_36 k19 (okN hN3 k19 (by decide)) e21 ?_
      refine J.iconst (pc := 37) dX11_gains_37 ic_0 ?_
      refine J.istore (pc := 38) ([(5, .int (0 : Int32)), (0, .ref v0), (1, .int v1), (2, .int v2), (3, .int v3), (4, .int v4)]) dX11_gains_38 (Nat.le_of_ble_eq_true rfl) rfl ?_
      refine J.iconst (pc := 40) dX11_gains_40 ic_0 ?_
      refine J.istore (pc := 41) ([(6, .int (0 : Int32)), (5, .int (0 : Int32)), (0, .ref v0), (1, .int v1), (2, .int v2), (3, .int v3), (4, .int v4)]) dX11_gains_41 (Nat.le_of_ble_eq_true rfl) rfl ?_
      refine J.pick [2, 3, 1, 0] rfl ?_
      exact (tX11_gains_43 d fuel) v0 v1 (0 : Int32) (0 : Int32) μ20 h hN22 k0
    · refine J.cne (pc := 23) (tgt := 37) dX11_gains_23 (by decide) (fun q => absurd q hc) (fun _ => ?_)
      refine J.iconst (pc := 37) dX11_gains_37 ic_0 ?_
      refine J.istore (pc := 38) ([(5, .int (0 : Int32)), (0, .ref v0), (1, .int v1), (2, .int v2), (3, .int v3), (4, .int v4)]) dX11_gains_38 (Nat.le_of_ble_eq_true rfl) rfl ?_
      refine J.iconst (pc := 40) dX11_gains_40 ic_0 ?_
      refine J.istore (pc := 41) ([(6, .int (0 : Int32)), (5, .int (0 : Int32)), (0, .ref v0), (1, .int v1), (2, .int v2), (3, .int v3), (4, .int v4)]) dX11_gains_41 (Nat.le_of_ble_eq_true rfl) rfl ?_
      refine J.pick [2, 3, 1, 0] rfl ?_
      exact (tX11_gains_43 d fuel) v0 v1 (0 : Int32) (0 : Int32) μ2 h hN3 k0
def fX11_game_87  : Nat → Nat → Int32 → Int32 → Int32 → Int32 → Int32 → Int32 → Mem → Option (Int32 × Mem)
  | 0, _, _, _, _, _, _, _, _ => none
  | n + 1, v0, v1, v2, v3, v4, v5, v6, μ =>
    if v6 < (4 : Int32) then
      (fX11_gains v0 v1 v2 ((1 : Int32) - (v6 / (2 : Int32))) (v6 - v6 / (2 : Int32) * (2 : Int32)) μ).bind fun (r3, μ2) =>
      (fX11_gains v0 v1 v2 (v6 / (2 : Int32)) (v6 - v6 / (2 : Int32) * (2 : Int32)) μ2).bind fun (r8, μ7) =>
      if r8 < r3 then
        (fX11_game_87 n) v0 v1 v2 v3 v4 v5 (v6 + (1 : Int32)) μ7
      else
        (fX11_gains v0 v2 v1 ((1 : Int32) - (v6 - v6 / (2 : Int32) * (2 : Int32))) (v6 / (2 : Int32)) μ7).bind fun (r13, μ12) =>
        (fX11_gains v0 v2 v1 (v6 - v6 / (2 : Int32) * (2 : Int32)) (v6 / (2 : Int32)) μ12).bind fun (r18, μ17) =>
        if r18 < r13 then
          (fX11_game_87 n) v0 v1 v2 v3 v4 v5 (v6 + (1 : Int32)) μ17
        else
          if v5 = (-1 : Int32) then
            (fX11_game_87 n) v0 v1 v2 v3 (v4 + (1 : Int32)) (((10 : Int32) * (v6 / (2 : Int32))) + (v6 - v6 / (2 : Int32) * (2 : Int32))) (v6 + (1 : Int32)) μ17
          else
            (fX11_game_87 n) v0 v1 v2 v3 (v4 + (1 : Int32)) v5 (v6 + (1 : Int32)) μ17
    else
      if v3 = 0 then
        some (v4, μ)
      else
        some (v5, μ)
set_option maxHeartbeats 4000000 in
theorem tX11_game_87 {ω : Wd} {l : Launch} (d : Nat) {res : Int32 × Mem} : ∀ n : Nat, ∀ (v0 : Nat) (v1 : Int32) (v2 : Int32) (v3 : Int32) (v4 : Int32) (v5 : Int32) (v6 : Int32) (μ : Mem), fX11_game_87 n v0 v1 v2 v3 v4 v5 v6 μ = some res → μ.1 = NN → (kd v0).1 = 21 → J ω l mX11_game (d + 6) 87 [(0, .ref v0), (1, .int v1), (2, .int v2), (3, .int v3), (4, .int v4), (5, .int v5), (6, .int v6)] [] μ 0 0 (PE (.inl (some (.int res.1))) res.2 True) := by
  intro n
  induction n with
  | zero =>
    intro v0 v1 v2 v3 v4 v5 v6 μ h hN k0
    have h9 : (none : Option (Int32 × Mem)) = some res := h
    cases h9
  | succ n ih =>
    intro v0 v1 v2 v3 v4 v5 v6 μ h hN k0
    unfold fX11_game_87 at h
    refine J.iload (pc := 87) dX11_game_87 6 rfl ?_
    refine J.iconst (pc := 89) dX11_game_89 ic_4 ?_
    rcases ifc h with ⟨hc, h⟩ | ⟨hc, h⟩
    · refine J.cge (pc := 90) (tgt := 183) dX11_game_90 (by decide) (fun _ => ?_) (fun q => absurd hc q)
      refine J.iload (pc := 93) dX11_game_93 6 rfl ?_
      refine J.iconst (pc := 95) dX11_game_95 ic_2 ?_
      refine J.idiv (pc := 96) dX11_game_96 (by decide) ?_
      refine J.istore (pc := 97) ([(7, .int (v6 / (2 : Int32))), (0, .ref v0), (1, .int v1), (2, .int v2), (3, .int v3), (4, .int v4), (5, .int v5), (6, .int v6)]) dX11_game_97 (Nat.le_of_ble_eq_true rfl) rfl ?_
      refine J.iload (pc := 99) dX11_game_99 7 rfl ?_
      refine J.iconst (pc := 101) dX11_game_101 ic_2 ?_
      refine J.irem (pc := 102) dX11_game_102 (by decide) ?_
      refine J.istore (pc := 103) ([(8, .int (v6 - v6 / (2 : Int32) * (2 : Int32))), (7, .int (v6 / (2 : Int32))), (0, .ref v0), (1, .int v1), (2, .int v2), (3, .int v3), (4, .int v4), (5, .int v5), (6, .int v6)]) dX11_game_103 (Nat.le_of_ble_eq_true rfl) rfl ?_
      refine J.aload_n (pc := 105) dX11_game_105 rfl 2 rfl ?_
      refine J.iload_n (pc := 106) dX11_game_106 rfl 3 rfl ?_
      refine J.iload_n (pc := 107) dX11_game_107 rfl 4 rfl ?_
      refine J.iconst (pc := 108) dX11_game_108 ic_1 ?_
      refine J.iload (pc := 109) dX11_game_109 1 rfl ?_
      refine J.isub (pc := 111) dX11_game_111 ?_
      refine J.iload (pc := 112) dX11_game_112 0 rfl ?_
      obtain ⟨⟨r3, μ2⟩, e1, h⟩ := bnd h
      try dsimp only at h
      refine J.callV (Y := mX11_game) (Z := mX11_gains) (pc := 114) (st := []) (k2 := 0) (n2 := 0) dX11_game_114 ml_RX11_425 mo_X11_gains mv_X11_gains rfl (tX11_gains d e1 hN k0) k0 (okN hN k0 (by decide)).1 (okN hN k0 (by decide)).2 cq_11 (by decide) rfl rfl (Nat.le_of_ble_eq_true rfl) (by decide) (by decide) (fun v ν hp => ?_) (fun i ν hp => nrm hp.1)
      obtain ⟨rfl, rfl, hN4, hb5⟩ := QEl hp
      show J _ _ _ _ 117 _ ([.int r3]) _ _ _ _
      refine J.aload_n (pc := 117) dX11_game_117 rfl 2 rfl ?_
      refine J.iload_n (pc := 118) dX11_game_118 rfl 3 rfl ?_
      refine J.iload_n (pc := 119) dX11_game_119 rfl 4 rfl ?_
      refine J.iload (pc := 120) dX11_game_120 1 rfl ?_
      refine J.iload (pc := 122) dX11_game_122 0 rfl ?_
      obtain ⟨⟨r8, μ7⟩, e6, h⟩ := bnd h
      try dsimp only at h
      refine J.callV (Y := mX11_game) (Z := mX11_gains) (pc := 124) (st := [.int r3]) (k2 := 0) (n2 := 0) dX11_game_124 ml_RX11_425 mo_X11_gains mv_X11_gains rfl (tX11_gains d e6 hN4 k0) k0 (okN hN4 k0 (by decide)).1 (okN hN4 k0 (by decide)).2 cq_11 (by decide) rfl rfl (Nat.le_of_ble_eq_true rfl) (by decide) (by decide) (fun v ν hp => ?_) (fun i ν hp => nrm hp.1)
      obtain ⟨rfl, rfl, hN9, hb10⟩ := QEl hp
      show J _ _ _ _ 127 _ ([.int r8, .int r3]) _ _ _ _
      rcases ifc h with ⟨hc, h⟩ | ⟨hc, h⟩
      · refine J.cgt (pc := 127) (tgt := 177) dX11_game_127 (by decide) (fun _ => ?_) (fun q => absurd hc q)
        refine J.iinc (pc := 177) (j := 8) ([(6, .int (v6 + (1 : Int32))), (8, .int (v6 - v6 / (2 : Int32) * (2 : Int32))), (7, .int (v6 / (2 : Int32))), (0, .ref v0), (1, .int v1), (2, .int v2), (3, .int v3), (4, .int v4), (5, .int v5)]) dX11_game_177 rfl (iincv ic_1) (Nat.le_of_ble_eq_true rfl) rfl ?_
        refine J.goto (pc := 180) (tgt := 87) dX11_game_180 (by decide) ?_
        refine J.pick [3, 4, 5, 6, 7, 8, 0] rfl ?_
        exact ih v0 v1 v2 v3 v4 v5 (v6 + (1 : Int32)) μ7 h hN9 k0
      · refine J.cgt (pc := 127) (tgt := 177) dX11_game_127 (by decide) (fun q => absurd q hc) (fun _ => ?_)
        refine J.aload_n (pc := 130) dX11_game_130 rfl 2 rfl ?_
        refine J.iload_n (pc := 131) dX11_game_131 rfl 4 rfl ?_
        refine J.iload_n (pc := 132) dX11_game_132 rfl 3 rfl ?_
        refine J.iconst (pc := 133) dX11_game_133 ic_1 ?_
        refine J.iload (pc := 134) dX11_game_134 0 rfl ?_
        refine J.isub (pc := 136) dX11_game_136 ?_
        refine J.iload (pc := 137) dX11_game_137 1 rfl ?_
        obtain ⟨⟨r13, μ12⟩, e11, h⟩ := bnd h
        try dsimp only at h
        refine J.callV (Y := mX11_game) (Z := mX11_gains) (pc := 139) (st := []) (k2 := 0) (n2 := 0) dX11_game_139 ml_RX11_425 mo_X11_gains mv_X11_gains rfl (tX11_gains d e11 hN9 k0) k0 (okN hN9 k0 (by decide)).1 (okN hN9 k0 (by decide)).2 cq_11 (by decide) rfl rfl (Nat.le_of_ble_eq_true rfl) (by decide) (by decide) (fun v ν hp => ?_) (fun i ν hp => nrm hp.1)
        obtain ⟨rfl, rfl, hN14, hb15⟩ := QEl hp
        show J _ _ _ _ 142 _ ([.int r13]) _ _ _ _
        refine J.aload_n (pc := 142) dX11_game_142 rfl 2 rfl ?_
        refine J.iload_n (pc := 143) dX11_game_143 rfl 4 rfl ?_
        refine J.iload_n (pc := 144) dX11_game_144 rfl 3 rfl ?_
        refine J.iload (pc := 145) dX11_game_145 0 rfl ?_
        refine J.iload (pc := 147) dX11_game_147 1 rfl ?_
        obtain ⟨⟨r18, μ17⟩, e16, h⟩ := bnd h
        try dsimp only at h
        refine J.callV (Y := mX11_game) (Z := mX11_gains) (pc := 149) (st := [.int r13]) (k2 := 0) (n2 := 0) dX11_game_149 ml_RX11_425 mo_X11_gains mv_X11_gains rfl (tX11_gains d e16 hN14 k0) k0 (okN hN14 k0 (by decide)).1 (okN hN14 k0 (by decide)).2 cq_11 (by decide) rfl rfl (Nat.le_of_ble_eq_true rfl) (by decide) (by decide) (fun v ν hp => ?_) (fun i ν hp => nrm hp.1)
        obtain ⟨rfl, rfl, hN19, hb20⟩ := QEl hp
        show J _ _ _ _ 152 _ ([.int r18, .int r13]) _ _ _ _
        rcases ifc h with ⟨hc, h⟩ | ⟨hc, h⟩
        · refine J.cle (pc := 152) (tgt := 158) dX11_game_152 (by decide) (fun _ => ?_) (fun q => absurd hc q)
          refine J.goto (pc := 155) (tgt := 177) dX11_game_155 (by decide) ?_
          refine J.iinc (pc := 177) (j := 8) ([(6, .int (v6 + (1 : Int32))), (8, .int (v6 - v6 / (2 : Int32) * (2 : Int32))), (7, .int (v6 / (2 : Int32))), (0, .ref v0), (1, .int v1), (2, .int v2), (3, .int v3), (4, .int v4), (5, .int v5)]) dX11_game_177 rfl (iincv ic_1) (Nat.le_of_ble_eq_true rfl) rfl ?_
          refine J.goto (pc := 180) (tgt := 87) dX11_game_180 (by decide) ?_
          refine J.pick [3, 4, 5, 6, 7, 8, 0] rfl ?_
          exact ih v0 v1 v2 v3 v4 v5 (v6 + (1 : Int32)) μ17 h hN19 k0
        · refine J.cle (pc := 152) (tgt := 158) dX11_game_152 (by decide) (fun q => absurd q hc) (fun _ => ?_)
          refine J.iinc (pc := 158) (j := 6) ([(4, .int (v4 + (1 : Int32))), (8, .int (v6 - v6 / (2 : Int32) * (2 : Int32))), (7, .int (v6 / (2 : Int32))), (0, .ref v0), (1, .int v1), (2, .int v2), (3, .int v3), (5, .int v5), (6, .int v6)]) dX11_game_158 rfl (iincv ic_1) (Nat.le_of_ble_eq_true rfl) rfl ?_
          refine J.iload (pc := 161) dX11_game_161 7 rfl ?_
          refine J.iconst (pc := 163) dX11_game_163 ic_m1 ?_
          rcases ifc h with ⟨hc, h⟩ | ⟨hc, h⟩
          · refine J.cne (pc := 164) (tgt := 177) dX11_game_164 (by decide) (fun _ => ?_) (fun q => absurd hc q)
            refine J.bipush (pc := 167) dX11_game_167 ib_10 ?_
            refine J.iload (pc := 169) dX11_game_169 2 rfl ?_
            refine J.imul (pc := 171) dX11_game_171 ?_
            refine J.iload (pc := 172) dX11_game_172 1 rfl ?_
            refine J.iadd (pc := 174) dX11_game_174 ?_
            refine J.istore (pc := 175) ([(5, .int (((10 : Int32) * (v6 / (2 : Int32))) + (v6 - v6 / (2 : Int32) * (2 : Int32)))), (4, .int (v4 + (1 : Int32))), (8, .int (v6 - v6 / (2 : Int32) * (2 : Int32))), (7, .int (v6 / (2 : Int32))), (0, .ref v0), (1, .int v1), (2, .int v2), (3, .int v3), (6, .int v6)]) dX11_game_175 (Nat.le_of_ble_eq_true rfl) rfl ?_
            refine J.iinc (pc := 177) (j := 8) ([(6, .int (v6 + (1 : Int32))), (5, .int (((10 : Int32) * (v6 / (2 : Int32))) + (v6 - v6 / (2 : Int32) * (2 : Int32)))), (4, .int (v4 + (1 : Int32))), (8, .int (v6 - v6 / (2 : Int32) * (2 : Int32))), (7, .int (v6 / (2 : Int32))), (0, .ref v0), (1, .int v1), (2, .int v2), (3, .int v3)]) dX11_game_177 rfl (iincv ic_1) (Nat.le_of_ble_eq_true rfl) rfl ?_
            refine J.goto (pc := 180) (tgt := 87) dX11_game_180 (by decide) ?_
            refine J.pick [5, 6, 7, 8, 2, 1, 0] rfl ?_
            exact ih v0 v1 v2 v3 (v4 + (1 : Int32)) (((10 : Int32) * (v6 / (2 : Int32))) + (v6 - v6 / (2 : Int32) * (2 : Int32))) (v6 + (1 : Int32)) μ17 h hN19 k0
          · refine J.cne (pc := 164) (tgt := 177) dX11_game_164 (by decide) (fun q => absurd q hc) (fun _ => ?_)
            refine J.iinc (pc := 177) (j := 8) ([(6, .int (v6 + (1 : Int32))), (4, .int (v4 + (1 : Int32))), (8, .int (v6 - v6 / (2 : Int32) * (2 : Int32))), (7, .int (v6 / (2 : Int32))), (0, .ref v0), (1, .int v1), (2, .int v2), (3, .int v3), (5, .int v5)]) dX11_game_177 rfl (iincv ic_1) (Nat.le_of_ble_eq_true rfl) rfl ?_
            refine J.goto (pc := 180) (tgt := 87) dX11_game_180 (by decide) ?_
            refine J.pick [4, 5, 6, 7, 1, 8, 0] rfl ?_
            exact ih v0 v1 v2 v3 (v4 + (1 : Int32)) v5 (v6 + (1 : Int32)) μ17 h hN19 k0
    · refine J.cge (pc := 90) (tgt := 183) dX11_game_90 (by decide) (fun q => absurd q hc) (fun _ => ?_)
      refine J.iload_n (pc := 183) dX11_game_183 rfl 3 rfl ?_
      rcases ifc h with ⟨hc, h⟩ | ⟨hc, h⟩
      · refine J.zne (pc := 184) (tgt := 192) dX11_game_184 (by decide) (fun _ => ?_) (fun q => absurd hc q)
        refine J.iload (pc := 187) dX11_game_187 4 rfl ?_
        refine J.goto (pc := 189) (tgt := 194) dX11_game_189 (by decide) ?_
        cases h
        exact J.iret (pc := 194) dX11_game_194 rfl ⟨rfl, rfl, hN, trivial⟩
      · refine J.zne (pc := 184) (tgt := 192) dX11_game_184 (by decide) (fun q => absurd q hc) (fun _ => ?_)
        refine J.iload (pc := 192) dX11_game_192 5 rfl ?_
        cases h
        exact J.iret (pc := 194) dX11_game_194 rfl ⟨rfl, rfl, hN, trivial⟩
def fX11_game (v0 : Nat) (v1 : Int32) (v2 : Int32) (v3 : Int32) (μ : Mem) : Option (Int32 × Mem) :=
  (some (sI μ v0 0 (0 : Int32))).bind fun μ1 =>
  (fX11_isPerson v0 v1 μ1).bind fun (r6, μ5) =>
  if r6 = 0 then
    some ((0 : Int32), μ5)
  else
    (fX11_isPerson v0 v2 μ5).bind fun (r11, μ10) =>
    if r11 = 0 then
      some ((0 : Int32), μ10)
    else
      (fX11_isWhat v0 v3 (1 : Int32) μ10).bind fun (r16, μ15) =>
      if r16 = 0 then
        some ((0 : Int32), μ15)
      else
        if v1 = v2 then
          (fX11_right v0 (0 : Int32) (2 : Int32) μ15).bind fun (r21, μ20) =>
          if r21 = 0 then
            some ((0 : Int32), μ20)
          else
            (gR μ20 v0 34 0).bind fun a24 =>
            (ldI μ20 a24 ((61 : Int32) + v1)).bind fun x27 =>
            if x27 = (-1 : Int32) then
              some ((-1 : Int32), μ20)
            else
              (gR μ20 v0 34 0).bind fun a29 =>
              (ldI μ20 a29 ((61 : Int32) + v2)).bind fun x32 =>
              if x32 = (-1 : Int32) then
                some ((-1 : Int32), μ20)
              else
                (fX11_game_87 fuel) v0 v1 v2 v3 (0 : Int32) (-1 : Int32) (0 : Int32) μ20
        else
          (fX11_right v0 (1 : Int32) (2 : Int32) μ15).bind fun (r36, μ35) =>
          if r36 = 0 then
            some ((0 : Int32), μ35)
          else
            (gR μ35 v0 34 0).bind fun a39 =>
            (ldI μ35 a39 ((61 : Int32) + v1)).bind fun x42 =>
            if x42 = (-1 : Int32) then
              some ((-1 : Int32), μ35)
            else
              (gR μ35 v0 34 0).bind fun a44 =>
              (ldI μ35 a44 ((61 : Int32) + v2)).bind fun x47 =>
              if x47 = (-1 : Int32) then
                some ((-1 : Int32), μ35)
              else
                (fX11_game_87 fuel) v0 v1 v2 v3 (0 : Int32) (-1 : Int32) (0 : Int32) μ35
set_option maxHeartbeats 4000000 in
theorem tX11_game {ω : Wd} {l : Launch} (d : Nat) {v0 : Nat} {v1 : Int32} {v2 : Int32} {v3 : Int32} {μ : Mem} {res : Int32 × Mem} (h : fX11_game v0 v1 v2 v3 μ = some res) (hN : μ.1 = NN) (k0 : (kd v0).1 = 21) : Ct ω l mX11_game (d + 6) [.ref v0, .int v1, .int v2, .int v3] μ 0 0 (PE (.inl (some (.int res.1))) res.2 True) := by
  refine Ct.of pn_RX11 (Nat.le_of_ble_eq_true rfl) ?_
  show J ω l mX11_game (d + 6) 0 [(0, .ref v0), (1, .int v1), (2, .int v2), (3, .int v3)] [] μ 0 0 _
  unfold fX11_game at h
  refine J.aload_n (pc := 0) dX11_game_0 rfl 0 rfl ?_
  refine J.iconst (pc := 1) dX11_game_1 ic_0 ?_
  obtain ⟨μ1, e2, h⟩ := bnd h
  have hN3 : μ1.1 = NN := smN e2 hN
  refine J.qI (pc := 2) dX11_game_2 fl_RX11_99 k0 (okN hN k0 (by decide)) rfl rfl e2 ?_
  refine J.aload_n (pc := 5) dX11_game_5 rfl 0 rfl ?_
  refine J.iload_n (pc := 6) dX11_game_6 rfl 1 rfl ?_
  obtain ⟨⟨r6, μ5⟩, e4, h⟩ := bnd h
  try dsimp only at h
  refine J.callV (Y := mX11_game) (Z := mX11_isPerson) (pc := 7) (st := []) (k2 := 0) (n2 := 0) dX11_game_7 ml_RX11_368 mo_X11_isPerson mv_X11_isPerson rfl (tX11_isPerson (d + 4) e4 hN3 k0) k0 (okN hN3 k0 (by decide)).1 (okN hN3 k0 (by decide)).2 cq_11 (by decide) rfl rfl (Nat.le_of_ble_eq_true rfl) (by decide) (by decide) (fun v ν hp => ?_) (fun i ν hp => nrm hp.1)
  obtain ⟨rfl, rfl, hN7, hb8⟩ := QEl hp
  show J _ _ _ _ 10 _ ([.int r6]) _ _ _ _
  rcases ifc h with ⟨hc, h⟩ | ⟨hc, h⟩
  · refine J.zeq (pc := 10) (tgt := 48) dX11_game_10 (by decide) (fun _ => ?_) (fun q => absurd hc q)
    refine J.iconst (pc := 48) dX11_game_48 ic_0 ?_
    cases h
    exact J.iret (pc := 49) dX11_game_49 rfl ⟨rfl, rfl, hN7, trivial⟩
  · refine J.zeq (pc := 10) (tgt := 48) dX11_game_10 (by decide) (fun q => absurd q hc) (fun _ => ?_)
    refine J.aload_n (pc := 13) dX11_game_13 rfl 0 rfl ?_
    refine J.iload_n (pc := 14) dX11_game_14 rfl 2 rfl ?_
    obtain ⟨⟨r11, μ10⟩, e9, h⟩ := bnd h
    try dsimp only at h
    refine J.callV (Y := mX11_game) (Z := mX11_isPerson) (pc := 15) (st := []) (k2 := 0) (n2 := 0) dX11_game_15 ml_RX11_368 mo_X11_isPerson mv_X11_isPerson rfl (tX11_isPerson (d + 4) e9 hN7 k0) k0 (okN hN7 k0 (by decide)).1 (okN hN7 k0 (by decide)).2 cq_11 (by decide) rfl rfl (Nat.le_of_ble_eq_true rfl) (by decide) (by decide) (fun v ν hp => ?_) (fun i ν hp => nrm hp.1)
    obtain ⟨rfl, rfl, hN12, hb13⟩ := QEl hp
    show J _ _ _ _ 18 _ ([.int r11]) _ _ _ _
    rcases ifc h with ⟨hc, h⟩ | ⟨hc, h⟩
    · refine J.zeq (pc := 18) (tgt := 48) dX11_game_18 (by decide) (fun _ => ?_) (fun q => absurd hc q)
      refine J.iconst (pc := 48) dX11_game_48 ic_0 ?_
      cases h
      exact J.iret (pc := 49) dX11_game_49 rfl ⟨rfl, rfl, hN12, trivial⟩
    · refine J.zeq (pc := 18) (tgt := 48) dX11_game_18 (by decide) (fun q => absurd q hc) (fun _ => ?_)
      refine J.aload_n (pc := 21) dX11_game_21 rfl 0 rfl ?_
      refine J.iload_n (pc := 22) dX11_game_22 rfl 3 rfl ?_
      refine J.iconst (pc := 23) dX11_game_23 ic_1 ?_
      obtain ⟨⟨r16, μ15⟩, e14, h⟩ := bnd h
      try dsimp only at h
      refine J.callV (Y := mX11_game) (Z := mX11_isWhat) (pc := 24) (st := []) (k2 := 0) (n2 := 0) dX11_game_24 ml_RX11_365 mo_X11_isWhat mv_X11_isWhat rfl (tX11_isWhat (d + 4) e14 hN12 k0) k0 (okN hN12 k0 (by decide)).1 (okN hN12 k0 (by decide)).2 cq_11 (by decide) rfl rfl (Nat.le_of_ble_eq_true rfl) (by decide) (by decide) (fun v ν hp => ?_) (fun i ν hp => nrm hp.1)
      obtain ⟨rfl, rfl, hN17, hb18⟩ := QEl hp
      show J _ _ _ _ 27 _ ([.int r16]) _ _ _ _
      rcases ifc h with ⟨hc, h⟩ | ⟨hc, h⟩
      · refine J.zeq (pc := 27) (tgt := 48) dX11_game_27 (by decide) (fun _ => ?_) (fun q => absurd hc q)
        refine J.iconst (pc := 48) dX11_game_48 ic_0 ?_
        cases h
        exact J.iret (pc := 49) dX11_game_49 rfl ⟨rfl, rfl, hN17, trivial⟩
      · refine J.zeq (pc := 27) (tgt := 48) dX11_game_27 (by decide) (fun q => absurd q hc) (fun _ => ?_)
        refine J.aload_n (pc := 30) dX11_game_30 rfl 0 rfl ?_
        refine J.iload_n (pc := 31) dX11_game_31 rfl 1 rfl ?_
        refine J.iload_n (pc := 32) dX11_game_32 rfl 2 rfl ?_
        rcases ifc h with ⟨hc, h⟩ | ⟨hc, h⟩
        · refine J.ceq (pc := 33) (tgt := 40) dX11_game_33 (by decide) (fun _ => ?_) (fun q => absurd hc q)
          refine J.iconst (pc := 40) dX11_game_40 ic_0 ?_
          refine J.iconst (pc := 41) dX11_game_41 ic_2 ?_
          obtain ⟨⟨r21, μ20⟩, e19, h⟩ := bnd h
          try dsimp only at h
          refine J.callV (Y := mX11_game) (Z := mX11_right) (pc := 42) (st := []) (k2 := 0) (n2 := 0) dX11_game_42 ml_RX11_266 mo_X11_right mv_X11_right rfl (tX11_right (d + 5) e19 hN17 k0) k0 (okN hN17 k0 (by decide)).1 (okN hN17 k0 (by decide)).2 cq_11 (by decide) rfl rfl (Nat.le_of_ble_eq_true rfl) (by decide) (by decide) (fun v ν hp => ?_) (fun i ν hp => nrm hp.1)
          obtain ⟨rfl, rfl, hN22, hb23⟩ := QEl hp
          show J _ _ _ _ 45 _ ([.int r21]) _ _ _ _
          rcases ifc h with ⟨hc, h⟩ | ⟨hc, h⟩
          · refine J.zne (pc := 45) (tgt := 50) dX11_game_45 (by decide) (fun _ => ?_) (fun q => absurd hc q)
            refine J.iconst (pc := 48) dX11_game_48 ic_0 ?_
            cases h
            exact J.iret (pc := 49) dX11_game_49 rfl ⟨rfl, rfl, hN22, trivial⟩
          · refine J.zne (pc := 45) (tgt := 50) dX11_game_45 (by decide) (fun q => absurd q hc) (fun _ => ?_)
            refine J.aload_n (pc := 50) dX11_game_50 rfl 0 rfl ?_
            obtain ⟨a24, e25, h⟩ := bnd h
            have k26 : (kd a24).1 = 0 := gR_k e25
            refine J.fR (pc := 51) dX11_game_51 fl_RX11_48 k0 (okN hN22 k0 (by decide)) rfl e25 ?_
            refine J.bipush (pc := 54) dX11_game_54 ib_61 ?_
            refine J.iload_n (pc := 56) dX11_game_56 rfl 1 rfl ?_
            refine J.iadd (pc := 57) dX11_game_57 ?_
            obtain ⟨x27, e28, h⟩ := bnd h
            refine J.aI (pc := 58) dX11_game_58 k26 (okN hN22 k26 (by decide)) e28 ?_
            refine J.iconst (pc := 59) dX11_game_59 ic_m1 ?_
            rcases ifc h with ⟨hc, h⟩ | ⟨hc, h⟩
            · refine J.ceq (pc := 60) (tgt := 76) dX11_game_60 (by decide) (fun _ => ?_) (fun q => absurd hc q)
              refine J.iconst (pc := 76) dX11_game_76 ic_m1 ?_
              cases h
              exact J.iret (pc := 77) dX11_game_77 rfl ⟨rfl, rfl, hN22, trivial⟩
            · refine J.ceq (pc := 60) (tgt := 76) dX11_game_60 (by decide) (fun q => absurd q hc) (fun _ => ?_)
              refine J.aload_n (pc := 63) dX11_game_63 rfl 0 rfl ?_
              obtain ⟨a29, e30, h⟩ := bnd h
              have k31 : (kd a29).1 = 0 := gR_k e30
              refine J.fR (pc := 64) dX11_game_64 fl_RX11_48 k0 (okN hN22 k0 (by decide)) rfl e30 ?_
              refine J.bipush (pc := 67) dX11_game_67 ib_61 ?_
              refine J.iload_n (pc := 69) dX11_game_69 rfl 2 rfl ?_
              refine J.iadd (pc := 70) dX11_game_70 ?_
              obtain ⟨x32, e33, h⟩ := bnd h
              refine J.aI (pc := 71) dX11_game_71 k31 (okN hN22 k31 (by decide)) e33 ?_
              refine J.iconst (pc := 72) dX11_game_72 ic_m1 ?_
              rcases ifc h with ⟨hc, h⟩ | ⟨hc, h⟩
              · refine J.cne (pc := 73) (tgt := 78) dX11_game_73 (by decide) (fun _ => ?_) (fun q => absurd hc q)
                refine J.iconst (pc := 76) dX11_game_76 ic_m1 ?_
                cases h
                exact J.iret (pc := 77) dX11_game_77 rfl ⟨rfl, rfl, hN22, trivial⟩
              · refine J.cne (pc := 73) (tgt := 78) dX11_game_73 (by decide) (fun q => absurd q hc) (fun _ => ?_)
                refine J.iconst (pc := 78) dX11_game_78 ic_0 ?_
                refine J.istore (pc := 79) ([(4, .int (0 : Int32)), (0, .ref v0), (1, .int v1), (2, .int v2), (3, .int v3)]) dX11_game_79 (Nat.le_of_ble_eq_true rfl) rfl ?_
                refine J.iconst (pc := 81) dX11_game_81 ic_m1 ?_
                refine J.istore (pc := 82) ([(5, .int (-1 : Int32)), (4, .int (0 : Int32)), (0, .ref v0), (1, .int v1), (2, .int v2), (3, .int v3)]) dX11_game_82 (Nat.le_of_ble_eq_true rfl) rfl ?_
                refine J.iconst (pc := 84) dX11_game_84 ic_0 ?_
                refine J.istore (pc := 85) ([(6, .int (0 : Int32)), (5, .int (-1 : Int32)), (4, .int (0 : Int32)), (0, .ref v0), (1, .int v1), (2, .int v2), (3, .int v3)]) dX11_game_85 (Nat.le_of_ble_eq_true rfl) rfl ?_
                refine J.pick [3, 4, 5, 6, 2, 1, 0] rfl ?_
                exact (tX11_game_87 d fuel) v0 v1 v2 v3 (0 : Int32) (-1 : Int32) (0 : Int32) μ20 h hN22 k0
        · refine J.ceq (pc := 33) (tgt := 40) dX11_game_33 (by decide) (fun q => absurd q hc) (fun _ => ?_)
          refine J.iconst (pc := 36) dX11_game_36 ic_1 ?_
          refine J.goto (pc := 37) (tgt := 41) dX11_game_37 (by decide) ?_
          refine J.iconst (pc := 41) dX11_game_41 ic_2 ?_
          obtain ⟨⟨r36, μ35⟩, e34, h⟩ := bnd h
          try dsimp only at h
          refine J.callV (Y := mX11_game) (Z := mX11_right) (pc := 42) (st := []) (k2 := 0) (n2 := 0) dX11_game_42 ml_RX11_266 mo_X11_right mv_X11_right rfl (tX11_right (d + 5) e34 hN17 k0) k0 (okN hN17 k0 (by decide)).1 (okN hN17 k0 (by decide)).2 cq_11 (by decide) rfl rfl (Nat.le_of_ble_eq_true rfl) (by decide) (by decide) (fun v ν hp => ?_) (fun i ν hp => nrm hp.1)
          obtain ⟨rfl, rfl, hN37, hb38⟩ := QEl hp
          show J _ _ _ _ 45 _ ([.int r36]) _ _ _ _
          rcases ifc h with ⟨hc, h⟩ | ⟨hc, h⟩
          · refine J.zne (pc := 45) (tgt := 50) dX11_game_45 (by decide) (fun _ => ?_) (fun q => absurd hc q)
            refine J.iconst (pc := 48) dX11_game_48 ic_0 ?_
            cases h
            exact J.iret (pc := 49) dX11_game_49 rfl ⟨rfl, rfl, hN37, trivial⟩
          · refine J.zne (pc := 45) (tgt := 50) dX11_game_45 (by decide) (fun q => absurd q hc) (fun _ => ?_)
            refine J.aload_n (pc := 50) dX11_game_50 rfl 0 rfl ?_
            obtain ⟨a39, e40, h⟩ := bnd h
            have k41 : (kd a39).1 = 0 := gR_k e40
            refine J.fR (pc := 51) dX11_game_51 fl_RX11_48 k0 (okN hN37 k0 (by decide)) rfl e40 ?_
            refine J.bipush (pc := 54) dX11_game_54 ib_61 ?_
            refine J.iload_n (pc := 56) dX11_game_56 rfl 1 rfl ?_
            refine J.iadd (pc := 57) dX11_game_57 ?_
            obtain ⟨x42, e43, h⟩ := bnd h
            refine J.aI (pc := 58) dX11_game_58 k41 (okN hN37 k41 (by decide)) e43 ?_
            refine J.iconst (pc := 59) dX11_game_59 ic_m1 ?_
            rcases ifc h with ⟨hc, h⟩ | ⟨hc, h⟩
            · refine J.ceq (pc := 60) (tgt := 76) dX11_game_60 (by decide) (fun _ => ?_) (fun q => absurd hc q)
              refine J.iconst (pc := 76) dX11_game_76 ic_m1 ?_
              cases h
              exact J.iret (pc := 77) dX11_game_77 rfl ⟨rfl, rfl, hN37, trivial⟩
            · refine J.ceq (pc := 60) (tgt := 76) dX11_game_60 (by decide) (fun q => absurd q hc) (fun _ => ?_)
              refine J.aload_n (pc := 63) dX11_game_63 rfl 0 rfl ?_
              obtain ⟨a44, e45, h⟩ := bnd h
              have k46 : (kd a44).1 = 0 := gR_k e45
              refine J.fR (pc := 64) dX11_game_64 fl_RX11_48 k0 (okN hN37 k0 (by decide)) rfl e45 ?_
              refine J.bipush (pc := 67) dX11_game_67 ib_61 ?_
              refine J.iload_n (pc := 69) dX11_game_69 rfl 2 rfl ?_
              refine J.iadd (pc := 70) dX11_game_70 ?_
              obtain ⟨x47, e48, h⟩ := bnd h
              refine J.aI (pc := 71) dX11_game_71 k46 (okN hN37 k46 (by decide)) e48 ?_
              refine J.iconst (pc := 72) dX11_game_72 ic_m1 ?_
              rcases ifc h with ⟨hc, h⟩ | ⟨hc, h⟩
              · refine J.cne (pc := 73) (tgt := 78) dX11_game_73 (by decide) (fun _ => ?_) (fun q => absurd hc q)
                refine J.iconst (pc := 76) dX11_game_76 ic_m1 ?_
                cases h
                exact J.iret (pc := 77) dX11_game_77 rfl ⟨rfl, rfl, hN37, trivial⟩
              · refine J.cne (pc := 73) (tgt := 78) dX11_game_73 (by decide) (fun q => absurd q hc) (fun _ => ?_)
                refine J.iconst (pc := 78) dX11_game_78 ic_0 ?_
                refine J.istore (pc := 79) ([(4, .int (0 : Int32)), (0, .ref v0), (1, .int v1), (2, .int v2), (3, .int v3)]) dX11_game_79 (Nat.le_of_ble_eq_true rfl) rfl ?_
                refine J.iconst (pc := 81) dX11_game_81 ic_m1 ?_
                refine J.istore (pc := 82) ([(5, .int (-1 : Int32)), (4, .int (0 : Int32)), (0, .ref v0), (1, .int v1), (2, .int v2), (3, .int v3)]) dX11_game_82 (Nat.le_of_ble_eq_true rfl) rfl ?_
                refine J.iconst (pc := 84) dX11_game_84 ic_0 ?_
                refine J.istore (pc := 85) ([(6, .int (0 : Int32)), (5, .int (-1 : Int32)), (4, .int (0 : Int32)), (0, .ref v0), (1, .int v1), (2, .int v2), (3, .int v3)]) dX11_game_85 (Nat.le_of_ble_eq_true rfl) rfl ?_
                refine J.pick [3, 4, 5, 6, 2, 1, 0] rfl ?_
                exact (tX11_game_87 d fuel) v0 v1 v2 v3 (0 : Int32) (-1 : Int32) (0 : Int32) μ35 h hN37 k0
def fX11_gather_61  (K26 : Nat → Int32 → Int32 → Int32 → Int32 → Int32 → Mem → Option (Int32 × Mem)) : Nat → Nat → Int32 → Int32 → Int32 → Int32 → Int32 → Int32 → Int32 → Int32 → Mem → Option (Int32 × Mem)
  | 0, _, _, _, _, _, _, _, _, _, _ => none
  | n + 1, v0, v1, v2, v3, v4, v5, v6, v7, v8, μ =>
    if v8 < (μ.2.1 v0 2) then
      (gR μ v0 39 0).bind fun a1 =>
      (gR μ v0 34 0).bind fun a4 =>
      (ldI μ a4 ((55 : Int32) + v8)).bind fun x7 =>
      (ldI μ a1 x7).bind fun x9 =>
      if x9 < (9999 : Int32) then
        if x9 < (9999 : Int32) then
          (fX11_gather_61 K26 n) v0 v1 v2 v3 v4 v5 (v6 + (1 : Int32)) (v7 + x9) (v8 + (1 : Int32)) μ
        else
          (fX11_gather_61 K26 n) v0 v1 v2 v3 v4 v5 (v6 + (1 : Int32)) (v7 + (0 : Int32)) (v8 + (1 : Int32)) μ
      else
        if x9 < (9999 : Int32) then
          (fX11_gather_61 K26 n) v0 v1 v2 v3 v4 v5 (v6 + (0 : Int32)) (v7 + x9) (v8 + (1 : Int32)) μ
        else
          (fX11_gather_61 K26 n) v0 v1 v2 v3 v4 v5 (v6 + (0 : Int32)) (v7 + (0 : Int32)) (v8 + (1 : Int32)) μ
    else
      if v6 < v3 then
        K26 v0 v1 v2 v3 v4 (v5 + (1 : Int32)) μ
      else
        if v6 = 0 then
          K26 v0 v1 v2 v3 v4 (v5 + (1 : Int32)) μ
        else
          if v6 = v3 then
            if v2 = (-1 : Int32) then
              K26 v0 v1 v5 v6 v7 (v5 + (1 : Int32)) μ
            else
              if v7 < v4 then
                K26 v0 v1 v5 v6 v7 (v5 + (1 : Int32)) μ
              else
                K26 v0 v1 v2 v3 v4 (v5 + (1 : Int32)) μ
          else
            K26 v0 v1 v5 v6 v7 (v5 + (1 : Int32)) μ
set_option maxHeartbeats 4000000 in
theorem tX11_gather_61 {ω : Wd} {l : Launch} (d : Nat) {res : Int32 × Mem} (K26 : Nat → Int32 → Int32 → Int32 → Int32 → Int32 → Mem → Option (Int32 × Mem)) (hK26 : ∀ (v0 : Nat) (v1 : Int32) (v2 : Int32) (v3 : Int32) (v4 : Int32) (v5 : Int32) (μ : Mem), K26 v0 v1 v2 v3 v4 v5 μ = some res → μ.1 = NN → (kd v0).1 = 21 → J ω l mX11_gather (d + 2) 26 [(0, .ref v0), (1, .int v1), (2, .int v2), (3, .int v3), (4, .int v4), (5, .int v5)] [] μ 0 0 (PE (.inl (some (.int res.1))) res.2 True)) : ∀ n : Nat, ∀ (v0 : Nat) (v1 : Int32) (v2 : Int32) (v3 : Int32) (v4 : Int32) (v5 : Int32) (v6 : Int32) (v7 : Int32) (v8 : Int32) (μ : Mem), fX11_gather_61 K26 n v0 v1 v2 v3 v4 v5 v6 v7 v8 μ = some res → μ.1 = NN → (kd v0).1 = 21 → J ω l mX11_gather (d + 2) 61 [(0, .ref v0), (1, .int v1), (2, .int v2), (3, .int v3), (4, .int v4), (5, .int v5), (6, .int v6), (7, .int v7), (8, .int v8)] [] μ 0 0 (PE (.inl (some (.int res.1))) res.2 True) := by
  intro n
  induction n with
  | zero =>
    intro v0 v1 v2 v3 v4 v5 v6 v7 v8 μ h hN k0
    have h9 : (none : Option (Int32 × Mem)) = some res := h
    cases h9
  | succ n ih =>
    intro v0 v1 v2 v3 v4 v5 v6 v7 v8 μ h hN k0
    unfold fX11_gather_61 at h
    refine J.iload (pc := 61) dX11_gather_61 8 rfl ?_
    refine J.aload_n (pc := 63) dX11_gather_63 rfl 0 rfl ?_
    refine J.fI (pc := 64) dX11_gather_64 fl_RX11_276 k0 (okN hN k0 (by decide)) (Or.inl rfl) ?_
    rcases ifc h with ⟨hc, h⟩ | ⟨hc, h⟩
    · refine J.cge (pc := 67) (tgt := 130) dX11_gather_67 (by decide) (fun _ => ?_) (fun q => absurd hc q)
      refine J.aload_n (pc := 70) dX11_gather_70 rfl 0 rfl ?_
      obtain ⟨a1, e2, h⟩ := bnd h
      have k3 : (kd a1).1 = 0 := gR_k e2
      refine J.fR (pc := 71) dX11_gather_71 fl_RX11_60 k0 (okN hN k0 (by decide)) rfl e2 ?_
      refine J.aload_n (pc := 74) dX11_gather_74 rfl 0 rfl ?_
      obtain ⟨a4, e5, h⟩ := bnd h
      have k6 : (kd a4).1 = 0 := gR_k e5
      refine J.fR (pc := 75) dX11_gather_75 fl_RX11_48 k0 (okN hN k0 (by decide)) rfl e5 ?_
      refine J.bipush (pc := 78) dX11_gather_78 ib_55 ?_
      refine J.iload (pc := 80) dX11_gather_80 8 rfl ?_
      refine J.iadd (pc := 82) dX11_gather_82 ?_
      obtain ⟨x7, e8, h⟩ := bnd h
      refine J.aI (pc := 83) dX11_gather_83 k6 (okN hN k6 (by decide)) e8 ?_
      obtain ⟨x9, e10, h⟩ := bnd h
      refine J.aI (pc := 84) dX11_gather_84 k3 (okN hN k3 (by decide)) e10 ?_
      refine J.istore (pc := 85) ([(9, .int x9), (0, .ref v0), (1, .int v1), (2, .int v2), (3, .int v3), (4, .int v4), (5, .int v5), (6, .int v6), (7, .int v7), (8, .int v8)]) dX11_gather_85 (Nat.le_of_ble_eq_true rfl) rfl ?_
      refine J.iload (pc := 87) dX11_gather_87 7 rfl ?_
      refine J.iload (pc := 89) dX11_gather_89 0 rfl ?_
      refine J.sipush (pc := 91) dX11_gather_91 is_9999 ?_
      rcases ifc h with ⟨hc, h⟩ | ⟨hc, h⟩
      · refine J.cge (pc := 94) (tgt := 101) dX11_gather_94 (by decide) (fun _ => ?_) (fun q => absurd hc q)
        refine J.iconst (pc := 97) dX11_gather_97 ic_1 ?_
        refine J.goto (pc := 98) (tgt := 102) dX11_gather_98 (by decide) ?_
        refine J.iadd (pc := 102) dX11_gather_102 ?_
        refine J.istore (pc := 103) ([(6, .int (v6 + (1 : Int32))), (9, .int x9), (0, .ref v0), (1, .int v1), (2, .int v2), (3, .int v3), (4, .int v4), (5, .int v5), (7, .int v7), (8, .int v8)]) dX11_gather_103 (Nat.le_of_ble_eq_true rfl) rfl ?_
        refine J.iload (pc := 105) dX11_gather_105 8 rfl ?_
        refine J.iload (pc := 107) dX11_gather_107 1 rfl ?_
        refine J.sipush (pc := 109) dX11_gather_109 is_9999 ?_
        rcases ifc h with ⟨hc, h⟩ | ⟨hc, h⟩
        · refine J.cge (pc := 112) (tgt := 120) dX11_gather_112 (by decide) (fun _ => ?_) (fun q => absurd hc q)
          refine J.iload (pc := 115) dX11_gather_115 1 rfl ?_
          refine J.goto (pc := 117) (tgt := 121) dX11_gather_117 (by decide) ?_
          refine J.iadd (pc := 121) dX11_gather_121 ?_
          refine J.istore (pc := 122) ([(7, .int (v7 + x9)), (6, .int (v6 + (1 : Int32))), (9, .int x9), (0, .ref v0), (1, .int v1), (2, .int v2), (3, .int v3), (4, .int v4), (5, .int v5), (8, .int v8)]) dX11_gather_122 (Nat.le_of_ble_eq_true rfl) rfl ?_
          refine J.iinc (pc := 124) (j := 9) ([(8, .int (v8 + (1 : Int32))), (7, .int (v7 + x9)), (6, .int (v6 + (1 : Int32))), (9, .int x9), (0, .ref v0), (1, .int v1), (2, .int v2), (3, .int v3), (4, .int v4), (5, .int v5)]) dX11_gather_124 rfl (iincv ic_1) (Nat.le_of_ble_eq_true rfl) rfl ?_
          refine J.goto (pc := 127) (tgt := 61) dX11_gather_127 (by decide) ?_
          refine J.pick [4, 5, 6, 7, 8, 9, 2, 1, 0] rfl ?_
          exact ih v0 v1 v2 v3 v4 v5 (v6 + (1 : Int32)) (v7 + x9) (v8 + (1 : Int32)) μ h hN k0
        · refine J.cge (pc := 112) (tgt := 120) dX11_gather_112 (by decide) (fun q => absurd q hc) (fun _ => ?_)
          refine J.iconst (pc := 120) dX11_gather_120 ic_0 ?_
          refine J.iadd (pc := 121) dX11_gather_121 ?_
          refine J.istore (pc := 122) ([(7, .int (v7 + (0 : Int32))), (6, .int (v6 + (1 : Int32))), (9, .int x9), (0, .ref v0), (1, .int v1), (2, .int v2), (3, .int v3), (4, .int v4), (5, .int v5), (8, .int v8)]) dX11_gather_122 (Nat.le_of_ble_eq_true rfl) rfl ?_
          refine J.iinc (pc := 124) (j := 9) ([(8, .int (v8 + (1 : Int32))), (7, .int (v7 + (0 : Int32))), (6, .int (v6 + (1 : Int32))), (9, .int x9), (0, .ref v0), (1, .int v1), (2, .int v2), (3, .int v3), (4, .int v4), (5, .int v5)]) dX11_gather_124 rfl (iincv ic_1) (Nat.le_of_ble_eq_true rfl) rfl ?_
          refine J.goto (pc := 127) (tgt := 61) dX11_gather_127 (by decide) ?_
          refine J.pick [4, 5, 6, 7, 8, 9, 2, 1, 0] rfl ?_
          exact ih v0 v1 v2 v3 v4 v5 (v6 + (1 : Int32)) (v7 + (0 : Int32)) (v8 + (1 : Int32)) μ h hN k0
      · refine J.cge (pc := 94) (tgt := 101) dX11_gather_94 (by decide) (fun q => absurd q hc) (fun _ => ?_)
        refine J.iconst (pc := 101) dX11_gather_101 ic_0 ?_
        refine J.iadd (pc := 102) dX11_gather_102 ?_
        refine J.istore (pc := 103) ([(6, .int (v6 + (0 : Int32))), (9, .int x9), (0, .ref v0), (1, .int v1), (2, .int v2), (3, .int v3), (4, .int v4), (5, .int v5), (7, .int v7), (8, .int v8)]) dX11_gather_103 (Nat.le_of_ble_eq_true rfl) rfl ?_
        refine J.iload (pc := 105) dX11_gather_105 8 rfl ?_
        refine J.iload (pc := 107) dX11_gather_107 1 rfl ?_
        refine J.sipush (pc := 109) dX11_gather_109 is_9999 ?_
        rcases ifc h with ⟨hc, h⟩ | ⟨hc, h⟩
        · refine J.cge (pc := 112) (tgt := 120) dX11_gather_112 (by decide) (fun _ => ?_) (fun q => absurd hc q)
          refine J.iload (pc := 115) dX11_gather_115 1 rfl ?_
          refine J.goto (pc := 117) (tgt := 121) dX11_gather_117 (by decide) ?_
          refine J.iadd (pc := 121) dX11_gather_121 ?_
          refine J.istore (pc := 122) ([(7, .int (v7 + x9)), (6, .int (v6 + (0 : Int32))), (9, .int x9), (0, .ref v0), (1, .int v1), (2, .int v2), (3, .int v3), (4, .int v4), (5, .int v5), (8, .int v8)]) dX11_gather_122 (Nat.le_of_ble_eq_true rfl) rfl ?_
          refine J.iinc (pc := 124) (j := 9) ([(8, .int (v8 + (1 : Int32))), (7, .int (v7 + x9)), (6, .int (v6 + (0 : Int32))), (9, .int x9), (0, .ref v0), (1, .int v1), (2, .int v2), (3, .int v3), (4, .int v4), (5, .int v5)]) dX11_gather_124 rfl (iincv ic_1) (Nat.le_of_ble_eq_true rfl) rfl ?_
          refine J.goto (pc := 127) (tgt := 61) dX11_gather_127 (by decide) ?_
          refine J.pick [4, 5, 6, 7, 8, 9, 2, 1, 0] rfl ?_
          exact ih v0 v1 v2 v3 v4 v5 (v6 + (0 : Int32)) (v7 + x9) (v8 + (1 : Int32)) μ h hN k0
        · refine J.cge (pc := 112) (tgt := 120) dX11_gather_112 (by decide) (fun q => absurd q hc) (fun _ => ?_)
          refine J.iconst (pc := 120) dX11_gather_120 ic_0 ?_
          refine J.iadd (pc := 121) dX11_gather_121 ?_
          refine J.istore (pc := 122) ([(7, .int (v7 + (0 : Int32))), (6, .int (v6 + (0 : Int32))), (9, .int x9), (0, .ref v0), (1, .int v1), (2, .int v2), (3, .int v3), (4, .int v4), (5, .int v5), (8, .int v8)]) dX11_gather_122 (Nat.le_of_ble_eq_true rfl) rfl ?_
          refine J.iinc (pc := 124) (j := 9) ([(8, .int (v8 + (1 : Int32))), (7, .int (v7 + (0 : Int32))), (6, .int (v6 + (0 : Int32))), (9, .int x9), (0, .ref v0), (1, .int v1), (2, .int v2), (3, .int v3), (4, .int v4), (5, .int v5)]) dX11_gather_124 rfl (iincv ic_1) (Nat.le_of_ble_eq_true rfl) rfl ?_
          refine J.goto (pc := 127) (tgt := 61) dX11_gather_127 (by decide) ?_
          refine J.pick [4, 5, 6, 7, 8, 9, 2, 1, 0] rfl ?_
          exact ih v0 v1 v2 v3 v4 v5 (v6 + (0 : Int32)) (v7 + (0 : Int32)) (v8 + (1 : Int32)) μ h hN k0
    · refine J.cge (pc := 67) (tgt := 130) dX11_gather_67 (by decide) (fun q => absurd q hc) (fun _ => ?_)
      refine J.iload (pc := 130) dX11_gather_130 6 rfl ?_
      refine J.iload_n (pc := 132) dX11_gather_132 rfl 3 rfl ?_
      rcases ifc h with ⟨hc, h⟩ | ⟨hc, h⟩
      · refine J.clt (pc := 133) (tgt := 172) dX11_gather_133 (by decide) (fun _ => ?_) (fun q => absurd hc q)
        refine J.iinc (pc := 172) (j := 5) ([(5, .int (v5 + (1 : Int32))), (0, .ref v0), (1, .int v1), (2, .int v2), (3, .int v3), (4, .int v4), (6, .int v6), (7, .int v7), (8, .int v8)]) dX11_gather_172 rfl (iincv ic_1) (Nat.le_of_ble_eq_true rfl) rfl ?_
        refine J.goto (pc := 175) (tgt := 26) dX11_gather_175 (by decide) ?_
        refine J.pick [1, 2, 3, 4, 5, 0] rfl ?_
        exact hK26 v0 v1 v2 v3 v4 (v5 + (1 : Int32)) μ h hN k0
      · refine J.clt (pc := 133) (tgt := 172) dX11_gather_133 (by decide) (fun q => absurd q hc) (fun _ => ?_)
        refine J.iload (pc := 136) dX11_gather_136 6 rfl ?_
        rcases ifc h with ⟨hc, h⟩ | ⟨hc, h⟩
        · refine J.zeq (pc := 138) (tgt := 172) dX11_gather_138 (by decide) (fun _ => ?_) (fun q => absurd hc q)
          refine J.iinc (pc := 172) (j := 5) ([(5, .int (v5 + (1 : Int32))), (0, .ref v0), (1, .int v1), (2, .int v2), (3, .int v3), (4, .int v4), (6, .int v6), (7, .int v7), (8, .int v8)]) dX11_gather_172 rfl (iincv ic_1) (Nat.le_of_ble_eq_true rfl) rfl ?_
          refine J.goto (pc := 175) (tgt := 26) dX11_gather_175 (by decide) ?_
          refine J.pick [1, 2, 3, 4, 5, 0] rfl ?_
          exact hK26 v0 v1 v2 v3 v4 (v5 + (1 : Int32)) μ h hN k0
        · refine J.zeq (pc := 138) (tgt := 172) dX11_gather_138 (by decide) (fun q => absurd q hc) (fun _ => ?_)
          refine J.iload (pc := 141) dX11_gather_141 6 rfl ?_
          refine J.iload_n (pc := 143) dX11_gather_143 rfl 3 rfl ?_
          rcases ifc h with ⟨hc, h⟩ | ⟨hc, h⟩
          · refine J.cne (pc := 144) (tgt := 162) dX11_gather_144 (by decide) (fun _ => ?_) (fun q => absurd hc q)
            refine J.iload_n (pc := 147) dX11_gather_147 rfl 2 rfl ?_
            refine J.iconst (pc := 148) dX11_gather_148 ic_m1 ?_
            rcases ifc h with ⟨hc, h⟩ | ⟨hc, h⟩
            · refine J.ceq (pc := 149) (tgt := 162) dX11_gather_149 (by decide) (fun _ => ?_) (fun q => absurd hc q)
              refine J.iload (pc := 162) dX11_gather_162 5 rfl ?_
              refine J.istore_n (pc := 164) ([(2, .int v5), (0, .ref v0), (1, .int v1), (3, .int v3), (4, .int v4), (5, .int v5), (6, .int v6), (7, .int v7), (8, .int v8)]) dX11_gather_164 rfl (Nat.le_of_ble_eq_true rfl) rfl ?_
              refine J.iload (pc := 165) dX11_gather_165 6 rfl ?_
              refine J.istore_n (pc := 167) ([(3, .int v6), (2, .int v5), (0, .ref v0), (1, .int v1), (4, .int v4), (5, .int v5), (6, .int v6), (7, .int v7), (8, .int v8)]) dX11_gather_167 rfl (Nat.le_of_ble_eq_true rfl) rfl ?_
              refine J.iload (pc := 168) dX11_gather_168 7 rfl ?_
              refine J.istore (pc := 170) ([(4, .int v7), (3, .int v6), (2, .int v5), (0, .ref v0), (1, .int v1), (5, .int v5), (6, .int v6), (7, .int v7), (8, .int v8)]) dX11_gather_170 (Nat.le_of_ble_eq_true rfl) rfl ?_
              refine J.iinc (pc := 172) (j := 5) ([(5, .int (v5 + (1 : Int32))), (4, .int v7), (3, .int v6), (2, .int v5), (0, .ref v0), (1, .int v1), (6, .int v6), (7, .int v7), (8, .int v8)]) dX11_gather_172 rfl (iincv ic_1) (Nat.le_of_ble_eq_true rfl) rfl ?_
              refine J.goto (pc := 175) (tgt := 26) dX11_gather_175 (by decide) ?_
              refine J.pick [4, 5, 3, 2, 1, 0] rfl ?_
              exact hK26 v0 v1 v5 v6 v7 (v5 + (1 : Int32)) μ h hN k0
            · refine J.ceq (pc := 149) (tgt := 162) dX11_gather_149 (by decide) (fun q => absurd q hc) (fun _ => ?_)
              refine J.iload (pc := 152) dX11_gather_152 7 rfl ?_
              refine J.iload (pc := 154) dX11_gather_154 4 rfl ?_
              rcases ifc h with ⟨hc, h⟩ | ⟨hc, h⟩
              · refine J.clt (pc := 156) (tgt := 162) dX11_gather_156 (by decide) (fun _ => ?_) (fun q => absurd hc q)
                refine J.iload (pc := 162) dX11_gather_162 5 rfl ?_
                refine J.istore_n (pc := 164) ([(2, .int v5), (0, .ref v0), (1, .int v1), (3, .int v3), (4, .int v4), (5, .int v5), (6, .int v6), (7, .int v7), (8, .int v8)]) dX11_gather_164 rfl (Nat.le_of_ble_eq_true rfl) rfl ?_
                refine J.iload (pc := 165) dX11_gather_165 6 rfl ?_
                refine J.istore_n (pc := 167) ([(3, .int v6), (2, .int v5), (0, .ref v0), (1, .int v1), (4, .int v4), (5, .int v5), (6, .int v6), (7, .int v7), (8, .int v8)]) dX11_gather_167 rfl (Nat.le_of_ble_eq_true rfl) rfl ?_
                refine J.iload (pc := 168) dX11_gather_168 7 rfl ?_
                refine J.istore (pc := 170) ([(4, .int v7), (3, .int v6), (2, .int v5), (0, .ref v0), (1, .int v1), (5, .int v5), (6, .int v6), (7, .int v7), (8, .int v8)]) dX11_gather_170 (Nat.le_of_ble_eq_true rfl) rfl ?_
                refine J.iinc (pc := 172) (j := 5) ([(5, .int (v5 + (1 : Int32))), (4, .int v7), (3, .int v6), (2, .int v5), (0, .ref v0), (1, .int v1), (6, .int v6), (7, .int v7), (8, .int v8)]) dX11_gather_172 rfl (iincv ic_1) (Nat.le_of_ble_eq_true rfl) rfl ?_
                refine J.goto (pc := 175) (tgt := 26) dX11_gather_175 (by decide) ?_
                refine J.pick [4, 5, 3, 2, 1, 0] rfl ?_
                exact hK26 v0 v1 v5 v6 v7 (v5 + (1 : Int32)) μ h hN k0
              · refine J.clt (pc := 156) (tgt := 162) dX11_gather_156 (by decide) (fun q => absurd q hc) (fun _ => ?_)
                refine J.goto (pc := 159) (tgt := 172) dX11_gather_159 (by decide) ?_
                refine J.iinc (pc := 172) (j := 5) ([(5, .int (v5 + (1 : Int32))), (0, .ref v0), (1, .int v1), (2, .int v2), (3, .int v3), (4, .int v4), (6, .int v6), (7, .int v7), (8, .int v8)]) dX11_gather_172 rfl (iincv ic_1) (Nat.le_of_ble_eq_true rfl) rfl ?_
                refine J.goto (pc := 175) (tgt := 26) dX11_gather_175 (by decide) ?_
                refine J.pick [1, 2, 3, 4, 5, 0] rfl ?_
                exact hK26 v0 v1 v2 v3 v4 (v5 + (1 : Int32)) μ h hN k0
          · refine J.cne (pc := 144) (tgt := 162) dX11_gather_144 (by decide) (fun q => absurd q hc) (fun _ => ?_)
            refine J.iload (pc := 162) dX11_gather_162 5 rfl ?_
            refine J.istore_n (pc := 164) ([(2, .int v5), (0, .ref v0), (1, .int v1), (3, .int v3), (4, .int v4), (5, .int v5), (6, .int v6), (7, .int v7), (8, .int v8)]) dX11_gather_164 rfl (Nat.le_of_ble_eq_true rfl) rfl ?_
            refine J.iload (pc := 165) dX11_gather_165 6 rfl ?_
            refine J.istore_n (pc := 167) ([(3, .int v6), (2, .int v5), (0, .ref v0), (1, .int v1), (4, .int v4), (5, .int v5), (6, .int v6), (7, .int v7), (8, .int v8)]) dX11_gather_167 rfl (Nat.le_of_ble_eq_true rfl) rfl ?_
            refine J.iload (pc := 168) dX11_gather_168 7 rfl ?_
            refine J.istore (pc := 170) ([(4, .int v7), (3, .int v6), (2, .int v5), (0, .ref v0), (1, .int v1), (5, .int v5), (6, .int v6), (7, .int v7), (8, .int v8)]) dX11_gather_170 (Nat.le_of_ble_eq_true rfl) rfl ?_
            refine J.iinc (pc := 172) (j := 5) ([(5, .int (v5 + (1 : Int32))), (4, .int v7), (3, .int v6), (2, .int v5), (0, .ref v0), (1, .int v1), (6, .int v6), (7, .int v7), (8, .int v8)]) dX11_gather_172 rfl (iincv ic_1) (Nat.le_of_ble_eq_true rfl) rfl ?_
            refine J.goto (pc := 175) (tgt := 26) dX11_gather_175 (by decide) ?_
            refine J.pick [4, 5, 3, 2, 1, 0] rfl ?_
            exact hK26 v0 v1 v5 v6 v7 (v5 + (1 : Int32)) μ h hN k0
def fX11_gather_26  : Nat → Nat → Int32 → Int32 → Int32 → Int32 → Int32 → Mem → Option (Int32 × Mem)
  | 0, _, _, _, _, _, _, _ => none
  | n + 1, v0, v1, v2, v3, v4, v5, μ =>
    if v5 < (48 : Int32) then
      (fX11_isThere v0 v5 μ).bind fun r2 =>
      if r2 = 0 then
        (fX11_gather_26 n) v0 v1 v2 v3 v4 (v5 + (1 : Int32)) μ
      else
        (fX11_laysFar v0 (0 : Int32) v5 μ).bind fun μ6 =>
        (fX11_gather_61 (fX11_gather_26 n) fuel) v0 v1 v2 v3 v4 v5 (0 : Int32) (0 : Int32) (0 : Int32) μ6
    else
      if v1 = 0 then
        some ((fX11_toldAs v2), μ)
      else
        if v2 = (-1 : Int32) then
          some ((-1 : Int32), μ)
        else
          some (v4, μ)
set_option maxHeartbeats 4000000 in
theorem tX11_gather_26 {ω : Wd} {l : Launch} (d : Nat) {res : Int32 × Mem} : ∀ n : Nat, ∀ (v0 : Nat) (v1 : Int32) (v2 : Int32) (v3 : Int32) (v4 : Int32) (v5 : Int32) (μ : Mem), fX11_gather_26 n v0 v1 v2 v3 v4 v5 μ = some res → μ.1 = NN → (kd v0).1 = 21 → J ω l mX11_gather (d + 2) 26 [(0, .ref v0), (1, .int v1), (2, .int v2), (3, .int v3), (4, .int v4), (5, .int v5)] [] μ 0 0 (PE (.inl (some (.int res.1))) res.2 True) := by
  intro n
  induction n with
  | zero =>
    intro v0 v1 v2 v3 v4 v5 μ h hN k0
    have h9 : (none : Option (Int32 × Mem)) = some res := h
    cases h9
  | succ n ih =>
    intro v0 v1 v2 v3 v4 v5 μ h hN k0
    unfold fX11_gather_26 at h
    refine J.iload (pc := 26) dX11_gather_26 5 rfl ?_
    refine J.bipush (pc := 28) dX11_gather_28 ib_48 ?_
    rcases ifc h with ⟨hc, h⟩ | ⟨hc, h⟩
    · refine J.cge (pc := 30) (tgt := 178) dX11_gather_30 (by decide) (fun _ => ?_) (fun q => absurd hc q)
      refine J.aload_n (pc := 33) dX11_gather_33 rfl 0 rfl ?_
      refine J.iload (pc := 34) dX11_gather_34 5 rfl ?_
      obtain ⟨r2, e1, h⟩ := bnd h
      refine J.callV (Y := mX11_gather) (Z := mX11_isThere) (pc := 36) (st := []) (k2 := 0) (n2 := 0) dX11_gather_36 ml_RX11_332 mo_X11_isThere mv_X11_isThere rfl (tX11_isThere (d + 1) e1 hN k0) k0 (okN hN k0 (by decide)).1 (okN hN k0 (by decide)).2 cq_11 (by decide) rfl rfl (Nat.le_of_ble_eq_true rfl) (by decide) (by decide) (fun v ν hp => ?_) (fun i ν hp => nrm hp.1)
      obtain ⟨rfl, rfl, hN3, hb4⟩ := QEl hp
      show J _ _ _ _ 39 _ ([.int r2]) _ _ _ _
      rcases ifc h with ⟨hc, h⟩ | ⟨hc, h⟩
      · refine J.zne (pc := 39) (tgt := 45) dX11_gather_39 (by decide) (fun _ => ?_) (fun q => absurd hc q)
        refine J.goto (pc := 42) (tgt := 172) dX11_gather_42 (by decide) ?_
        refine J.iinc (pc := 172) (j := 5) ([(5, .int (v5 + (1 : Int32))), (0, .ref v0), (1, .int v1), (2, .int v2), (3, .int v3), (4, .int v4)]) dX11_gather_172 rfl (iincv ic_1) (Nat.le_of_ble_eq_true rfl) rfl ?_
        refine J.goto (pc := 175) (tgt := 26) dX11_gather_175 (by decide) ?_
        refine J.pick [1, 2, 3, 4, 5, 0] rfl ?_
        exact ih v0 v1 v2 v3 v4 (v5 + (1 : Int32)) μ h hN3 k0
      · refine J.zne (pc := 39) (tgt := 45) dX11_gather_39 (by decide) (fun q => absurd q hc) (fun _ => ?_)
        refine J.aload_n (pc := 45) dX11_gather_45 rfl 0 rfl ?_
        refine J.iconst (pc := 46) dX11_gather_46 ic_0 ?_
        refine J.iload (pc := 47) dX11_gather_47 5 rfl ?_
        obtain ⟨μ6, e5, h⟩ := bnd h
        refine J.callV (Y := mX11_gather) (Z := mX11_laysFar) (pc := 49) (st := []) (k2 := 0) (n2 := 0) dX11_gather_49 ml_RX11_313 mo_X11_laysFar mv_X11_laysFar rfl (tX11_laysFar d e5 hN3 k0) k0 (okN hN3 k0 (by decide)).1 (okN hN3 k0 (by decide)).2 cq_11 (by decide) rfl rfl (Nat.le_of_ble_eq_true rfl) (by decide) (by decide) (fun v ν hp => ?_) (fun i ν hp => nrm hp.1)
        obtain ⟨rfl, rfl, hN7, hb8⟩ := QEl hp
        show J _ _ _ _ 52 _ ([]) _ _ _ _
        refine J.iconst (pc := 52) dX11_gather_52 ic_0 ?_
        refine J.istore (pc := 53) ([(6, .int (0 : Int32)), (0, .ref v0), (1, .int v1), (2, .int v2), (3, .int v3), (4, .int v4), (5, .int v5)]) dX11_gather_53 (Nat.le_of_ble_eq_true rfl) rfl ?_
        refine J.iconst (pc := 55) dX11_gather_55 ic_0 ?_
        refine J.istore (pc := 56) ([(7, .int (0 : Int32)), (6, .int (0 : Int32)), (0, .ref v0), (1, .int v1), (2, .int v2), (3, .int v3), (4, .int v4), (5, .int v5)]) dX11_gather_56 (Nat.le_of_ble_eq_true rfl) rfl ?_
        refine J.iconst (pc := 58) dX11_gather_58 ic_0 ?_
        refine J.istore (pc := 59) ([(8, .int (0 : Int32)), (7, .int (0 : Int32)), (6, .int (0 : Int32)), (0, .ref v0), (1, .int v1), (2, .int v2), (3, .int v3), (4, .int v4), (5, .int v5)]) dX11_gather_59 (Nat.le_of_ble_eq_true rfl) rfl ?_
        refine J.pick [3, 4, 5, 6, 7, 8, 2, 1, 0] rfl ?_
        exact (tX11_gather_61 d (fX11_gather_26 n) ih fuel) v0 v1 v2 v3 v4 v5 (0 : Int32) (0 : Int32) (0 : Int32) μ6 h hN7 k0
    · refine J.cge (pc := 30) (tgt := 178) dX11_gather_30 (by decide) (fun q => absurd q hc) (fun _ => ?_)
      refine J.iload_n (pc := 178) dX11_gather_178 rfl 1 rfl ?_
      rcases ifc h with ⟨hc, h⟩ | ⟨hc, h⟩
      · refine J.zne (pc := 179) (tgt := 189) dX11_gather_179 (by decide) (fun _ => ?_) (fun q => absurd hc q)
        refine J.iload_n (pc := 182) dX11_gather_182 rfl 2 rfl ?_
        refine J.callS (Y := mX11_gather) (Z := mX11_toldAs) (pc := 183) (st := []) (k2 := 0) (n2 := 0) dX11_gather_183 ml_RX11_371 mo_X11_toldAs ms_X11_toldAs rfl (tX11_toldAs (d + 1) v2 μ hN ) rfl rfl (Nat.le_of_ble_eq_true rfl) (by decide) (by decide) (fun v ν hp => ?_) (fun i ν hp => nrm hp.1)
        obtain ⟨rfl, rfl, hN10, hb11⟩ := QEl hp
        show J _ _ _ _ 186 _ ([.int (fX11_toldAs v2)]) _ _ _ _
        refine J.goto (pc := 186) (tgt := 200) dX11_gather_186 (by decide) ?_
        cases h
        exact J.iret (pc := 200) dX11_gather_200 rfl ⟨rfl, rfl, hN10, trivial⟩
      · refine J.zne (pc := 179) (tgt := 189) dX11_gather_179 (by decide) (fun q => absurd q hc) (fun _ => ?_)
        refine J.iload_n (pc := 189) dX11_gather_189 rfl 2 rfl ?_
        refine J.iconst (pc := 190) dX11_gather_190 ic_m1 ?_
        rcases ifc h with ⟨hc, h⟩ | ⟨hc, h⟩
        · refine J.cne (pc := 191) (tgt := 198) dX11_gather_191 (by decide) (fun _ => ?_) (fun q => absurd hc q)
          refine J.iconst (pc := 194) dX11_gather_194 ic_m1 ?_
          refine J.goto (pc := 195) (tgt := 200) dX11_gather_195 (by decide) ?_
          cases h
          exact J.iret (pc := 200) dX11_gather_200 rfl ⟨rfl, rfl, hN, trivial⟩
        · refine J.cne (pc := 191) (tgt := 198) dX11_gather_191 (by decide) (fun q => absurd q hc) (fun _ => ?_)
          refine J.iload (pc := 198) dX11_gather_198 4 rfl ?_
          cases h
          exact J.iret (pc := 200) dX11_gather_200 rfl ⟨rfl, rfl, hN, trivial⟩
def fX11_gather (v0 : Nat) (v1 : Int32) (μ : Mem) : Option (Int32 × Mem) :=
  (some (sI μ v0 0 (0 : Int32))).bind fun μ1 =>
  (fX11_isWhat v0 v1 (1 : Int32) μ1).bind fun (r6, μ5) =>
  if r6 = 0 then
    some ((0 : Int32), μ5)
  else
    (fX11_gather_26 fuel) v0 v1 (-1 : Int32) (0 : Int32) (0 : Int32) (0 : Int32) μ5
set_option maxHeartbeats 4000000 in
theorem tX11_gather {ω : Wd} {l : Launch} (d : Nat) {v0 : Nat} {v1 : Int32} {μ : Mem} {res : Int32 × Mem} (h : fX11_gather v0 v1 μ = some res) (hN : μ.1 = NN) (k0 : (kd v0).1 = 21) : Ct ω l mX11_gather (d + 2) [.ref v0, .int v1] μ 0 0 (PE (.inl (some (.int res.1))) res.2 True) := by
  refine Ct.of pn_RX11 (Nat.le_of_ble_eq_true rfl) ?_
  show J ω l mX11_gather (d + 2) 0 [(0, .ref v0), (1, .int v1)] [] μ 0 0 _
  unfold fX11_gather at h
  refine J.aload_n (pc := 0) dX11_gather_0 rfl 0 rfl ?_
  refine J.iconst (pc := 1) dX11_gather_1 ic_0 ?_
  obtain ⟨μ1, e2, h⟩ := bnd h
  have hN3 : μ1.1 = NN := smN e2 hN
  refine J.qI (pc := 2) dX11_gather_2 fl_RX11_99 k0 (okN hN k0 (by decide)) rfl rfl e2 ?_
  refine J.aload_n (pc := 5) dX11_gather_5 rfl 0 rfl ?_
  refine J.iload_n (pc := 6) dX11_gather_6 rfl 1 rfl ?_
  refine J.iconst (pc := 7) dX11_gather_7 ic_1 ?_
  obtain ⟨⟨r6, μ5⟩, e4, h⟩ := bnd h
  try dsimp only at h
  refine J.callV (Y := mX11_gather) (Z := mX11_isWhat) (pc := 8) (st := []) (k2 := 0) (n2 := 0) dX11_gather_8 ml_RX11_365 mo_X11_isWhat mv_X11_isWhat rfl (tX11_isWhat d e4 hN3 k0) k0 (okN hN3 k0 (by decide)).1 (okN hN3 k0 (by decide)).2 cq_11 (by decide) rfl rfl (Nat.le_of_ble_eq_true rfl) (by decide) (by decide) (fun v ν hp => ?_) (fun i ν hp => nrm hp.1)
  obtain ⟨rfl, rfl, hN7, hb8⟩ := QEl hp
  show J _ _ _ _ 11 _ ([.int r6]) _ _ _ _
  rcases ifc h with ⟨hc, h⟩ | ⟨hc, h⟩
  · refine J.zne (pc := 11) (tgt := 16) dX11_gather_11 (by decide) (fun _ => ?_) (fun q => absurd hc q)
    refine J.iconst (pc := 14) dX11_gather_14 ic_0 ?_
    cases h
    exact J.iret (pc := 15) dX11_gather_15 rfl ⟨rfl, rfl, hN7, trivial⟩
  · refine J.zne (pc := 11) (tgt := 16) dX11_gather_11 (by decide) (fun q => absurd q hc) (fun _ => ?_)
    refine J.iconst (pc := 16) dX11_gather_16 ic_m1 ?_
    refine J.istore_n (pc := 17) ([(2, .int (-1 : Int32)), (0, .ref v0), (1, .int v1)]) dX11_gather_17 rfl (Nat.le_of_ble_eq_true rfl) rfl ?_
    refine J.iconst (pc := 18) dX11_gather_18 ic_0 ?_
    refine J.istore_n (pc := 19) ([(3, .int (0 : Int32)), (2, .int (-1 : Int32)), (0, .ref v0), (1, .int v1)]) dX11_gather_19 rfl (Nat.le_of_ble_eq_true rfl) rfl ?_
    refine J.iconst (pc := 20) dX11_gather_20 ic_0 ?_
    refine J.istore (pc := 21) ([(4, .int (0 : Int32)), (3, .int (0 : Int32)), (2, .int (-1 : Int32)), (0, .ref v0), (1, .int v1)]) dX11_gather_21 (Nat.le_of_ble_eq_true rfl) rfl ?_
    refine J.iconst (pc := 23) dX11_gather_23 ic_0 ?_
    refine J.istore (pc := 24) ([(5, .int (0 : Int32)), (4, .int (0 : Int32)), (3, .int (0 : Int32)), (2, .int (-1 : Int32)), (0, .ref v0), (1, .int v1)]) dX11_gather_24 (Nat.le_of_ble_eq_true rfl) rfl ?_
    refine J.pick [4, 5, 3, 2, 1, 0] rfl ?_
    exact (tX11_gather_26 d fuel) v0 v1 (-1 : Int32) (0 : Int32) (0 : Int32) (0 : Int32) μ5 h hN7 k0
