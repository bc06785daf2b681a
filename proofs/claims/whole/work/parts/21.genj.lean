def fL_clear (v0 : Nat) (v1 : Int32) (v2 : Nat) (μ : Mem) : Option (Int32 × Mem) :=
  (fX10_clear v0 v1 μ).bind fun
  | (.inl r3, μ2) =>
    (stL μ2 v2 (0 : Int32) (r3.toInt64)).bind fun μ6 =>
    some ((0 : Int32), μ6)
  | (.inr i9, μ2) =>
    if i9 = 0 then some ((1 : Int32), μ2) else
    none
set_option maxHeartbeats 4000000 in
theorem tL_clear {ω : Wd} {l : Launch} (d : Nat) {v0 : Nat} {v1 : Int32} {v2 : Nat} {μ : Mem} {res : Int32 × Mem} (h : fL_clear v0 v1 v2 μ = some res) (hN : μ.1 = NN) (k0 : (kd v0).1 = 20) (k2 : (kd v2).1 = 1) : Ct ω l mL_clear (d + 10) [.ref v0, .int v1, .ref v2] μ 1 6 (PE (.inl (some (.int res.1))) res.2 True) := by
  refine Ct.of pn_RL (Nat.le_of_ble_eq_true rfl) ?_
  show J ω l mL_clear (d + 10) 0 [(0, .ref v0), (1, .int v1), (2, .ref v2)] [] μ 1 6 _
  unfold fL_clear at h
  refine J.aload_n (pc := 0) dL_clear_0 rfl 2 rfl ?_
  refine J.iconst (pc := 1) dL_clear_1 ic_0 ?_
  refine J.aload_n (pc := 2) dL_clear_2 rfl 0 rfl ?_
  refine J.iload_n (pc := 3) dL_clear_3 rfl 1 rfl ?_
  obtain ⟨⟨q, μ2⟩, e1, h⟩ := bnd h
  rcases q with r3 | i9
  · try dsimp only at h
    refine J.callV (Y := mL_clear) (Z := mX10_clear) (pc := 4) (st := [.int (0 : Int32), .ref v2]) (k2 := 0) (n2 := 0) dL_clear_4 ml_RL_56 mo_X10_clear mv_X10_clear rfl (tX10_clear d e1 hN k0) k0 (okN hN k0 (by decide)).1 (okN hN k0 (by decide)).2 cq_10 (by decide) rfl rfl (Nat.le_of_ble_eq_true rfl) (by decide) (by decide) (fun v ν hp => ?_) (fun i ν hp => nrm hp.1)
    obtain ⟨rfl, rfl, hN4, hb5⟩ := QEl hp
    show J _ _ _ _ 7 _ ([.int r3, .int (0 : Int32), .ref v2]) _ _ _ _
    refine J.i2l (pc := 7) dL_clear_7 ?_
    obtain ⟨μ6, e7, h⟩ := bnd h
    have hN8 : μ6.1 = NN := stL_N e7 hN4
    refine J.wL (pc := 8) dL_clear_8 k2 (okN hN4 k2 (by decide)) e7 ?_
    refine J.goto (pc := 9) (tgt := 15) dL_clear_9 (by decide) ?_
    refine J.iconst (pc := 15) dL_clear_15 ic_0 ?_
    cases h
    exact J.iret (pc := 16) dL_clear_16 rfl ⟨rfl, rfl, hN8, trivial⟩
  · try dsimp only at h
    refine J.callV (Y := mL_clear) (Z := mX10_clear) (pc := 4) (st := [.int (0 : Int32), .ref v2]) (k2 := 0) (n2 := 0) dL_clear_4 ml_RL_56 mo_X10_clear mv_X10_clear rfl (tX10_clear d e1 hN k0) k0 (okN hN k0 (by decide)).1 (okN hN k0 (by decide)).2 cq_10 (by decide) rfl rfl (Nat.le_of_ble_eq_true rfl) (by decide) (by decide) (fun v ν hp => nlm hp.1) (fun i ν hp => ?_)
    obtain ⟨rfl, rfl, hN9, -⟩ := QEr hp
    rcases ifc h with ⟨hc, h⟩ | ⟨hc, h⟩
    · subst hc
      cases h
      exact JX.catch1 (i := 0) (by decide) rfl rfl (Nat.le_of_ble_eq_true rfl) (Nat.le_of_ble_eq_true rfl) (Or.inr ⟨3, Nat.le_of_ble_eq_true rfl, rfl, dL_clear_12⟩) dL_clear_13 ic_1 dL_clear_14 rfl ⟨rfl, rfl, hN9, trivial⟩
    cases h
def fX10_comes_22  : Nat → Nat → Int32 → Int32 → Mem → Option ((Int32 ⊕ Nat) × Mem)
  | 0, _, _, _, _ => none
  | n + 1, v0, v1, v2, μ =>
    if (60 : Int32) < v2 then
      some (.inl (-1 : Int32), μ)
    else
      (gR μ v0 14 12).bind fun a1 =>
      (fX2_pass a1 (1 : Int32) μ).bind fun μ5 =>
      (gR μ5 v0 14 12).bind fun a8 =>
      (gR μ5 a8 4 0).bind fun a11 =>
      (ldI μ5 a11 v1).bind fun x14 =>
      if 0 < x14 then
        some (.inl v2, μ5)
      else
        (fX10_comes_22 n) v0 v1 (v2 + (1 : Int32)) μ5
set_option maxHeartbeats 4000000 in
theorem tX10_comes_22 {ω : Wd} {l : Launch} (d : Nat) {res : (Int32 ⊕ Nat) × Mem} : ∀ n : Nat, ∀ (v0 : Nat) (v1 : Int32) (v2 : Int32) (μ : Mem), fX10_comes_22 n v0 v1 v2 μ = some res → μ.1 = NN → (kd v0).1 = 20 → J ω l mX10_comes (d + 9) 22 [(0, .ref v0), (1, .int v1), (2, .int v2)] [] μ 0 0 (PE (oI res.1) res.2 True) := by
  intro n
  induction n with
  | zero =>
    intro v0 v1 v2 μ h hN k0
    have h9 : (none : Option ((Int32 ⊕ Nat) × Mem)) = some res := h
    cases h9
  | succ n ih =>
    intro v0 v1 v2 μ h hN k0
    unfold fX10_comes_22 at h
    refine J.iload_n (pc := 22) dX10_comes_22 rfl 2 rfl ?_
    refine J.bipush (pc := 23) dX10_comes_23 ib_60 ?_
    rcases ifc h with ⟨hc, h⟩ | ⟨hc, h⟩
    · refine J.cgt (pc := 25) (tgt := 56) dX10_comes_25 (by decide) (fun _ => ?_) (fun q => absurd hc q)
      refine J.iconst (pc := 56) dX10_comes_56 ic_m1 ?_
      cases h
      exact J.iret (pc := 57) dX10_comes_57 rfl ⟨rfl, rfl, hN, trivial⟩
    · refine J.cgt (pc := 25) (tgt := 56) dX10_comes_25 (by decide) (fun q => absurd q hc) (fun _ => ?_)
      refine J.aload_n (pc := 28) dX10_comes_28 rfl 0 rfl ?_
      obtain ⟨a1, e2, h⟩ := bnd h
      have k3 : (kd a1).1 = 12 := gR_k e2
      refine J.fR (pc := 29) dX10_comes_29 fl_RX10_79 k0 (okN hN k0 (by decide)) rfl e2 ?_
      refine J.iconst (pc := 32) dX10_comes_32 ic_1 ?_
      obtain ⟨μ5, e4, h⟩ := bnd h
      refine J.callV (Y := mX10_comes) (Z := mX2_pass) (pc := 33) (st := []) (k2 := 0) (n2 := 0) dX10_comes_33 ml_RX10_268 mo_X2_pass mv_X2_pass rfl (tX2_pass (d + 4) e4 hN k3) k3 (okN hN k3 (by decide)).1 (okN hN k3 (by decide)).2 cq_2 (by decide) rfl rfl (Nat.le_of_ble_eq_true rfl) (by decide) (by decide) (fun v ν hp => ?_) (fun i ν hp => nrm hp.1)
      obtain ⟨rfl, rfl, hN6, hb7⟩ := QEl hp
      show J _ _ _ _ 36 _ ([]) _ _ _ _
      refine J.aload_n (pc := 36) dX10_comes_36 rfl 0 rfl ?_
      obtain ⟨a8, e9, h⟩ := bnd h
      have k10 : (kd a8).1 = 12 := gR_k e9
      refine J.fR (pc := 37) dX10_comes_37 fl_RX10_79 k0 (okN hN6 k0 (by decide)) rfl e9 ?_
      obtain ⟨a11, e12, h⟩ := bnd h
      have k13 : (kd a11).1 = 0 := gR_k e12
      refine J.fR (pc := 40) dX10_comes_40 fl_RX10_272 k10 (okN hN6 k10 (by decide)) rfl e12 ?_
      refine J.iload_n (pc := 43) dX10_comes_43 rfl 1 rfl ?_
      obtain ⟨x14, e15, h⟩ := bnd h
      refine J.aI (pc := 44) dX10_comes_44 k13 (okN hN6 k13 (by decide)) e15 ?_
      rcases ifc h with ⟨hc, h⟩ | ⟨hc, h⟩
      · refine J.zle (pc := 45) (tgt := 50) dX10_comes_45 (by decide) (fun _ => ?_) (fun q => absurd hc q)
        refine J.iload_n (pc := 48) dX10_comes_48 rfl 2 rfl ?_
        cases h
        exact J.iret (pc := 49) dX10_comes_49 rfl ⟨rfl, rfl, hN6, trivial⟩
      · refine J.zle (pc := 45) (tgt := 50) dX10_comes_45 (by decide) (fun q => absurd q hc) (fun _ => ?_)
        refine J.iinc (pc := 50) (j := 2) ([(2, .int (v2 + (1 : Int32))), (0, .ref v0), (1, .int v1)]) dX10_comes_50 rfl (iincv ic_1) (Nat.le_of_ble_eq_true rfl) rfl ?_
        refine J.goto (pc := 53) (tgt := 22) dX10_comes_53 (by decide) ?_
        refine J.pick [1, 2, 0] rfl ?_
        exact ih v0 v1 (v2 + (1 : Int32)) μ5 h hN6 k0
def fX10_comes (v0 : Nat) (v1 : Int32) (μ : Mem) : Option ((Int32 ⊕ Nat) × Mem) :=
  (fX10_needPerson v0 v1 μ).bind fun
  | .inl _ =>
    (gR μ v0 14 12).bind fun a4 =>
    (gR μ v0 4 11).bind fun a7 =>
    (gR μ v0 7 19).bind fun a10 =>
    (fX2_begin a4 a7 a10 μ).bind fun μ14 =>
    (fX10_comes_22 fuel) v0 v1 (1 : Int32) μ14
  | .inr i17 =>
    some (.inr i17, μ)
set_option maxHeartbeats 4000000 in
theorem tX10_comes {ω : Wd} {l : Launch} (d : Nat) {v0 : Nat} {v1 : Int32} {μ : Mem} {res : (Int32 ⊕ Nat) × Mem} (h : fX10_comes v0 v1 μ = some res) (hN : μ.1 = NN) (k0 : (kd v0).1 = 20) : Ct ω l mX10_comes (d + 9) [.ref v0, .int v1] μ 1 6 (PE (oI res.1) res.2 True) := by
  refine Ct.of pn_RX10 (Nat.le_of_ble_eq_true rfl) ?_
  show J ω l mX10_comes (d + 9) 0 [(0, .ref v0), (1, .int v1)] [] μ 1 6 _
  unfold fX10_comes at h
  refine J.aload_n (pc := 0) dX10_comes_0 rfl 0 rfl ?_
  refine J.iload_n (pc := 1) dX10_comes_1 rfl 1 rfl ?_
  obtain ⟨q, e1, h⟩ := bnd h
  rcases q with u | i17
  · try dsimp only at h
    refine J.callV (Y := mX10_comes) (Z := mX10_needPerson) (pc := 2) (st := []) (k2 := 0) (n2 := 0) dX10_comes_2 ml_RX10_211 mo_X10_needPerson mv_X10_needPerson rfl (tX10_needPerson d e1 hN k0) k0 (okN hN k0 (by decide)).1 (okN hN k0 (by decide)).2 cq_10 (by decide) rfl rfl (Nat.le_of_ble_eq_true rfl) (by decide) (by decide) (fun v ν hp => ?_) (fun i ν hp => nrm hp.1)
    obtain ⟨rfl, rfl, hN2, hb3⟩ := QEl hp
    show J _ _ _ _ 5 _ ([]) _ _ _ _
    refine J.aload_n (pc := 5) dX10_comes_5 rfl 0 rfl ?_
    obtain ⟨a4, e5, h⟩ := bnd h
    have k6 : (kd a4).1 = 12 := gR_k e5
    refine J.fR (pc := 6) dX10_comes_6 fl_RX10_79 k0 (okN hN2 k0 (by decide)) rfl e5 ?_
    refine J.aload_n (pc := 9) dX10_comes_9 rfl 0 rfl ?_
    obtain ⟨a7, e8, h⟩ := bnd h
    have k9 : (kd a7).1 = 11 := gR_k e8
    refine J.fR (pc := 10) dX10_comes_10 fl_RX10_26 k0 (okN hN2 k0 (by decide)) rfl e8 ?_
    refine J.aload_n (pc := 13) dX10_comes_13 rfl 0 rfl ?_
    obtain ⟨a10, e11, h⟩ := bnd h
    have k12 : (kd a10).1 = 19 := gR_k e11
    refine J.fR (pc := 14) dX10_comes_14 fl_RX10_45 k0 (okN hN2 k0 (by decide)) rfl e11 ?_
    obtain ⟨μ14, e13, h⟩ := bnd h
    refine J.callV (Y := mX10_comes) (Z := mX2_begin) (pc := 17) (st := []) (k2 := 0) (n2 := 0) dX10_comes_17 ml_RX10_264 mo_X2_begin mv_X2_begin rfl (tX2_begin (d + 6) e13 hN2 k6 k9 k12) k6 (okN hN2 k6 (by decide)).1 (okN hN2 k6 (by decide)).2 cq_2 (by decide) rfl rfl (Nat.le_of_ble_eq_true rfl) (by decide) (by decide) (fun v ν hp => ?_) (fun i ν hp => nrm hp.1)
    obtain ⟨rfl, rfl, hN15, hb16⟩ := QEl hp
    show J _ _ _ _ 20 _ ([]) _ _ _ _
    refine J.iconst (pc := 20) dX10_comes_20 ic_1 ?_
    refine J.istore_n (pc := 21) ([(2, .int (1 : Int32)), (0, .ref v0), (1, .int v1)]) dX10_comes_21 rfl (Nat.le_of_ble_eq_true rfl) rfl ?_
    refine J.pick [1, 2, 0] rfl ?_
    exact (tX10_comes_22 d fuel) v0 v1 (1 : Int32) μ14 h hN15 k0
  · try dsimp only at h
    refine J.callV (Y := mX10_comes) (Z := mX10_needPerson) (pc := 2) (st := []) (k2 := 0) (n2 := 0) dX10_comes_2 ml_RX10_211 mo_X10_needPerson mv_X10_needPerson rfl (tX10_needPerson d e1 hN k0) k0 (okN hN k0 (by decide)).1 (okN hN k0 (by decide)).2 cq_10 (by decide) rfl rfl (Nat.le_of_ble_eq_true rfl) (by decide) (by decide) (fun v ν hp => nlm hp.1) (fun i ν hp => ?_)
    obtain ⟨rfl, rfl, hN9, -⟩ := QEr hp
    cases h
    exact JX.out rfl ⟨rfl, rfl, hN9, trivial⟩
def fL_comes (v0 : Nat) (v1 : Int32) (v2 : Nat) (μ : Mem) : Option (Int32 × Mem) :=
  (fX10_comes v0 v1 μ).bind fun
  | (.inl r3, μ2) =>
    (stL μ2 v2 (0 : Int32) (r3.toInt64)).bind fun μ6 =>
    some ((0 : Int32), μ6)
  | (.inr i9, μ2) =>
    if i9 = 0 then some ((1 : Int32), μ2) else
    none
set_option maxHeartbeats 4000000 in
theorem tL_comes {ω : Wd} {l : Launch} (d : Nat) {v0 : Nat} {v1 : Int32} {v2 : Nat} {μ : Mem} {res : Int32 × Mem} (h : fL_comes v0 v1 v2 μ = some res) (hN : μ.1 = NN) (k0 : (kd v0).1 = 20) (k2 : (kd v2).1 = 1) : Ct ω l mL_comes (d + 10) [.ref v0, .int v1, .ref v2] μ 1 6 (PE (.inl (some (.int res.1))) res.2 True) := by
  refine Ct.of pn_RL (Nat.le_of_ble_eq_true rfl) ?_
  show J ω l mL_comes (d + 10) 0 [(0, .ref v0), (1, .int v1), (2, .ref v2)] [] μ 1 6 _
  unfold fL_comes at h
  refine J.aload_n (pc := 0) dL_comes_0 rfl 2 rfl ?_
  refine J.iconst (pc := 1) dL_comes_1 ic_0 ?_
  refine J.aload_n (pc := 2) dL_comes_2 rfl 0 rfl ?_
  refine J.iload_n (pc := 3) dL_comes_3 rfl 1 rfl ?_
  obtain ⟨⟨q, μ2⟩, e1, h⟩ := bnd h
  rcases q with r3 | i9
  · try dsimp only at h
    refine J.callV (Y := mL_comes) (Z := mX10_comes) (pc := 4) (st := [.int (0 : Int32), .ref v2]) (k2 := 0) (n2 := 0) dL_comes_4 ml_RL_47 mo_X10_comes mv_X10_comes rfl (tX10_comes d e1 hN k0) k0 (okN hN k0 (by decide)).1 (okN hN k0 (by decide)).2 cq_10 (by decide) rfl rfl (Nat.le_of_ble_eq_true rfl) (by decide) (by decide) (fun v ν hp => ?_) (fun i ν hp => nrm hp.1)
    obtain ⟨rfl, rfl, hN4, hb5⟩ := QEl hp
    show J _ _ _ _ 7 _ ([.int r3, .int (0 : Int32), .ref v2]) _ _ _ _
    refine J.i2l (pc := 7) dL_comes_7 ?_
    obtain ⟨μ6, e7, h⟩ := bnd h
    have hN8 : μ6.1 = NN := stL_N e7 hN4
    refine J.wL (pc := 8) dL_comes_8 k2 (okN hN4 k2 (by decide)) e7 ?_
    refine J.goto (pc := 9) (tgt := 15) dL_comes_9 (by decide) ?_
    refine J.iconst (pc := 15) dL_comes_15 ic_0 ?_
    cases h
    exact J.iret (pc := 16) dL_comes_16 rfl ⟨rfl, rfl, hN8, trivial⟩
  · try dsimp only at h
    refine J.callV (Y := mL_comes) (Z := mX10_comes) (pc := 4) (st := [.int (0 : Int32), .ref v2]) (k2 := 0) (n2 := 0) dL_comes_4 ml_RL_47 mo_X10_comes mv_X10_comes rfl (tX10_comes d e1 hN k0) k0 (okN hN k0 (by decide)).1 (okN hN k0 (by decide)).2 cq_10 (by decide) rfl rfl (Nat.le_of_ble_eq_true rfl) (by decide) (by decide) (fun v ν hp => nlm hp.1) (fun i ν hp => ?_)
    obtain ⟨rfl, rfl, hN9, -⟩ := QEr hp
    rcases ifc h with ⟨hc, h⟩ | ⟨hc, h⟩
    · subst hc
      cases h
      exact JX.catch1 (i := 0) (by decide) rfl rfl (Nat.le_of_ble_eq_true rfl) (Nat.le_of_ble_eq_true rfl) (Or.inr ⟨3, Nat.le_of_ble_eq_true rfl, rfl, dL_comes_12⟩) dL_comes_13 ic_1 dL_comes_14 rfl ⟨rfl, rfl, hN9, trivial⟩
    cases h
def fX10_here (v0 : Nat) (μ : Mem) : Option (Nat × Mem) :=
  (gR μ v0 15 15).bind fun a1 =>
  (gR μ v0 4 11).bind fun a4 =>
  (gR μ v0 7 19).bind fun a7 =>
  (fX5_lay a1 a4 a7 μ).bind fun μ11 =>
  (gR μ11 v0 15 15).bind fun a14 =>
  some (a14, μ11)
set_option maxHeartbeats 4000000 in
theorem tX10_here {ω : Wd} {l : Launch} (d : Nat) {v0 : Nat} {μ : Mem} {res : Nat × Mem} (h : fX10_here v0 μ = some res) (hN : μ.1 = NN) (k0 : (kd v0).1 = 20) : Ct ω l mX10_here (d + 1) [.ref v0] μ 0 0 (PE (.inl (some (.ref res.1))) res.2 ((kd res.1).1 = 15)) := by
  refine Ct.of pn_RX10 (Nat.le_of_ble_eq_true rfl) ?_
  show J ω l mX10_here (d + 1) 0 [(0, .ref v0)] [] μ 0 0 _
  unfold fX10_here at h
  refine J.aload_n (pc := 0) dX10_here_0 rfl 0 rfl ?_
  obtain ⟨a1, e2, h⟩ := bnd h
  have k3 : (kd a1).1 = 15 := gR_k e2
  refine J.fR (pc := 1) dX10_here_1 fl_RX10_86 k0 (okN hN k0 (by decide)) rfl e2 ?_
  refine J.aload_n (pc := 4) dX10_here_4 rfl 0 rfl ?_
  obtain ⟨a4, e5, h⟩ := bnd h
  have k6 : (kd a4).1 = 11 := gR_k e5
  refine J.fR (pc := 5) dX10_here_5 fl_RX10_26 k0 (okN hN k0 (by decide)) rfl e5 ?_
  refine J.aload_n (pc := 8) dX10_here_8 rfl 0 rfl ?_
  obtain ⟨a7, e8, h⟩ := bnd h
  have k9 : (kd a7).1 = 19 := gR_k e8
  refine J.fR (pc := 9) dX10_here_9 fl_RX10_45 k0 (okN hN k0 (by decide)) rfl e8 ?_
  obtain ⟨μ11, e10, h⟩ := bnd h
  refine J.callV (Y := mX10_here) (Z := mX5_lay) (pc := 12) (st := []) (k2 := 0) (n2 := 0) dX10_here_12 ml_RX10_419 mo_X5_lay mv_X5_lay rfl (tX5_lay d e10 hN k3 k6 k9) k3 (okN hN k3 (by decide)).1 (okN hN k3 (by decide)).2 cq_5 (by decide) rfl rfl (Nat.le_of_ble_eq_true rfl) (by decide) (by decide) (fun v ν hp => ?_) (fun i ν hp => nrm hp.1)
  obtain ⟨rfl, rfl, hN12, hb13⟩ := QEl hp
  show J _ _ _ _ 15 _ ([]) _ _ _ _
  refine J.aload_n (pc := 15) dX10_here_15 rfl 0 rfl ?_
  obtain ⟨a14, e15, h⟩ := bnd h
  have k16 : (kd a14).1 = 15 := gR_k e15
  refine J.fR (pc := 16) dX10_here_16 fl_RX10_86 k0 (okN hN12 k0 (by decide)) rfl e15 ?_
  cases h
  exact J.aret (pc := 19) dX10_here_19 rfl ⟨rfl, rfl, hN12, k16⟩
def fX10_inked (v0 : Nat) (v1 : Nat) (μ : Mem) : Option (Int32) :=
  (gR μ v0 4 11).bind fun a1 =>
  some (fJ13_bitCount_95d88 ((μ.2.2.1 a1 2) &&& ((μ.2.2.1 v1 1) ^^^ (-1 : Int64))))
set_option maxHeartbeats 4000000 in
theorem tX10_inked {ω : Wd} {l : Launch} (d : Nat) {v0 : Nat} {v1 : Nat} {μ : Mem} {res : Int32} (h : fX10_inked v0 v1 μ = some res) (hN : μ.1 = NN) (k0 : (kd v0).1 = 20) (k1 : (kd v1).1 = 19) : Ct ω l mX10_inked (d + 1) [.ref v0, .ref v1] μ 0 0 (PE (.inl (some (.int res))) μ True) := by
  refine Ct.of pn_RX10 (Nat.le_of_ble_eq_true rfl) ?_
  show J ω l mX10_inked (d + 1) 0 [(0, .ref v0), (1, .ref v1)] [] μ 0 0 _
  unfold fX10_inked at h
  refine J.aload_n (pc := 0) dX10_inked_0 rfl 0 rfl ?_
  obtain ⟨a1, e2, h⟩ := bnd h
  have k3 : (kd a1).1 = 11 := gR_k e2
  refine J.fR (pc := 1) dX10_inked_1 fl_RX10_26 k0 (okN hN k0 (by decide)) rfl e2 ?_
  refine J.fL (pc := 4) dX10_inked_4 fl_RX10_414 k3 (okN hN k3 (by decide)) rfl ?_
  refine J.aload_n (pc := 7) dX10_inked_7 rfl 1 rfl ?_
  refine J.fL (pc := 8) dX10_inked_8 fl_RX10_191 k1 (okN hN k1 (by decide)) rfl ?_
  refine J.ldc2 (pc := 11) dX10_inked_11 kl_RX10_417 ?_
  refine J.lxor (pc := 14) dX10_inked_14 ?_
  refine J.land (pc := 15) dX10_inked_15 ?_
  refine J.callS (Y := mX10_inked) (Z := mJ13_bitCount_95d88) (pc := 16) (st := []) (k2 := 0) (n2 := 0) dX10_inked_16 ml_RX10_165 mo_J13_bitCount_95d88 ms_J13_bitCount_95d88 rfl (tJ13_bitCount_95d88 d ((μ.2.2.1 a1 2) &&& ((μ.2.2.1 v1 1) ^^^ (-1 : Int64))) μ hN ) rfl rfl (Nat.le_of_ble_eq_true rfl) (by decide) (by decide) (fun v ν hp => ?_) (fun i ν hp => nrm hp.1)
  obtain ⟨rfl, rfl, hN5, hb6⟩ := QEl hp
  show J _ _ _ _ 19 _ ([.int (fJ13_bitCount_95d88 ((μ.2.2.1 a1 2) &&& ((μ.2.2.1 v1 1) ^^^ (-1 : Int64))))]) _ _ _ _
  cases h
  exact J.iret (pc := 19) dX10_inked_19 rfl ⟨rfl, rfl, hN5, trivial⟩
def fX5_flood_6 (μ : Mem) : Nat → Nat → Int64 → Int64 → Int32 → Option (Int64)
  | 0, _, _, _, _ => none
  | n + 1, v0, v3, v5, v7 =>
    if v7 < (48 : Int32) then
      if (v5 ||| ((fX5_beside v0 v5 μ) &&& v3)) = v5 then
        some v5
      else
        (fX5_flood_6 μ n) v0 v3 (v5 ||| ((fX5_beside v0 v5 μ) &&& v3)) (v7 + (1 : Int32))
    else
      some v5
set_option maxHeartbeats 4000000 in
theorem tX5_flood_6 {ω : Wd} {l : Launch} (d : Nat) {μ : Mem} (hN : μ.1 = NN) {res : Int64} : ∀ n : Nat, ∀ (v0 : Nat) (v3 : Int64) (v5 : Int64) (v7 : Int32), fX5_flood_6 μ n v0 v3 v5 v7 = some res → (kd v0).1 = 15 → J ω l mX5_flood (d + 1) 6 [(0, .ref v0), (3, .long v3), (5, .long v5), (7, .int v7)] [] μ 0 0 (PE (.inl (some (.long res))) μ True) := by
  intro n
  induction n with
  | zero =>
    intro v0 v3 v5 v7 h k0
    have h9 : (none : Option (Int64)) = some res := h
    cases h9
  | succ n ih =>
    intro v0 v3 v5 v7 h k0
    unfold fX5_flood_6 at h
    refine J.iload (pc := 6) dX5_flood_6 3 rfl ?_
    refine J.bipush (pc := 8) dX5_flood_8 ib_48 ?_
    rcases ifc h with ⟨hc, h⟩ | ⟨hc, h⟩
    · refine J.cge (pc := 10) (tgt := 47) dX5_flood_10 (by decide) (fun _ => ?_) (fun q => absurd hc q)
      refine J.lload (pc := 13) dX5_flood_13 2 rfl ?_
      refine J.aload_n (pc := 15) dX5_flood_15 rfl 0 rfl ?_
      refine J.lload (pc := 16) dX5_flood_16 2 rfl ?_
      refine J.callV (Y := mX5_flood) (Z := mX5_beside) (pc := 18) (st := [.long v5]) (k2 := 0) (n2 := 0) dX5_flood_18 ml_RX5_44 mo_X5_beside mv_X5_beside rfl (tX5_beside d v0 v5 μ hN k0) k0 (okN hN k0 (by decide)).1 (okN hN k0 (by decide)).2 cq_5 (by decide) rfl rfl (Nat.le_of_ble_eq_true rfl) (by decide) (by decide) (fun v ν hp => ?_) (fun i ν hp => nrm hp.1)
      obtain ⟨rfl, rfl, hN2, hb3⟩ := QEl hp
      show J _ _ _ _ 21 _ ([.long (fX5_beside v0 v5 μ), .long v5]) _ _ _ _
      refine J.lload_n (pc := 21) dX5_flood_21 rfl 1 rfl ?_
      refine J.land (pc := 22) dX5_flood_22 ?_
      refine J.lor (pc := 23) dX5_flood_23 ?_
      refine J.lstore (pc := 24) ([(8, .long (v5 ||| ((fX5_beside v0 v5 μ) &&& v3))), (0, .ref v0), (3, .long v3), (5, .long v5), (7, .int v7)]) dX5_flood_24 (Nat.le_of_ble_eq_true rfl) rfl ?_
      refine J.lload (pc := 26) dX5_flood_26 0 rfl ?_
      refine J.lload (pc := 28) dX5_flood_28 3 rfl ?_
      rcases ifc h with ⟨hc, h⟩ | ⟨hc, h⟩
      · refine J.mne (pc := 30) (tgt := 37) dX5_flood_30 dX5_flood_31 (by decide) (fun _ => ?_) (fun q => absurd hc q)
        refine J.lload (pc := 34) dX5_flood_34 3 rfl ?_
        cases h
        exact J.lret (pc := 36) dX5_flood_36 rfl ⟨rfl, rfl, hN2, trivial⟩
      · refine J.mne (pc := 30) (tgt := 37) dX5_flood_30 dX5_flood_31 (by decide) (fun q => absurd q hc) (fun _ => ?_)
        refine J.lload (pc := 37) dX5_flood_37 0 rfl ?_
        refine J.lstore (pc := 39) ([(5, .long (v5 ||| ((fX5_beside v0 v5 μ) &&& v3))), (8, .long (v5 ||| ((fX5_beside v0 v5 μ) &&& v3))), (0, .ref v0), (3, .long v3), (7, .int v7)]) dX5_flood_39 (Nat.le_of_ble_eq_true rfl) rfl ?_
        refine J.iinc (pc := 41) (j := 4) ([(7, .int (v7 + (1 : Int32))), (5, .long (v5 ||| ((fX5_beside v0 v5 μ) &&& v3))), (8, .long (v5 ||| ((fX5_beside v0 v5 μ) &&& v3))), (0, .ref v0), (3, .long v3)]) dX5_flood_41 rfl (iincv ic_1) (Nat.le_of_ble_eq_true rfl) rfl ?_
        refine J.goto (pc := 44) (tgt := 6) dX5_flood_44 (by decide) ?_
        refine J.pick [3, 4, 1, 0] rfl ?_
        exact ih v0 v3 (v5 ||| ((fX5_beside v0 v5 μ) &&& v3)) (v7 + (1 : Int32)) h k0
    · refine J.cge (pc := 10) (tgt := 47) dX5_flood_10 (by decide) (fun q => absurd q hc) (fun _ => ?_)
      refine J.lload (pc := 47) dX5_flood_47 2 rfl ?_
      cases h
      exact J.lret (pc := 49) dX5_flood_49 rfl ⟨rfl, rfl, hN, trivial⟩
def fX5_flood (v0 : Nat) (v1 : Int64) (v3 : Int64) (μ : Mem) : Option (Int64) :=
  (fX5_flood_6 μ fuel) v0 v3 v1 (0 : Int32)
set_option maxHeartbeats 4000000 in
theorem tX5_flood {ω : Wd} {l : Launch} (d : Nat) {v0 : Nat} {v1 : Int64} {v3 : Int64} {μ : Mem} {res : Int64} (h : fX5_flood v0 v1 v3 μ = some res) (hN : μ.1 = NN) (k0 : (kd v0).1 = 15) : Ct ω l mX5_flood (d + 1) [.ref v0, .long v1, .long v3] μ 0 0 (PE (.inl (some (.long res))) μ True) := by
  refine Ct.of pn_RX5 (Nat.le_of_ble_eq_true rfl) ?_
  show J ω l mX5_flood (d + 1) 0 [(0, .ref v0), (1, .long v1), (3, .long v3)] [] μ 0 0 _
  unfold fX5_flood at h
  refine J.lload_n (pc := 0) dX5_flood_0 rfl 1 rfl ?_
  refine J.lstore (pc := 1) ([(5, .long v1), (0, .ref v0), (1, .long v1), (3, .long v3)]) dX5_flood_1 (Nat.le_of_ble_eq_true rfl) rfl ?_
  refine J.iconst (pc := 3) dX5_flood_3 ic_0 ?_
  refine J.istore (pc := 4) ([(7, .int (0 : Int32)), (5, .long v1), (0, .ref v0), (1, .long v1), (3, .long v3)]) dX5_flood_4 (Nat.le_of_ble_eq_true rfl) rfl ?_
  refine J.pick [2, 4, 1, 0] rfl ?_
  exact (tX5_flood_6 d hN fuel) v0 v3 v1 (0 : Int32) h k0
def fX5_parts_10 (μ : Mem) : Nat → Nat → Int32 → Int64 → Int32 → Option (Int32)
  | 0, _, _, _, _ => none
  | n + 1, v0, v1, v2, v4 =>
    if v4 < (48 : Int32) then
      if v2 = (0 : Int64) then
        some v1
      else
        (fX5_flood v0 (v2 &&& (-v2)) (μ.2.2.1 v0 1) μ).bind fun r2 =>
        (fX5_parts_10 μ n) v0 (v1 + (1 : Int32)) (v2 &&& (r2 ^^^ (-1 : Int64))) (v4 + (1 : Int32))
    else
      some v1
set_option maxHeartbeats 4000000 in
theorem tX5_parts_10 {ω : Wd} {l : Launch} (d : Nat) {μ : Mem} (hN : μ.1 = NN) {res : Int32} : ∀ n : Nat, ∀ (v0 : Nat) (v1 : Int32) (v2 : Int64) (v4 : Int32), fX5_parts_10 μ n v0 v1 v2 v4 = some res → (kd v0).1 = 15 → J ω l mX5_parts (d + 2) 10 [(0, .ref v0), (1, .int v1), (2, .long v2), (4, .int v4)] [] μ 0 0 (PE (.inl (some (.int res))) μ True) := by
  intro n
  induction n with
  | zero =>
    intro v0 v1 v2 v4 h k0
    have h9 : (none : Option (Int32)) = some res := h
    cases h9
  | succ n ih =>
    intro v0 v1 v2 v4 h k0
    unfold fX5_parts_10 at h
    refine J.iload (pc := 10) dX5_parts_10 3 rfl ?_
    refine J.bipush (pc := 12) dX5_parts_12 ib_48 ?_
    rcases ifc h with ⟨hc, h⟩ | ⟨hc, h⟩
    · refine J.cge (pc := 14) (tgt := 51) dX5_parts_14 (by decide) (fun _ => ?_) (fun q => absurd hc q)
      refine J.lload_n (pc := 17) dX5_parts_17 rfl 2 rfl ?_
      refine J.lconst (pc := 18) dX5_parts_18 lc_0 ?_
      rcases ifc h with ⟨hc, h⟩ | ⟨hc, h⟩
      · refine J.meq (pc := 19) (tgt := 51) dX5_parts_19 dX5_parts_20 (by decide) (fun _ => ?_) (fun q => absurd hc q)
        refine J.iload_n (pc := 51) dX5_parts_51 rfl 1 rfl ?_
        cases h
        exact J.iret (pc := 52) dX5_parts_52 rfl ⟨rfl, rfl, hN, trivial⟩
      · refine J.meq (pc := 19) (tgt := 51) dX5_parts_19 dX5_parts_20 (by decide) (fun q => absurd q hc) (fun _ => ?_)
        refine J.lload_n (pc := 23) dX5_parts_23 rfl 2 rfl ?_
        refine J.aload_n (pc := 24) dX5_parts_24 rfl 0 rfl ?_
        refine J.lload_n (pc := 25) dX5_parts_25 rfl 2 rfl ?_
        refine J.lload_n (pc := 26) dX5_parts_26 rfl 2 rfl ?_
        refine J.lneg (pc := 27) dX5_parts_27 ?_
        refine J.land (pc := 28) dX5_parts_28 ?_
        refine J.aload_n (pc := 29) dX5_parts_29 rfl 0 rfl ?_
        refine J.fL (pc := 30) dX5_parts_30 fl_RX5_15 k0 (okN hN k0 (by decide)) rfl ?_
        obtain ⟨r2, e1, h⟩ := bnd h
        refine J.callV (Y := mX5_parts) (Z := mX5_flood) (pc := 33) (st := [.long v2]) (k2 := 0) (n2 := 0) dX5_parts_33 ml_RX5_54 mo_X5_flood mv_X5_flood rfl (tX5_flood d e1 hN k0) k0 (okN hN k0 (by decide)).1 (okN hN k0 (by decide)).2 cq_5 (by decide) rfl rfl (Nat.le_of_ble_eq_true rfl) (by decide) (by decide) (fun v ν hp => ?_) (fun i ν hp => nrm hp.1)
        obtain ⟨rfl, rfl, hN3, hb4⟩ := QEl hp
        show J _ _ _ _ 36 _ ([.long r2, .long v2]) _ _ _ _
        refine J.ldc2 (pc := 36) dX5_parts_36 kl_RX5_48 ?_
        refine J.lxor (pc := 39) dX5_parts_39 ?_
        refine J.land (pc := 40) dX5_parts_40 ?_
        refine J.lstore_n (pc := 41) ([(2, .long (v2 &&& (r2 ^^^ (-1 : Int64)))), (0, .ref v0), (1, .int v1), (4, .int v4)]) dX5_parts_41 rfl (Nat.le_of_ble_eq_true rfl) rfl ?_
        refine J.iinc (pc := 42) (j := 2) ([(1, .int (v1 + (1 : Int32))), (2, .long (v2 &&& (r2 ^^^ (-1 : Int64)))), (0, .ref v0), (4, .int v4)]) dX5_parts_42 rfl (iincv ic_1) (Nat.le_of_ble_eq_true rfl) rfl ?_
        refine J.iinc (pc := 45) (j := 3) ([(4, .int (v4 + (1 : Int32))), (1, .int (v1 + (1 : Int32))), (2, .long (v2 &&& (r2 ^^^ (-1 : Int64)))), (0, .ref v0)]) dX5_parts_45 rfl (iincv ic_1) (Nat.le_of_ble_eq_true rfl) rfl ?_
        refine J.goto (pc := 48) (tgt := 10) dX5_parts_48 (by decide) ?_
        refine J.pick [3, 1, 2, 0] rfl ?_
        exact ih v0 (v1 + (1 : Int32)) (v2 &&& (r2 ^^^ (-1 : Int64))) (v4 + (1 : Int32)) h k0
    · refine J.cge (pc := 14) (tgt := 51) dX5_parts_14 (by decide) (fun q => absurd q hc) (fun _ => ?_)
      refine J.iload_n (pc := 51) dX5_parts_51 rfl 1 rfl ?_
      cases h
      exact J.iret (pc := 52) dX5_parts_52 rfl ⟨rfl, rfl, hN, trivial⟩
def fX5_parts (v0 : Nat) (μ : Mem) : Option (Int32) :=
  (fX5_parts_10 μ fuel) v0 (0 : Int32) (μ.2.2.1 v0 1) (0 : Int32)
set_option maxHeartbeats 4000000 in
theorem tX5_parts {ω : Wd} {l : Launch} (d : Nat) {v0 : Nat} {μ : Mem} {res : Int32} (h : fX5_parts v0 μ = some res) (hN : μ.1 = NN) (k0 : (kd v0).1 = 15) : Ct ω l mX5_parts (d + 2) [.ref v0] μ 0 0 (PE (.inl (some (.int res))) μ True) := by
  refine Ct.of pn_RX5 (Nat.le_of_ble_eq_true rfl) ?_
  show J ω l mX5_parts (d + 2) 0 [(0, .ref v0)] [] μ 0 0 _
  unfold fX5_parts at h
  refine J.iconst (pc := 0) dX5_parts_0 ic_0 ?_
  refine J.istore_n (pc := 1) ([(1, .int (0 : Int32)), (0, .ref v0)]) dX5_parts_1 rfl (Nat.le_of_ble_eq_true rfl) rfl ?_
  refine J.aload_n (pc := 2) dX5_parts_2 rfl 1 rfl ?_
  refine J.fL (pc := 3) dX5_parts_3 fl_RX5_15 k0 (okN hN k0 (by decide)) rfl ?_
  refine J.lstore_n (pc := 6) ([(2, .long (μ.2.2.1 v0 1)), (1, .int (0 : Int32)), (0, .ref v0)]) dX5_parts_6 rfl (Nat.le_of_ble_eq_true rfl) rfl ?_
  refine J.iconst (pc := 7) dX5_parts_7 ic_0 ?_
  refine J.istore (pc := 8) ([(4, .int (0 : Int32)), (2, .long (μ.2.2.1 v0 1)), (1, .int (0 : Int32)), (0, .ref v0)]) dX5_parts_8 (Nat.le_of_ble_eq_true rfl) rfl ?_
  refine J.pick [3, 2, 1, 0] rfl ?_
  exact (tX5_parts_10 d hN fuel) v0 (0 : Int32) (μ.2.2.1 v0 1) (0 : Int32) h k0
def fX9_metByAll_4 (μ : Mem) : Nat → Nat → Int32 → Int32 → Option (Int32)
  | 0, _, _, _ => none
  | n + 1, v0, v1, v2 =>
    if v2 < (6 : Int32) then
      (gR μ v0 6 0).bind fun a1 =>
      (ldI μ a1 v2).bind fun x4 =>
      (fX9_metByAll_4 μ n) v0 (v1 + x4) (v2 + (1 : Int32))
    else
      some v1
set_option maxHeartbeats 4000000 in
theorem tX9_metByAll_4 {ω : Wd} {l : Launch} (d : Nat) {μ : Mem} (hN : μ.1 = NN) {res : Int32} : ∀ n : Nat, ∀ (v0 : Nat) (v1 : Int32) (v2 : Int32), fX9_metByAll_4 μ n v0 v1 v2 = some res → (kd v0).1 = 19 → J ω l mX9_metByAll d 4 [(0, .ref v0), (1, .int v1), (2, .int v2)] [] μ 0 0 (PE (.inl (some (.int res))) μ True) := by
  intro n
  induction n with
  | zero =>
    intro v0 v1 v2 h k0
    have h9 : (none : Option (Int32)) = some res := h
    cases h9
  | succ n ih =>
    intro v0 v1 v2 h k0
    unfold fX9_metByAll_4 at h
    refine J.iload_n (pc := 4) dX9_metByAll_4 rfl 2 rfl ?_
    refine J.bipush (pc := 5) dX9_metByAll_5 ib_6 ?_
    rcases ifc h with ⟨hc, h⟩ | ⟨hc, h⟩
    · refine J.cge (pc := 7) (tgt := 25) dX9_metByAll_7 (by decide) (fun _ => ?_) (fun q => absurd hc q)
      refine J.iload_n (pc := 10) dX9_metByAll_10 rfl 1 rfl ?_
      refine J.aload_n (pc := 11) dX9_metByAll_11 rfl 0 rfl ?_
      obtain ⟨a1, e2, h⟩ := bnd h
      have k3 : (kd a1).1 = 0 := gR_k e2
      refine J.fR (pc := 12) dX9_metByAll_12 fl_RX9_32 k0 (okN hN k0 (by decide)) rfl e2 ?_
      refine J.iload_n (pc := 15) dX9_metByAll_15 rfl 2 rfl ?_
      obtain ⟨x4, e5, h⟩ := bnd h
      refine J.aI (pc := 16) dX9_metByAll_16 k3 (okN hN k3 (by decide)) e5 ?_
      refine J.iadd (pc := 17) dX9_metByAll_17 ?_
      refine J.istore_n (pc := 18) ([(1, .int (v1 + x4)), (0, .ref v0), (2, .int v2)]) dX9_metByAll_18 rfl (Nat.le_of_ble_eq_true rfl) rfl ?_
      refine J.iinc (pc := 19) (j := 2) ([(2, .int (v2 + (1 : Int32))), (1, .int (v1 + x4)), (0, .ref v0)]) dX9_metByAll_19 rfl (iincv ic_1) (Nat.le_of_ble_eq_true rfl) rfl ?_
      refine J.goto (pc := 22) (tgt := 4) dX9_metByAll_22 (by decide) ?_
      refine J.pick [2, 1, 0] rfl ?_
      exact ih v0 (v1 + x4) (v2 + (1 : Int32)) h k0
    · refine J.cge (pc := 7) (tgt := 25) dX9_metByAll_7 (by decide) (fun q => absurd q hc) (fun _ => ?_)
      refine J.iload_n (pc := 25) dX9_metByAll_25 rfl 1 rfl ?_
      cases h
      exact J.iret (pc := 26) dX9_metByAll_26 rfl ⟨rfl, rfl, hN, trivial⟩
def fX9_metByAll (v0 : Nat) (μ : Mem) : Option (Int32) :=
  (fX9_metByAll_4 μ fuel) v0 (0 : Int32) (0 : Int32)
set_option maxHeartbeats 4000000 in
theorem tX9_metByAll {ω : Wd} {l : Launch} (d : Nat) {v0 : Nat} {μ : Mem} {res : Int32} (h : fX9_metByAll v0 μ = some res) (hN : μ.1 = NN) (k0 : (kd v0).1 = 19) : Ct ω l mX9_metByAll d [.ref v0] μ 0 0 (PE (.inl (some (.int res))) μ True) := by
  refine Ct.of pn_RX9 (Nat.le_of_ble_eq_true rfl) ?_
  show J ω l mX9_metByAll d 0 [(0, .ref v0)] [] μ 0 0 _
  unfold fX9_metByAll at h
  refine J.iconst (pc := 0) dX9_metByAll_0 ic_0 ?_
  refine J.istore_n (pc := 1) ([(1, .int (0 : Int32)), (0, .ref v0)]) dX9_metByAll_1 rfl (Nat.le_of_ble_eq_true rfl) rfl ?_
  refine J.iconst (pc := 2) dX9_metByAll_2 ic_0 ?_
  refine J.istore_n (pc := 3) ([(2, .int (0 : Int32)), (1, .int (0 : Int32)), (0, .ref v0)]) dX9_metByAll_3 rfl (Nat.le_of_ble_eq_true rfl) rfl ?_
  refine J.pick [2, 1, 0] rfl ?_
  exact (tX9_metByAll_4 d hN fuel) v0 (0 : Int32) (0 : Int32) h k0
def fX9_sentBits_4 (μ : Mem) : Nat → Nat → Int32 → Int32 → Option (Int32)
  | 0, _, _, _ => none
  | n + 1, v0, v1, v2 =>
    if v2 < (6 : Int32) then
      (gR μ v0 5 0).bind fun a1 =>
      (ldI μ a1 v2).bind fun x4 =>
      if x4 = (-1 : Int32) then
        (fX9_sentBits_4 μ n) v0 v1 (v2 + (1 : Int32))
      else
        (fX9_sentBits_4 μ n) v0 (v1 ||| ((1 : Int32) <<< (v2 &&& 31))) (v2 + (1 : Int32))
    else
      some v1
set_option maxHeartbeats 4000000 in
theorem tX9_sentBits_4 {ω : Wd} {l : Launch} (d : Nat) {μ : Mem} (hN : μ.1 = NN) {res : Int32} : ∀ n : Nat, ∀ (v0 : Nat) (v1 : Int32) (v2 : Int32), fX9_sentBits_4 μ n v0 v1 v2 = some res → (kd v0).1 = 19 → J ω l mX9_sentBits d 4 [(0, .ref v0), (1, .int v1), (2, .int v2)] [] μ 0 0 (PE (.inl (some (.int res))) μ True) := by
  intro n
  induction n with
  | zero =>
    intro v0 v1 v2 h k0
    have h9 : (none : Option (Int32)) = some res := h
    cases h9
  | succ n ih =>
    intro v0 v1 v2 h k0
    unfold fX9_sentBits_4 at h
    refine J.iload_n (pc := 4) dX9_sentBits_4 rfl 2 rfl ?_
    refine J.bipush (pc := 5) dX9_sentBits_5 ib_6 ?_
    rcases ifc h with ⟨hc, h⟩ | ⟨hc, h⟩
    · refine J.cge (pc := 7) (tgt := 32) dX9_sentBits_7 (by decide) (fun _ => ?_) (fun q => absurd hc q)
      refine J.aload_n (pc := 10) dX9_sentBits_10 rfl 0 rfl ?_
      obtain ⟨a1, e2, h⟩ := bnd h
      have k3 : (kd a1).1 = 0 := gR_k e2
      refine J.fR (pc := 11) dX9_sentBits_11 fl_RX9_29 k0 (okN hN k0 (by decide)) rfl e2 ?_
      refine J.iload_n (pc := 14) dX9_sentBits_14 rfl 2 rfl ?_
      obtain ⟨x4, e5, h⟩ := bnd h
      refine J.aI (pc := 15) dX9_sentBits_15 k3 (okN hN k3 (by decide)) e5 ?_
      refine J.iconst (pc := 16) dX9_sentBits_16 ic_m1 ?_
      rcases ifc h with ⟨hc, h⟩ | ⟨hc, h⟩
      · refine J.ceq (pc := 17) (tgt := 26) dX9_sentBits_17 (by decide) (fun _ => ?_) (fun q => absurd hc q)
        refine J.iinc (pc := 26) (j := 2) ([(2, .int (v2 + (1 : Int32))), (0, .ref v0), (1, .int v1)]) dX9_sentBits_26 rfl (iincv ic_1) (Nat.le_of_ble_eq_true rfl) rfl ?_
        refine J.goto (pc := 29) (tgt := 4) dX9_sentBits_29 (by decide) ?_
        refine J.pick [1, 2, 0] rfl ?_
        exact ih v0 v1 (v2 + (1 : Int32)) h k0
      · refine J.ceq (pc := 17) (tgt := 26) dX9_sentBits_17 (by decide) (fun q => absurd q hc) (fun _ => ?_)
        refine J.iload_n (pc := 20) dX9_sentBits_20 rfl 1 rfl ?_
        refine J.iconst (pc := 21) dX9_sentBits_21 ic_1 ?_
        refine J.iload_n (pc := 22) dX9_sentBits_22 rfl 2 rfl ?_
        refine J.ishl (pc := 23) dX9_sentBits_23 ?_
        refine J.ior (pc := 24) dX9_sentBits_24 ?_
        refine J.istore_n (pc := 25) ([(1, .int (v1 ||| ((1 : Int32) <<< (v2 &&& 31)))), (0, .ref v0), (2, .int v2)]) dX9_sentBits_25 rfl (Nat.le_of_ble_eq_true rfl) rfl ?_
        refine J.iinc (pc := 26) (j := 2) ([(2, .int (v2 + (1 : Int32))), (1, .int (v1 ||| ((1 : Int32) <<< (v2 &&& 31)))), (0, .ref v0)]) dX9_sentBits_26 rfl (iincv ic_1) (Nat.le_of_ble_eq_true rfl) rfl ?_
        refine J.goto (pc := 29) (tgt := 4) dX9_sentBits_29 (by decide) ?_
        refine J.pick [2, 1, 0] rfl ?_
        exact ih v0 (v1 ||| ((1 : Int32) <<< (v2 &&& 31))) (v2 + (1 : Int32)) h k0
    · refine J.cge (pc := 7) (tgt := 32) dX9_sentBits_7 (by decide) (fun q => absurd q hc) (fun _ => ?_)
      refine J.iload_n (pc := 32) dX9_sentBits_32 rfl 1 rfl ?_
      cases h
      exact J.iret (pc := 33) dX9_sentBits_33 rfl ⟨rfl, rfl, hN, trivial⟩
def fX9_sentBits (v0 : Nat) (μ : Mem) : Option (Int32) :=
  (fX9_sentBits_4 μ fuel) v0 (0 : Int32) (0 : Int32)
set_option maxHeartbeats 4000000 in
theorem tX9_sentBits {ω : Wd} {l : Launch} (d : Nat) {v0 : Nat} {μ : Mem} {res : Int32} (h : fX9_sentBits v0 μ = some res) (hN : μ.1 = NN) (k0 : (kd v0).1 = 19) : Ct ω l mX9_sentBits d [.ref v0] μ 0 0 (PE (.inl (some (.int res))) μ True) := by
  refine Ct.of pn_RX9 (Nat.le_of_ble_eq_true rfl) ?_
  show J ω l mX9_sentBits d 0 [(0, .ref v0)] [] μ 0 0 _
  unfold fX9_sentBits at h
  refine J.iconst (pc := 0) dX9_sentBits_0 ic_0 ?_
  refine J.istore_n (pc := 1) ([(1, .int (0 : Int32)), (0, .ref v0)]) dX9_sentBits_1 rfl (Nat.le_of_ble_eq_true rfl) rfl ?_
  refine J.iconst (pc := 2) dX9_sentBits_2 ic_0 ?_
  refine J.istore_n (pc := 3) ([(2, .int (0 : Int32)), (1, .int (0 : Int32)), (0, .ref v0)]) dX9_sentBits_3 rfl (Nat.le_of_ble_eq_true rfl) rfl ?_
  refine J.pick [2, 1, 0] rfl ?_
  exact (tX9_sentBits_4 d hN fuel) v0 (0 : Int32) (0 : Int32) h k0
def fX10_count (v0 : Nat) (v1 : Int32) (μ : Mem) : Option ((Int32 ⊕ Nat) × Mem) :=
  (fX10_needWhat v0 v1 (14 : Int32)).bind fun
  | .inl _ =>
    if v1 = (0 : Int32) then
      (gR μ v0 4 11).bind fun a4 =>
      some (.inl (μ.2.1 a4 0), μ)
    else
    if v1 = (1 : Int32) then
      (gR μ v0 4 11).bind fun a7 =>
      some (.inl (μ.2.1 a7 1), μ)
    else
    if v1 = (2 : Int32) then
      (gR μ v0 7 19).bind fun a10 =>
      some (.inl (μ.2.1 a10 0), μ)
    else
    if v1 = (3 : Int32) then
      (fX10_here v0 μ).bind fun (a15, μ14) =>
      (fX5_parts a15 μ14).bind fun r19 =>
      some (.inl r19, μ14)
    else
    if v1 = (4 : Int32) then
      (gR μ v0 7 19).bind fun a22 =>
      some (.inl (fJ13_bitCount_95d88 (μ.2.2.1 a22 2)), μ)
    else
    if v1 = (5 : Int32) then
      (gR μ v0 7 19).bind fun a28 =>
      (fX10_inked v0 a28 μ).bind fun r32 =>
      some (.inl r32, μ)
    else
    if v1 = (6 : Int32) then
      (gR μ v0 7 19).bind fun a35 =>
      (fX9_sentBits a35 μ).bind fun r39 =>
      some (.inl r39, μ)
    else
    if v1 = (7 : Int32) then
      (gR μ v0 7 19).bind fun a42 =>
      (fX9_metByAll a42 μ).bind fun r46 =>
      some (.inl r46, μ)
    else
    if v1 = (8 : Int32) then
      (gR μ v0 8 10).bind fun a49 =>
      some (.inl (μ.2.1 a49 0), μ)
    else
    if v1 = (9 : Int32) then
      (gR μ v0 9 18).bind fun a52 =>
      some (.inl (μ.2.1 a52 0), μ)
    else
    if v1 = (10 : Int32) then
      some (.inl (μ.2.1 v0 1), μ)
    else
    (gR μ v0 3 0).bind fun a55 =>
    (ldI μ a55 (v1 - (11 : Int32))).bind fun x58 =>
    some (.inl x58, μ)
  | .inr i60 =>
    some (.inr i60, μ)
set_option maxHeartbeats 4000000 in
theorem tX10_count {ω : Wd} {l : Launch} (d : Nat) {v0 : Nat} {v1 : Int32} {μ : Mem} {res : (Int32 ⊕ Nat) × Mem} (h : fX10_count v0 v1 μ = some res) (hN : μ.1 = NN) (k0 : (kd v0).1 = 20) : Ct ω l mX10_count (d + 9) [.ref v0, .int v1] μ 1 6 (PE (oI res.1) res.2 True) := by
  refine Ct.of pn_RX10 (Nat.le_of_ble_eq_true rfl) ?_
  show J ω l mX10_count (d + 9) 0 [(0, .ref v0), (1, .int v1)] [] μ 1 6 _
  unfold fX10_count at h
  refine J.aload_n (pc := 0) dX10_count_0 rfl 0 rfl ?_
  refine J.iload_n (pc := 1) dX10_count_1 rfl 1 rfl ?_
  refine J.bipush (pc := 2) dX10_count_2 ib_14 ?_
  obtain ⟨q, e1, h⟩ := bnd h
  rcases q with u | i60
  · try dsimp only at h
    refine J.callV (Y := mX10_count) (Z := mX10_needWhat) (pc := 4) (st := []) (k2 := 0) (n2 := 0) dX10_count_4 ml_RX10_140 mo_X10_needWhat mv_X10_needWhat rfl (tX10_needWhat d e1 hN k0) k0 (okN hN k0 (by decide)).1 (okN hN k0 (by decide)).2 cq_10 (by decide) rfl rfl (Nat.le_of_ble_eq_true rfl) (by decide) (by decide) (fun v ν hp => ?_) (fun i ν hp => nrm hp.1)
    obtain ⟨rfl, rfl, hN2, hb3⟩ := QEl hp
    show J _ _ _ _ 7 _ ([]) _ _ _ _
    refine J.iload_n (pc := 7) dX10_count_7 rfl 1 rfl ?_
    rcases ifc h with ⟨hc, h⟩ | ⟨ns61, h⟩
    · refine J.tableIn (pc := 8) (off := 60) (tgt := 68) dX10_count_8 (by rw [hc]; decide) (by rw [hc]; decide) (by rw [hc]; decide) (by decide) ?_
      refine J.aload_n (pc := 68) dX10_count_68 rfl 0 rfl ?_
      obtain ⟨a4, e5, h⟩ := bnd h
      have k6 : (kd a4).1 = 11 := gR_k e5
      refine J.fR (pc := 69) dX10_count_69 fl_RX10_26 k0 (okN hN2 k0 (by decide)) rfl e5 ?_
      refine J.fI (pc := 72) dX10_count_72 fl_RX10_144 k6 (okN hN2 k6 (by decide)) (Or.inl rfl) ?_
      cases h
      exact J.iret (pc := 75) dX10_count_75 rfl ⟨rfl, rfl, hN2, trivial⟩
    rcases ifc h with ⟨hc, h⟩ | ⟨ns62, h⟩
    · refine J.tableIn (pc := 8) (off := 68) (tgt := 76) dX10_count_8 (by rw [hc]; decide) (by rw [hc]; decide) (by rw [hc]; decide) (by decide) ?_
      refine J.aload_n (pc := 76) dX10_count_76 rfl 0 rfl ?_
      obtain ⟨a7, e8, h⟩ := bnd h
      have k9 : (kd a7).1 = 11 := gR_k e8
      refine J.fR (pc := 77) dX10_count_77 fl_RX10_26 k0 (okN hN2 k0 (by decide)) rfl e8 ?_
      refine J.fI (pc := 80) dX10_count_80 fl_RX10_147 k9 (okN hN2 k9 (by decide)) (Or.inl rfl) ?_
      cases h
      exact J.iret (pc := 83) dX10_count_83 rfl ⟨rfl, rfl, hN2, trivial⟩
    rcases ifc h with ⟨hc, h⟩ | ⟨ns63, h⟩
    · refine J.tableIn (pc := 8) (off := 76) (tgt := 84) dX10_count_8 (by rw [hc]; decide) (by rw [hc]; decide) (by rw [hc]; decide) (by decide) ?_
      refine J.aload_n (pc := 84) dX10_count_84 rfl 0 rfl ?_
      obtain ⟨a10, e11, h⟩ := bnd h
      have k12 : (kd a10).1 = 19 := gR_k e11
      refine J.fR (pc := 85) dX10_count_85 fl_RX10_45 k0 (okN hN2 k0 (by decide)) rfl e11 ?_
      refine J.fI (pc := 88) dX10_count_88 fl_RX10_150 k12 (okN hN2 k12 (by decide)) (Or.inl rfl) ?_
      cases h
      exact J.iret (pc := 91) dX10_count_91 rfl ⟨rfl, rfl, hN2, trivial⟩
    rcases ifc h with ⟨hc, h⟩ | ⟨ns64, h⟩
    · refine J.tableIn (pc := 8) (off := 84) (tgt := 92) dX10_count_8 (by rw [hc]; decide) (by rw [hc]; decide) (by rw [hc]; decide) (by decide) ?_
      refine J.aload_n (pc := 92) dX10_count_92 rfl 0 rfl ?_
      obtain ⟨⟨a15, μ14⟩, e13, h⟩ := bnd h
      try dsimp only at h
      refine J.callV (Y := mX10_count) (Z := mX10_here) (pc := 93) (st := []) (k2 := 0) (n2 := 0) dX10_count_93 ml_RX10_153 mo_X10_here mv_X10_here rfl (tX10_here (d + 7) e13 hN2 k0) k0 (okN hN2 k0 (by decide)).1 (okN hN2 k0 (by decide)).2 cq_10 (by decide) rfl rfl (Nat.le_of_ble_eq_true rfl) (by decide) (by decide) (fun v ν hp => ?_) (fun i ν hp => nrm hp.1)
      obtain ⟨rfl, rfl, hN16, hb17⟩ := QEl hp
      show J _ _ _ _ 96 _ ([.ref a15]) _ _ _ _
      obtain ⟨r19, e18, h⟩ := bnd h
      refine J.callV (Y := mX10_count) (Z := mX5_parts) (pc := 96) (st := []) (k2 := 0) (n2 := 0) dX10_count_96 ml_RX10_157 mo_X5_parts mv_X5_parts rfl (tX5_parts (d + 6) e18 hN16 hb17) hb17 (okN hN16 hb17 (by decide)).1 (okN hN16 hb17 (by decide)).2 cq_5 (by decide) rfl rfl (Nat.le_of_ble_eq_true rfl) (by decide) (by decide) (fun v ν hp => ?_) (fun i ν hp => nrm hp.1)
      obtain ⟨rfl, rfl, hN20, hb21⟩ := QEl hp
      show J _ _ _ _ 99 _ ([.int r19]) _ _ _ _
      cases h
      exact J.iret (pc := 99) dX10_count_99 rfl ⟨rfl, rfl, hN20, trivial⟩
    rcases ifc h with ⟨hc, h⟩ | ⟨ns65, h⟩
    · refine J.tableIn (pc := 8) (off := 92) (tgt := 100) dX10_count_8 (by rw [hc]; decide) (by rw [hc]; decide) (by rw [hc]; decide) (by decide) ?_
      refine J.aload_n (pc := 100) dX10_count_100 rfl 0 rfl ?_
      obtain ⟨a22, e23, h⟩ := bnd h
      have k24 : (kd a22).1 = 19 := gR_k e23
      refine J.fR (pc := 101) dX10_count_101 fl_RX10_45 k0 (okN hN2 k0 (by decide)) rfl e23 ?_
      refine J.fL (pc := 104) dX10_count_104 fl_RX10_161 k24 (okN hN2 k24 (by decide)) rfl ?_
      refine J.callS (Y := mX10_count) (Z := mJ13_bitCount_95d88) (pc := 107) (st := []) (k2 := 0) (n2 := 0) dX10_count_107 ml_RX10_165 mo_J13_bitCount_95d88 ms_J13_bitCount_95d88 rfl (tJ13_bitCount_95d88 (d + 8) (μ.2.2.1 a22 2) μ hN2 ) rfl rfl (Nat.le_of_ble_eq_true rfl) (by decide) (by decide) (fun v ν hp => ?_) (fun i ν hp => nrm hp.1)
      obtain ⟨rfl, rfl, hN26, hb27⟩ := QEl hp
      show J _ _ _ _ 110 _ ([.int (fJ13_bitCount_95d88 (μ.2.2.1 a22 2))]) _ _ _ _
      cases h
      exact J.iret (pc := 110) dX10_count_110 rfl ⟨rfl, rfl, hN26, trivial⟩
    rcases ifc h with ⟨hc, h⟩ | ⟨ns66, h⟩
    · refine J.tableIn (pc := 8) (off := 103) (tgt := 111) dX10_count_8 (by rw [hc]; decide) (by rw [hc]; decide) (by rw [hc]; decide) (by decide) ?_
      refine J.aload_n (pc := 111) dX10_count_111 rfl 0 rfl ?_
      refine J.aload_n (pc := 112) dX10_count_112 rfl 0 rfl ?_
      obtain ⟨a28, e29, h⟩ := bnd h
      have k30 : (kd a28).1 = 19 := gR_k e29
      refine J.fR (pc := 113) dX10_count_113 fl_RX10_45 k0 (okN hN2 k0 (by decide)) rfl e29 ?_
      obtain ⟨r32, e31, h⟩ := bnd h
      refine J.callV (Y := mX10_count) (Z := mX10_inked) (pc := 116) (st := []) (k2 := 0) (n2 := 0) dX10_count_116 ml_RX10_171 mo_X10_inked mv_X10_inked rfl (tX10_inked (d + 7) e31 hN2 k0 k30) k0 (okN hN2 k0 (by decide)).1 (okN hN2 k0 (by decide)).2 cq_10 (by decide) rfl rfl (Nat.le_of_ble_eq_true rfl) (by decide) (by decide) (fun v ν hp => ?_) (fun i ν hp => nrm hp.1)
      obtain ⟨rfl, rfl, hN33, hb34⟩ := QEl hp
      show J _ _ _ _ 119 _ ([.int r32]) _ _ _ _
      cases h
      exact J.iret (pc := 119) dX10_count_119 rfl ⟨rfl, rfl, hN33, trivial⟩
    rcases ifc h with ⟨hc, h⟩ | ⟨ns67, h⟩
    · refine J.tableIn (pc := 8) (off := 112) (tgt := 120) dX10_count_8 (by rw [hc]; decide) (by rw [hc]; decide) (by rw [hc]; decide) (by decide) ?_
      refine J.aload_n (pc := 120) dX10_count_120 rfl 0 rfl ?_
      obtain ⟨a35, e36, h⟩ := bnd h
      have k37 : (kd a35).1 = 19 := gR_k e36
      refine J.fR (pc := 121) dX10_count_121 fl_RX10_45 k0 (okN hN2 k0 (by decide)) rfl e36 ?_
      obtain ⟨r39, e38, h⟩ := bnd h
      refine J.callV (Y := mX10_count) (Z := mX9_sentBits) (pc := 124) (st := []) (k2 := 0) (n2 := 0) dX10_count_124 ml_RX10_175 mo_X9_sentBits mv_X9_sentBits rfl (tX9_sentBits (d + 8) e38 hN2 k37) k37 (okN hN2 k37 (by decide)).1 (okN hN2 k37 (by decide)).2 cq_9 (by decide) rfl rfl (Nat.le_of_ble_eq_true rfl) (by decide) (by decide) (fun v ν hp => ?_) (fun i ν hp => nrm hp.1)
      obtain ⟨rfl, rfl, hN40, hb41⟩ := QEl hp
      show J _ _ _ _ 127 _ ([.int r39]) _ _ _ _
      cases h
      exact J.iret (pc := 127) dX10_count_127 rfl ⟨rfl, rfl, hN40, trivial⟩
    rcases ifc h with ⟨hc, h⟩ | ⟨ns68, h⟩
    · refine J.tableIn (pc := 8) (off := 120) (tgt := 128) dX10_count_8 (by rw [hc]; decide) (by rw [hc]; decide) (by rw [hc]; decide) (by decide) ?_
      refine J.aload_n (pc := 128) dX10_count_128 rfl 0 rfl ?_
      obtain ⟨a42, e43, h⟩ := bnd h
      have k44 : (kd a42).1 = 19 := gR_k e43
      refine J.fR (pc := 129) dX10_count_129 fl_RX10_45 k0 (okN hN2 k0 (by decide)) rfl e43 ?_
      obtain ⟨r46, e45, h⟩ := bnd h
      refine J.callV (Y := mX10_count) (Z := mX9_metByAll) (pc := 132) (st := []) (k2 := 0) (n2 := 0) dX10_count_132 ml_RX10_178 mo_X9_metByAll mv_X9_metByAll rfl (tX9_metByAll (d + 8) e45 hN2 k44) k44 (okN hN2 k44 (by decide)).1 (okN hN2 k44 (by decide)).2 cq_9 (by decide) rfl rfl (Nat.le_of_ble_eq_true rfl) (by decide) (by decide) (fun v ν hp => ?_) (fun i ν hp => nrm hp.1)
      obtain ⟨rfl, rfl, hN47, hb48⟩ := QEl hp
      show J _ _ _ _ 135 _ ([.int r46]) _ _ _ _
      cases h
      exact J.iret (pc := 135) dX10_count_135 rfl ⟨rfl, rfl, hN47, trivial⟩
    rcases ifc h with ⟨hc, h⟩ | ⟨ns69, h⟩
    · refine J.tableIn (pc := 8) (off := 128) (tgt := 136) dX10_count_8 (by rw [hc]; decide) (by rw [hc]; decide) (by rw [hc]; decide) (by decide) ?_
      refine J.aload_n (pc := 136) dX10_count_136 rfl 0 rfl ?_
      obtain ⟨a49, e50, h⟩ := bnd h
      have k51 : (kd a49).1 = 10 := gR_k e50
      refine J.fR (pc := 137) dX10_count_137 fl_RX10_52 k0 (okN hN2 k0 (by decide)) rfl e50 ?_
      refine J.fI (pc := 140) dX10_count_140 fl_RX10_181 k51 (okN hN2 k51 (by decide)) (Or.inl rfl) ?_
      cases h
      exact J.iret (pc := 143) dX10_count_143 rfl ⟨rfl, rfl, hN2, trivial⟩
    rcases ifc h with ⟨hc, h⟩ | ⟨ns70, h⟩
    · refine J.tableIn (pc := 8) (off := 136) (tgt := 144) dX10_count_8 (by rw [hc]; decide) (by rw [hc]; decide) (by rw [hc]; decide) (by decide) ?_
      refine J.aload_n (pc := 144) dX10_count_144 rfl 0 rfl ?_
      obtain ⟨a52, e53, h⟩ := bnd h
      have k54 : (kd a52).1 = 18 := gR_k e53
      refine J.fR (pc := 145) dX10_count_145 fl_RX10_59 k0 (okN hN2 k0 (by decide)) rfl e53 ?_
      refine J.fI (pc := 148) dX10_count_148 fl_RX10_184 k54 (okN hN2 k54 (by decide)) (Or.inl rfl) ?_
      cases h
      exact J.iret (pc := 151) dX10_count_151 rfl ⟨rfl, rfl, hN2, trivial⟩
    rcases ifc h with ⟨hc, h⟩ | ⟨ns71, h⟩
    · refine J.tableIn (pc := 8) (off := 144) (tgt := 152) dX10_count_8 (by rw [hc]; decide) (by rw [hc]; decide) (by rw [hc]; decide) (by decide) ?_
      refine J.aload_n (pc := 152) dX10_count_152 rfl 0 rfl ?_
      refine J.fI (pc := 153) dX10_count_153 fl_RX10_13 k0 (okN hN2 k0 (by decide)) (Or.inl rfl) ?_
      cases h
      exact J.iret (pc := 156) dX10_count_156 rfl ⟨rfl, rfl, hN2, trivial⟩
    refine J.tableOut (pc := 8) (tgt := 157) dX10_count_8 (sw_out (vs := [(0 : Int32), (1 : Int32), (2 : Int32), (3 : Int32), (4 : Int32), (5 : Int32), (6 : Int32), (7 : Int32), (8 : Int32), (9 : Int32), (10 : Int32)]) (List.forall_mem_cons.mpr ⟨ns61, (List.forall_mem_cons.mpr ⟨ns62, (List.forall_mem_cons.mpr ⟨ns63, (List.forall_mem_cons.mpr ⟨ns64, (List.forall_mem_cons.mpr ⟨ns65, (List.forall_mem_cons.mpr ⟨ns66, (List.forall_mem_cons.mpr ⟨ns67, (List.forall_mem_cons.mpr ⟨ns68, (List.forall_mem_cons.mpr ⟨ns69, (List.forall_mem_cons.mpr ⟨ns70, (List.forall_mem_cons.mpr ⟨ns71, (fun _ q => nomatch q)⟩)⟩)⟩)⟩)⟩)⟩)⟩)⟩)⟩)⟩)⟩) (sw_hv (by decide))) (by decide) ?_
    refine J.aload_n (pc := 157) dX10_count_157 rfl 0 rfl ?_
    obtain ⟨a55, e56, h⟩ := bnd h
    have k57 : (kd a55).1 = 0 := gR_k e56
    refine J.fR (pc := 158) dX10_count_158 fl_RX10_20 k0 (okN hN2 k0 (by decide)) rfl e56 ?_
    refine J.iload_n (pc := 161) dX10_count_161 rfl 1 rfl ?_
    refine J.bipush (pc := 162) dX10_count_162 ib_11 ?_
    refine J.isub (pc := 164) dX10_count_164 ?_
    obtain ⟨x58, e59, h⟩ := bnd h
    refine J.aI (pc := 165) dX10_count_165 k57 (okN hN2 k57 (by decide)) e59 ?_
    cases h
    exact J.iret (pc := 166) dX10_count_166 rfl ⟨rfl, rfl, hN2, trivial⟩
  · try dsimp only at h
    refine J.callV (Y := mX10_count) (Z := mX10_needWhat) (pc := 4) (st := []) (k2 := 0) (n2 := 0) dX10_count_4 ml_RX10_140 mo_X10_needWhat mv_X10_needWhat rfl (tX10_needWhat d e1 hN k0) k0 (okN hN k0 (by decide)).1 (okN hN k0 (by decide)).2 cq_10 (by decide) rfl rfl (Nat.le_of_ble_eq_true rfl) (by decide) (by decide) (fun v ν hp => nlm hp.1) (fun i ν hp => ?_)
    obtain ⟨rfl, rfl, hN9, -⟩ := QEr hp
    cases h
    exact JX.out rfl ⟨rfl, rfl, hN9, trivial⟩
def fL_count (v0 : Nat) (v1 : Int32) (v2 : Nat) (μ : Mem) : Option (Int32 × Mem) :=
  (fX10_count v0 v1 μ).bind fun
  | (.inl r3, μ2) =>
    (stL μ2 v2 (0 : Int32) (r3.toInt64)).bind fun μ6 =>
    some ((0 : Int32), μ6)
  | (.inr i9, μ2) =>
    if i9 = 0 then some ((1 : Int32), μ2) else
    none
set_option maxHeartbeats 4000000 in
theorem tL_count {ω : Wd} {l : Launch} (d : Nat) {v0 : Nat} {v1 : Int32} {v2 : Nat} {μ : Mem} {res : Int32 × Mem} (h : fL_count v0 v1 v2 μ = some res) (hN : μ.1 = NN) (k0 : (kd v0).1 = 20) (k2 : (kd v2).1 = 1) : Ct ω l mL_count (d + 10) [.ref v0, .int v1, .ref v2] μ 1 6 (PE (.inl (some (.int res.1))) res.2 True) := by
  refine Ct.of pn_RL (Nat.le_of_ble_eq_true rfl) ?_
  show J ω l mL_count (d + 10) 0 [(0, .ref v0), (1, .int v1), (2, .ref v2)] [] μ 1 6 _
  unfold fL_count at h
  refine J.aload_n (pc := 0) dL_count_0 rfl 2 rfl ?_
  refine J.iconst (pc := 1) dL_count_1 ic_0 ?_
  refine J.aload_n (pc := 2) dL_count_2 rfl 0 rfl ?_
  refine J.iload_n (pc := 3) dL_count_3 rfl 1 rfl ?_
  obtain ⟨⟨q, μ2⟩, e1, h⟩ := bnd h
  rcases q with r3 | i9
  · try dsimp only at h
    refine J.callV (Y := mL_count) (Z := mX10_count) (pc := 4) (st := [.int (0 : Int32), .ref v2]) (k2 := 0) (n2 := 0) dL_count_4 ml_RL_15 mo_X10_count mv_X10_count rfl (tX10_count d e1 hN k0) k0 (okN hN k0 (by decide)).1 (okN hN k0 (by decide)).2 cq_10 (by decide) rfl rfl (Nat.le_of_ble_eq_true rfl) (by decide) (by decide) (fun v ν hp => ?_) (fun i ν hp => nrm hp.1)
    obtain ⟨rfl, rfl, hN4, hb5⟩ := QEl hp
    show J _ _ _ _ 7 _ ([.int r3, .int (0 : Int32), .ref v2]) _ _ _ _
    refine J.i2l (pc := 7) dL_count_7 ?_
    obtain ⟨μ6, e7, h⟩ := bnd h
    have hN8 : μ6.1 = NN := stL_N e7 hN4
    refine J.wL (pc := 8) dL_count_8 k2 (okN hN4 k2 (by decide)) e7 ?_
    refine J.goto (pc := 9) (tgt := 15) dL_count_9 (by decide) ?_
    refine J.iconst (pc := 15) dL_count_15 ic_0 ?_
    cases h
    exact J.iret (pc := 16) dL_count_16 rfl ⟨rfl, rfl, hN8, trivial⟩
  · try dsimp only at h
    refine J.callV (Y := mL_count) (Z := mX10_count) (pc := 4) (st := [.int (0 : Int32), .ref v2]) (k2 := 0) (n2 := 0) dL_count_4 ml_RL_15 mo_X10_count mv_X10_count rfl (tX10_count d e1 hN k0) k0 (okN hN k0 (by decide)).1 (okN hN k0 (by decide)).2 cq_10 (by decide) rfl rfl (Nat.le_of_ble_eq_true rfl) (by decide) (by decide) (fun v ν hp => nlm hp.1) (fun i ν hp => ?_)
    obtain ⟨rfl, rfl, hN9, -⟩ := QEr hp
    rcases ifc h with ⟨hc, h⟩ | ⟨hc, h⟩
    · subst hc
      cases h
      exact JX.catch1 (i := 0) (by decide) rfl rfl (Nat.le_of_ble_eq_true rfl) (Nat.le_of_ble_eq_true rfl) (Or.inr ⟨3, Nat.le_of_ble_eq_true rfl, rfl, dL_count_12⟩) dL_count_13 ic_1 dL_count_14 rfl ⟨rfl, rfl, hN9, trivial⟩
    cases h
def fX10_bitsOfDeed (v0 : Int64) (v2 : Int32) : Int32 :=
  ((((v0.toUInt64 >>> (((8 : Int32) * v2).toInt64.toUInt64 &&& Int64.toUInt64 63)).toInt64).toInt32) &&& (255 : Int32))
set_option maxHeartbeats 4000000 in
theorem tX10_bitsOfDeed {ω : Wd} {l : Launch} (d : Nat) (v0 : Int64) (v2 : Int32) (μ : Mem) (hN : μ.1 = NN) : Ct ω l mX10_bitsOfDeed d [.long v0, .int v2] μ 0 0 (PE (.inl (some (.int (fX10_bitsOfDeed v0 v2)))) μ True) := by
  refine Ct.of pn_RX10 (Nat.le_of_ble_eq_true rfl) ?_
  show J ω l mX10_bitsOfDeed d 0 [(0, .long v0), (2, .int v2)] [] μ 0 0 _
  generalize h : fX10_bitsOfDeed v0 v2 = res
  unfold fX10_bitsOfDeed at h
  refine J.lload_n (pc := 0) dX10_bitsOfDeed_0 rfl 0 rfl ?_
  refine J.bipush (pc := 1) dX10_bitsOfDeed_1 ib_8 ?_
  refine J.iload_n (pc := 3) dX10_bitsOfDeed_3 rfl 1 rfl ?_
  refine J.imul (pc := 4) dX10_bitsOfDeed_4 ?_
  refine J.lushr (pc := 5) dX10_bitsOfDeed_5 ?_
  refine J.l2i (pc := 6) dX10_bitsOfDeed_6 ?_
  refine J.sipush (pc := 7) dX10_bitsOfDeed_7 is_255 ?_
  refine J.iand (pc := 10) dX10_bitsOfDeed_10 ?_
  cases h
  exact J.iret (pc := 11) dX10_bitsOfDeed_11 rfl ⟨rfl, rfl, hN, trivial⟩
def fX10_inkOfDeed_4 (μ : Mem) : Nat → Nat → Int32 → Int32 → Int32 → Option (Int32)
  | 0, _, _, _, _ => none
  | n + 1, v0, v1, v2, v3 =>
    (gR μ v0 4 11).bind fun a1 =>
    (gR μ a1 3 0).bind fun a4 =>
    (ldI μ a4 v1).bind fun x7 =>
    if v3 < x7 then
      (gR μ v0 7 19).bind fun a9 =>
      (gR μ a9 3 0).bind fun a12 =>
      (ldI μ a12 (((8 : Int32) * v1) + v3)).bind fun x15 =>
      (fX10_inkOfDeed_4 μ n) v0 v1 (v2 + x15) (v3 + (1 : Int32))
    else
      some v2
set_option maxHeartbeats 4000000 in
theorem tX10_inkOfDeed_4 {ω : Wd} {l : Launch} (d : Nat) {μ : Mem} (hN : μ.1 = NN) {res : Int32} : ∀ n : Nat, ∀ (v0 : Nat) (v1 : Int32) (v2 : Int32) (v3 : Int32), fX10_inkOfDeed_4 μ n v0 v1 v2 v3 = some res → (kd v0).1 = 20 → J ω l mX10_inkOfDeed d 4 [(0, .ref v0), (1, .int v1), (2, .int v2), (3, .int v3)] [] μ 0 0 (PE (.inl (some (.int res))) μ True) := by
  intro n
  induction n with
  | zero =>
    intro v0 v1 v2 v3 h k0
    have h9 : (none : Option (Int32)) = some res := h
    cases h9
  | succ n ih =>
    intro v0 v1 v2 v3 h k0
    unfold fX10_inkOfDeed_4 at h
    refine J.iload_n (pc := 4) dX10_inkOfDeed_4 rfl 3 rfl ?_
    refine J.aload_n (pc := 5) dX10_inkOfDeed_5 rfl 0 rfl ?_
    obtain ⟨a1, e2, h⟩ := bnd h
    have k3 : (kd a1).1 = 11 := gR_k e2
    refine J.fR (pc := 6) dX10_inkOfDeed_6 fl_RX10_26 k0 (okN hN k0 (by decide)) rfl e2 ?_
    obtain ⟨a4, e5, h⟩ := bnd h
    have k6 : (kd a4).1 = 0 := gR_k e5
    refine J.fR (pc := 9) dX10_inkOfDeed_9 fl_RX10_188 k3 (okN hN k3 (by decide)) rfl e5 ?_
    refine J.iload_n (pc := 12) dX10_inkOfDeed_12 rfl 1 rfl ?_
    obtain ⟨x7, e8, h⟩ := bnd h
    refine J.aI (pc := 13) dX10_inkOfDeed_13 k6 (okN hN k6 (by decide)) e8 ?_
    rcases ifc h with ⟨hc, h⟩ | ⟨hc, h⟩
    · refine J.cge (pc := 14) (tgt := 40) dX10_inkOfDeed_14 (by decide) (fun _ => ?_) (fun q => absurd hc q)
      refine J.iload_n (pc := 17) dX10_inkOfDeed_17 rfl 2 rfl ?_
      refine J.aload_n (pc := 18) dX10_inkOfDeed_18 rfl 0 rfl ?_
      obtain ⟨a9, e10, h⟩ := bnd h
      have k11 : (kd a9).1 = 19 := gR_k e10
      refine J.fR (pc := 19) dX10_inkOfDeed_19 fl_RX10_45 k0 (okN hN k0 (by decide)) rfl e10 ?_
      obtain ⟨a12, e13, h⟩ := bnd h
      have k14 : (kd a12).1 = 0 := gR_k e13
      refine J.fR (pc := 22) dX10_inkOfDeed_22 fl_RX10_205 k11 (okN hN k11 (by decide)) rfl e13 ?_
      refine J.bipush (pc := 25) dX10_inkOfDeed_25 ib_8 ?_
      refine J.iload_n (pc := 27) dX10_inkOfDeed_27 rfl 1 rfl ?_
      refine J.imul (pc := 28) dX10_inkOfDeed_28 ?_
      refine J.iload_n (pc := 29) dX10_inkOfDeed_29 rfl 3 rfl ?_
      refine J.iadd (pc := 30) dX10_inkOfDeed_30 ?_
      obtain ⟨x15, e16, h⟩ := bnd h
      refine J.aI (pc := 31) dX10_inkOfDeed_31 k14 (okN hN k14 (by decide)) e16 ?_
      refine J.iadd (pc := 32) dX10_inkOfDeed_32 ?_
      refine J.istore_n (pc := 33) ([(2, .int (v2 + x15)), (0, .ref v0), (1, .int v1), (3, .int v3)]) dX10_inkOfDeed_33 rfl (Nat.le_of_ble_eq_true rfl) rfl ?_
      refine J.iinc (pc := 34) (j := 3) ([(3, .int (v3 + (1 : Int32))), (2, .int (v2 + x15)), (0, .ref v0), (1, .int v1)]) dX10_inkOfDeed_34 rfl (iincv ic_1) (Nat.le_of_ble_eq_true rfl) rfl ?_
      refine J.goto (pc := 37) (tgt := 4) dX10_inkOfDeed_37 (by decide) ?_
      refine J.pick [2, 3, 1, 0] rfl ?_
      exact ih v0 v1 (v2 + x15) (v3 + (1 : Int32)) h k0
    · refine J.cge (pc := 14) (tgt := 40) dX10_inkOfDeed_14 (by decide) (fun q => absurd q hc) (fun _ => ?_)
      refine J.iload_n (pc := 40) dX10_inkOfDeed_40 rfl 2 rfl ?_
      cases h
      exact J.iret (pc := 41) dX10_inkOfDeed_41 rfl ⟨rfl, rfl, hN, trivial⟩
def fX10_inkOfDeed (v0 : Nat) (v1 : Int32) (μ : Mem) : Option (Int32) :=
  (fX10_inkOfDeed_4 μ fuel) v0 v1 (0 : Int32) (0 : Int32)
set_option maxHeartbeats 4000000 in
theorem tX10_inkOfDeed {ω : Wd} {l : Launch} (d : Nat) {v0 : Nat} {v1 : Int32} {μ : Mem} {res : Int32} (h : fX10_inkOfDeed v0 v1 μ = some res) (hN : μ.1 = NN) (k0 : (kd v0).1 = 20) : Ct ω l mX10_inkOfDeed d [.ref v0, .int v1] μ 0 0 (PE (.inl (some (.int res))) μ True) := by
  refine Ct.of pn_RX10 (Nat.le_of_ble_eq_true rfl) ?_
  show J ω l mX10_inkOfDeed d 0 [(0, .ref v0), (1, .int v1)] [] μ 0 0 _
  unfold fX10_inkOfDeed at h
  refine J.iconst (pc := 0) dX10_inkOfDeed_0 ic_0 ?_
  refine J.istore_n (pc := 1) ([(2, .int (0 : Int32)), (0, .ref v0), (1, .int v1)]) dX10_inkOfDeed_1 rfl (Nat.le_of_ble_eq_true rfl) rfl ?_
  refine J.iconst (pc := 2) dX10_inkOfDeed_2 ic_0 ?_
  refine J.istore_n (pc := 3) ([(3, .int (0 : Int32)), (2, .int (0 : Int32)), (0, .ref v0), (1, .int v1)]) dX10_inkOfDeed_3 rfl (Nat.le_of_ble_eq_true rfl) rfl ?_
  refine J.pick [2, 3, 1, 0] rfl ?_
  exact (tX10_inkOfDeed_4 d hN fuel) v0 v1 (0 : Int32) (0 : Int32) h k0
def fX10_needDeed (v0 : Nat) (v1 : Int32) (μ : Mem) : Option ((Unit ⊕ Nat)) :=
  if v1 < 0 then
    some (.inr 0)
  else
    (gR μ v0 4 11).bind fun a1 =>
    if v1 < (μ.2.1 a1 0) then
      some (.inl ())
    else
      some (.inr 0)
set_option maxHeartbeats 4000000 in
theorem tX10_needDeed {ω : Wd} {l : Launch} (d : Nat) {v0 : Nat} {v1 : Int32} {μ : Mem} {res : (Unit ⊕ Nat)} (h : fX10_needDeed v0 v1 μ = some res) (hN : μ.1 = NN) (k0 : (kd v0).1 = 20) : Ct ω l mX10_needDeed (d + 8) [.ref v0, .int v1] μ 1 6 (PE (oV res) μ True) := by
  refine Ct.of pn_RX10 (Nat.le_of_ble_eq_true rfl) ?_
  show J ω l mX10_needDeed (d + 8) 0 [(0, .ref v0), (1, .int v1)] [] μ 1 6 _
  unfold fX10_needDeed at h
  refine J.iload_n (pc := 0) dX10_needDeed_0 rfl 1 rfl ?_
  rcases ifc h with ⟨hc, h⟩ | ⟨hc, h⟩
  · refine J.zlt (pc := 1) (tgt := 15) dX10_needDeed_1 (by decide) (fun _ => ?_) (fun q => absurd hc q)
    cases h
    exact J.throwN (pc := 15) (j := 10) rfl rfl hN dX10_needDeed_15 dX10_needDeed_18 dX10_needDeed_19 dX10_needDeed_22 dX10_needDeed_25 rfl (Nat.le_of_ble_eq_true rfl) (Nat.le_of_ble_eq_true rfl) ⟨rfl, rfl, hN, trivial⟩
  · refine J.zlt (pc := 1) (tgt := 15) dX10_needDeed_1 (by decide) (fun q => absurd q hc) (fun _ => ?_)
    refine J.iload_n (pc := 4) dX10_needDeed_4 rfl 1 rfl ?_
    refine J.aload_n (pc := 5) dX10_needDeed_5 rfl 0 rfl ?_
    obtain ⟨a1, e2, h⟩ := bnd h
    have k3 : (kd a1).1 = 11 := gR_k e2
    refine J.fR (pc := 6) dX10_needDeed_6 fl_RX10_26 k0 (okN hN k0 (by decide)) rfl e2 ?_
    refine J.fI (pc := 9) dX10_needDeed_9 fl_RX10_144 k3 (okN hN k3 (by decide)) (Or.inl rfl) ?_
    rcases ifc h with ⟨hc, h⟩ | ⟨hc, h⟩
    · refine J.clt (pc := 12) (tgt := 26) dX10_needDeed_12 (by decide) (fun _ => ?_) (fun q => absurd hc q)
      cases h
      exact J.vret (pc := 26) dX10_needDeed_26 rfl ⟨rfl, rfl, hN, trivial⟩
    · refine J.clt (pc := 12) (tgt := 26) dX10_needDeed_12 (by decide) (fun q => absurd q hc) (fun _ => ?_)
      cases h
      exact J.throwN (pc := 15) (j := 10) rfl rfl hN dX10_needDeed_15 dX10_needDeed_18 dX10_needDeed_19 dX10_needDeed_22 dX10_needDeed_25 rfl (Nat.le_of_ble_eq_true rfl) (Nat.le_of_ble_eq_true rfl) ⟨rfl, rfl, hN, trivial⟩
def fX10_peopleOfDeed_4 (μ : Mem) : Nat → Nat → Int32 → Int32 → Int32 → Option (Int32)
  | 0, _, _, _, _ => none
  | n + 1, v0, v1, v2, v3 =>
    (gR μ v0 4 11).bind fun a1 =>
    if v3 < (μ.2.1 a1 1) then
      (gR μ v0 7 19).bind fun a4 =>
      (gR μ a4 4 0).bind fun a7 =>
      (ldI μ a7 v3).bind fun x10 =>
      if (x10 / (8 : Int32)) = v1 then
        (fX10_peopleOfDeed_4 μ n) v0 v1 (v2 ||| ((1 : Int32) <<< (v3 &&& 31))) (v3 + (1 : Int32))
      else
        (fX10_peopleOfDeed_4 μ n) v0 v1 v2 (v3 + (1 : Int32))
    else
      some v2
set_option maxHeartbeats 4000000 in
theorem tX10_peopleOfDeed_4 {ω : Wd} {l : Launch} (d : Nat) {μ : Mem} (hN : μ.1 = NN) {res : Int32} : ∀ n : Nat, ∀ (v0 : Nat) (v1 : Int32) (v2 : Int32) (v3 : Int32), fX10_peopleOfDeed_4 μ n v0 v1 v2 v3 = some res → (kd v0).1 = 20 → J ω l mX10_peopleOfDeed d 4 [(0, .ref v0), (1, .int v1), (2, .int v2), (3, .int v3)] [] μ 0 0 (PE (.inl (some (.int res))) μ True) := by
  intro n
  induction n with
  | zero =>
    intro v0 v1 v2 v3 h k0
    have h9 : (none : Option (Int32)) = some res := h
    cases h9
  | succ n ih =>
    intro v0 v1 v2 v3 h k0
    unfold fX10_peopleOfDeed_4 at h
    refine J.iload_n (pc := 4) dX10_peopleOfDeed_4 rfl 3 rfl ?_
    refine J.aload_n (pc := 5) dX10_peopleOfDeed_5 rfl 0 rfl ?_
    obtain ⟨a1, e2, h⟩ := bnd h
    have k3 : (kd a1).1 = 11 := gR_k e2
    refine J.fR (pc := 6) dX10_peopleOfDeed_6 fl_RX10_26 k0 (okN hN k0 (by decide)) rfl e2 ?_
    refine J.fI (pc := 9) dX10_peopleOfDeed_9 fl_RX10_147 k3 (okN hN k3 (by decide)) (Or.inl rfl) ?_
    rcases ifc h with ⟨hc, h⟩ | ⟨hc, h⟩
    · refine J.cge (pc := 12) (tgt := 43) dX10_peopleOfDeed_12 (by decide) (fun _ => ?_) (fun q => absurd hc q)
      refine J.aload_n (pc := 15) dX10_peopleOfDeed_15 rfl 0 rfl ?_
      obtain ⟨a4, e5, h⟩ := bnd h
      have k6 : (kd a4).1 = 19 := gR_k e5
      refine J.fR (pc := 16) dX10_peopleOfDeed_16 fl_RX10_45 k0 (okN hN k0 (by decide)) rfl e5 ?_
      obtain ⟨a7, e8, h⟩ := bnd h
      have k9 : (kd a7).1 = 0 := gR_k e8
      refine J.fR (pc := 19) dX10_peopleOfDeed_19 fl_RX10_208 k6 (okN hN k6 (by decide)) rfl e8 ?_
      refine J.iload_n (pc := 22) dX10_peopleOfDeed_22 rfl 3 rfl ?_
      obtain ⟨x10, e11, h⟩ := bnd h
      refine J.aI (pc := 23) dX10_peopleOfDeed_23 k9 (okN hN k9 (by decide)) e11 ?_
      refine J.bipush (pc := 24) dX10_peopleOfDeed_24 ib_8 ?_
      refine J.idiv (pc := 26) dX10_peopleOfDeed_26 (by decide) ?_
      refine J.iload_n (pc := 27) dX10_peopleOfDeed_27 rfl 1 rfl ?_
      rcases ifc h with ⟨hc, h⟩ | ⟨hc, h⟩
      · refine J.cne (pc := 28) (tgt := 37) dX10_peopleOfDeed_28 (by decide) (fun _ => ?_) (fun q => absurd hc q)
        refine J.iload_n (pc := 31) dX10_peopleOfDeed_31 rfl 2 rfl ?_
        refine J.iconst (pc := 32) dX10_peopleOfDeed_32 ic_1 ?_
        refine J.iload_n (pc := 33) dX10_peopleOfDeed_33 rfl 3 rfl ?_
        refine J.ishl (pc := 34) dX10_peopleOfDeed_34 ?_
        refine J.ior (pc := 35) dX10_peopleOfDeed_35 ?_
        refine J.istore_n (pc := 36) ([(2, .int (v2 ||| ((1 : Int32) <<< (v3 &&& 31)))), (0, .ref v0), (1, .int v1), (3, .int v3)]) dX10_peopleOfDeed_36 rfl (Nat.le_of_ble_eq_true rfl) rfl ?_
        refine J.iinc (pc := 37) (j := 3) ([(3, .int (v3 + (1 : Int32))), (2, .int (v2 ||| ((1 : Int32) <<< (v3 &&& 31)))), (0, .ref v0), (1, .int v1)]) dX10_peopleOfDeed_37 rfl (iincv ic_1) (Nat.le_of_ble_eq_true rfl) rfl ?_
        refine J.goto (pc := 40) (tgt := 4) dX10_peopleOfDeed_40 (by decide) ?_
        refine J.pick [2, 3, 1, 0] rfl ?_
        exact ih v0 v1 (v2 ||| ((1 : Int32) <<< (v3 &&& 31))) (v3 + (1 : Int32)) h k0
      · refine J.cne (pc := 28) (tgt := 37) dX10_peopleOfDeed_28 (by decide) (fun q => absurd q hc) (fun _ => ?_)
        refine J.iinc (pc := 37) (j := 3) ([(3, .int (v3 + (1 : Int32))), (0, .ref v0), (1, .int v1), (2, .int v2)]) dX10_peopleOfDeed_37 rfl (iincv ic_1) (Nat.le_of_ble_eq_true rfl) rfl ?_
        refine J.goto (pc := 40) (tgt := 4) dX10_peopleOfDeed_40 (by decide) ?_
        refine J.pick [1, 2, 3, 0] rfl ?_
        exact ih v0 v1 v2 (v3 + (1 : Int32)) h k0
    · refine J.cge (pc := 12) (tgt := 43) dX10_peopleOfDeed_12 (by decide) (fun q => absurd q hc) (fun _ => ?_)
      refine J.iload_n (pc := 43) dX10_peopleOfDeed_43 rfl 2 rfl ?_
      cases h
      exact J.iret (pc := 44) dX10_peopleOfDeed_44 rfl ⟨rfl, rfl, hN, trivial⟩
def fX10_peopleOfDeed (v0 : Nat) (v1 : Int32) (μ : Mem) : Option (Int32) :=
  (fX10_peopleOfDeed_4 μ fuel) v0 v1 (0 : Int32) (0 : Int32)
set_option maxHeartbeats 4000000 in
theorem tX10_peopleOfDeed {ω : Wd} {l : Launch} (d : Nat) {v0 : Nat} {v1 : Int32} {μ : Mem} {res : Int32} (h : fX10_peopleOfDeed v0 v1 μ = some res) (hN : μ.1 = NN) (k0 : (kd v0).1 = 20) : Ct ω l mX10_peopleOfDeed d [.ref v0, .int v1] μ 0 0 (PE (.inl (some (.int res))) μ True) := by
  refine Ct.of pn_RX10 (Nat.le_of_ble_eq_true rfl) ?_
  show J ω l mX10_peopleOfDeed d 0 [(0, .ref v0), (1, .int v1)] [] μ 0 0 _
  unfold fX10_peopleOfDeed at h
  refine J.iconst (pc := 0) dX10_peopleOfDeed_0 ic_0 ?_
  refine J.istore_n (pc := 1) ([(2, .int (0 : Int32)), (0, .ref v0), (1, .int v1)]) dX10_peopleOfDeed_1 rfl (Nat.le_of_ble_eq_true rfl) rfl ?_
  refine J.iconst (pc := 2) dX10_peopleOfDeed_2 ic_0 ?_
  refine J.istore_n (pc := 3) ([(3, .int (0 : Int32)), (2, .int (0 : Int32)), (0, .ref v0), (1, .int v1)]) dX10_peopleOfDeed_3 rfl (Nat.le_of_ble_eq_true rfl) rfl ?_
  refine J.pick [2, 3, 1, 0] rfl ?_
  exact (tX10_peopleOfDeed_4 d hN fuel) v0 v1 (0 : Int32) (0 : Int32) h k0
