def fL_game (v0 : Nat) (v1 : Int32) (v2 : Int32) (v3 : Int32) (v4 : Nat) (μ : Mem) : Option (Int32 × Mem) :=
  (fX10_game v0 v1 v2 v3 μ).bind fun
  | (.inl r3, μ2) =>
    (stL μ2 v4 (0 : Int32) (r3.toInt64)).bind fun μ6 =>
    some ((0 : Int32), μ6)
  | (.inr i9, μ2) =>
    if i9 = 0 then some ((1 : Int32), μ2) else
    if i9 = 1 then some ((2 : Int32), μ2) else
    none
set_option maxHeartbeats 4000000 in
theorem tL_game {ω : Wd} {l : Launch} (d : Nat) {v0 : Nat} {v1 : Int32} {v2 : Int32} {v3 : Int32} {v4 : Nat} {μ : Mem} {res : Int32 × Mem} (h : fL_game v0 v1 v2 v3 v4 μ = some res) (hN : μ.1 = NN) (k0 : (kd v0).1 = 20) (k4 : (kd v4).1 = 1) : Ct ω l mL_game (d + 10) [.ref v0, .int v1, .int v2, .int v3, .ref v4] μ 4 24 (PE (.inl (some (.int res.1))) res.2 True) := by
  refine Ct.of pn_RL (Nat.le_of_ble_eq_true rfl) ?_
  show J ω l mL_game (d + 10) 0 [(0, .ref v0), (1, .int v1), (2, .int v2), (3, .int v3), (4, .ref v4)] [] μ 4 24 _
  unfold fL_game at h
  refine J.aload (pc := 0) dL_game_0 4 rfl ?_
  refine J.iconst (pc := 2) dL_game_2 ic_0 ?_
  refine J.aload_n (pc := 3) dL_game_3 rfl 0 rfl ?_
  refine J.iload_n (pc := 4) dL_game_4 rfl 1 rfl ?_
  refine J.iload_n (pc := 5) dL_game_5 rfl 2 rfl ?_
  refine J.iload_n (pc := 6) dL_game_6 rfl 3 rfl ?_
  obtain ⟨⟨q, μ2⟩, e1, h⟩ := bnd h
  rcases q with r3 | i9
  · try dsimp only at h
    refine J.callV (Y := mL_game) (Z := mX10_game) (pc := 7) (st := [.int (0 : Int32), .ref v4]) (k2 := 0) (n2 := 0) dL_game_7 ml_RL_89 mo_X10_game mv_X10_game rfl (tX10_game d e1 hN k0) k0 (okN hN k0 (by decide)).1 (okN hN k0 (by decide)).2 cq_10 (by decide) rfl rfl (Nat.le_of_ble_eq_true rfl) (by decide) (by decide) (fun v ν hp => ?_) (fun i ν hp => nrm hp.1)
    obtain ⟨rfl, rfl, hN4, hb5⟩ := QEl hp
    show J _ _ _ _ 10 _ ([.int r3, .int (0 : Int32), .ref v4]) _ _ _ _
    refine J.i2l (pc := 10) dL_game_10 ?_
    obtain ⟨μ6, e7, h⟩ := bnd h
    have hN8 : μ6.1 = NN := stL_N e7 hN4
    refine J.wL (pc := 11) dL_game_11 k4 (okN hN4 k4 (by decide)) e7 ?_
    refine J.goto (pc := 12) (tgt := 23) dL_game_12 (by decide) ?_
    refine J.iconst (pc := 23) dL_game_23 ic_0 ?_
    cases h
    exact J.iret (pc := 24) dL_game_24 rfl ⟨rfl, rfl, hN8, trivial⟩
  · try dsimp only at h
    refine J.callV (Y := mL_game) (Z := mX10_game) (pc := 7) (st := [.int (0 : Int32), .ref v4]) (k2 := 0) (n2 := 0) dL_game_7 ml_RL_89 mo_X10_game mv_X10_game rfl (tX10_game d e1 hN k0) k0 (okN hN k0 (by decide)).1 (okN hN k0 (by decide)).2 cq_10 (by decide) rfl rfl (Nat.le_of_ble_eq_true rfl) (by decide) (by decide) (fun v ν hp => nlm hp.1) (fun i ν hp => ?_)
    obtain ⟨rfl, rfl, hN9, -⟩ := QEr hp
    rcases ifc h with ⟨hc, h⟩ | ⟨hc, h⟩
    · subst hc
      cases h
      exact JX.catch1 (i := 0) (by decide) rfl rfl (Nat.le_of_ble_eq_true rfl) (Nat.le_of_ble_eq_true rfl) (Or.inl ⟨5, Nat.le_of_ble_eq_true rfl, rfl, dL_game_15⟩) dL_game_17 ic_1 dL_game_18 rfl ⟨rfl, rfl, hN9, trivial⟩
    rcases ifc h with ⟨hc, h⟩ | ⟨hc, h⟩
    · subst hc
      cases h
      exact JX.catch2 rfl rfl (Nat.le_of_ble_eq_true rfl) (Nat.le_of_ble_eq_true rfl) (Or.inl ⟨5, Nat.le_of_ble_eq_true rfl, rfl, dL_game_19⟩) dL_game_21 ic_2 dL_game_22 rfl ⟨rfl, rfl, hN9, trivial⟩
    cases h
def fX10_comers_4  : Nat → Nat → Int32 → Int32 → Int32 → Mem → Option (Int32 × Mem)
  | 0, _, _, _, _, _ => none
  | n + 1, v0, v1, v2, v3, μ =>
    (gR μ v0 4 11).bind fun a1 =>
    if v3 < (μ.2.1 a1 1) then
      (gR μ v0 15 15).bind fun a4 =>
      (gR μ v0 7 19).bind fun a7 =>
      (gR μ a7 4 0).bind fun a10 =>
      (ldI μ a10 v3).bind fun x13 =>
      (fX5_far a4 x13 v1 μ).bind fun (r17, μ16) =>
      if r17 = (-1 : Int32) then
        (fX10_comers_4 n) v0 v1 v2 (v3 + (1 : Int32)) μ16
      else
        (fX10_comers_4 n) v0 v1 (v2 + (1 : Int32)) (v3 + (1 : Int32)) μ16
    else
      some (v2, μ)
set_option maxHeartbeats 4000000 in
theorem tX10_comers_4 {ω : Wd} {l : Launch} (d : Nat) {res : Int32 × Mem} : ∀ n : Nat, ∀ (v0 : Nat) (v1 : Int32) (v2 : Int32) (v3 : Int32) (μ : Mem), fX10_comers_4 n v0 v1 v2 v3 μ = some res → μ.1 = NN → (kd v0).1 = 20 → J ω l mX10_comers (d + 2) 4 [(0, .ref v0), (1, .int v1), (2, .int v2), (3, .int v3)] [] μ 0 0 (PE (.inl (some (.int res.1))) res.2 True) := by
  intro n
  induction n with
  | zero =>
    intro v0 v1 v2 v3 μ h hN k0
    have h9 : (none : Option (Int32 × Mem)) = some res := h
    cases h9
  | succ n ih =>
    intro v0 v1 v2 v3 μ h hN k0
    unfold fX10_comers_4 at h
    refine J.iload_n (pc := 4) dX10_comers_4 rfl 3 rfl ?_
    refine J.aload_n (pc := 5) dX10_comers_5 rfl 0 rfl ?_
    obtain ⟨a1, e2, h⟩ := bnd h
    have k3 : (kd a1).1 = 11 := gR_k e2
    refine J.fR (pc := 6) dX10_comers_6 fl_RX10_26 k0 (okN hN k0 (by decide)) rfl e2 ?_
    refine J.fI (pc := 9) dX10_comers_9 fl_RX10_147 k3 (okN hN k3 (by decide)) (Or.inl rfl) ?_
    rcases ifc h with ⟨hc, h⟩ | ⟨hc, h⟩
    · refine J.cge (pc := 12) (tgt := 45) dX10_comers_12 (by decide) (fun _ => ?_) (fun q => absurd hc q)
      refine J.aload_n (pc := 15) dX10_comers_15 rfl 0 rfl ?_
      obtain ⟨a4, e5, h⟩ := bnd h
      have k6 : (kd a4).1 = 15 := gR_k e5
      refine J.fR (pc := 16) dX10_comers_16 fl_RX10_86 k0 (okN hN k0 (by decide)) rfl e5 ?_
      refine J.aload_n (pc := 19) dX10_comers_19 rfl 0 rfl ?_
      obtain ⟨a7, e8, h⟩ := bnd h
      have k9 : (kd a7).1 = 19 := gR_k e8
      refine J.fR (pc := 20) dX10_comers_20 fl_RX10_45 k0 (okN hN k0 (by decide)) rfl e8 ?_
      obtain ⟨a10, e11, h⟩ := bnd h
      have k12 : (kd a10).1 = 0 := gR_k e11
      refine J.fR (pc := 23) dX10_comers_23 fl_RX10_208 k9 (okN hN k9 (by decide)) rfl e11 ?_
      refine J.iload_n (pc := 26) dX10_comers_26 rfl 3 rfl ?_
      obtain ⟨x13, e14, h⟩ := bnd h
      refine J.aI (pc := 27) dX10_comers_27 k12 (okN hN k12 (by decide)) e14 ?_
      refine J.iload_n (pc := 28) dX10_comers_28 rfl 1 rfl ?_
      obtain ⟨⟨r17, μ16⟩, e15, h⟩ := bnd h
      try dsimp only at h
      refine J.callV (Y := mX10_comers) (Z := mX5_far) (pc := 29) (st := []) (k2 := 0) (n2 := 0) dX10_comers_29 ml_RX10_226 mo_X5_far mv_X5_far rfl (tX5_far d e15 hN k6) k6 (okN hN k6 (by decide)).1 (okN hN k6 (by decide)).2 cq_5 (by decide) rfl rfl (Nat.le_of_ble_eq_true rfl) (by decide) (by decide) (fun v ν hp => ?_) (fun i ν hp => nrm hp.1)
      obtain ⟨rfl, rfl, hN18, hb19⟩ := QEl hp
      show J _ _ _ _ 32 _ ([.int r17]) _ _ _ _
      refine J.iconst (pc := 32) dX10_comers_32 ic_m1 ?_
      rcases ifc h with ⟨hc, h⟩ | ⟨hc, h⟩
      · refine J.ceq (pc := 33) (tgt := 39) dX10_comers_33 (by decide) (fun _ => ?_) (fun q => absurd hc q)
        refine J.iinc (pc := 39) (j := 3) ([(3, .int (v3 + (1 : Int32))), (0, .ref v0), (1, .int v1), (2, .int v2)]) dX10_comers_39 rfl (iincv ic_1) (Nat.le_of_ble_eq_true rfl) rfl ?_
        refine J.goto (pc := 42) (tgt := 4) dX10_comers_42 (by decide) ?_
        refine J.pick [1, 2, 3, 0] rfl ?_
        exact ih v0 v1 v2 (v3 + (1 : Int32)) μ16 h hN18 k0
      · refine J.ceq (pc := 33) (tgt := 39) dX10_comers_33 (by decide) (fun q => absurd q hc) (fun _ => ?_)
        refine J.iinc (pc := 36) (j := 2) ([(2, .int (v2 + (1 : Int32))), (0, .ref v0), (1, .int v1), (3, .int v3)]) dX10_comers_36 rfl (iincv ic_1) (Nat.le_of_ble_eq_true rfl) rfl ?_
        refine J.iinc (pc := 39) (j := 3) ([(3, .int (v3 + (1 : Int32))), (2, .int (v2 + (1 : Int32))), (0, .ref v0), (1, .int v1)]) dX10_comers_39 rfl (iincv ic_1) (Nat.le_of_ble_eq_true rfl) rfl ?_
        refine J.goto (pc := 42) (tgt := 4) dX10_comers_42 (by decide) ?_
        refine J.pick [2, 3, 1, 0] rfl ?_
        exact ih v0 v1 (v2 + (1 : Int32)) (v3 + (1 : Int32)) μ16 h hN18 k0
    · refine J.cge (pc := 12) (tgt := 45) dX10_comers_12 (by decide) (fun q => absurd q hc) (fun _ => ?_)
      refine J.iload_n (pc := 45) dX10_comers_45 rfl 2 rfl ?_
      cases h
      exact J.iret (pc := 46) dX10_comers_46 rfl ⟨rfl, rfl, hN, trivial⟩
def fX10_comers (v0 : Nat) (v1 : Int32) (μ : Mem) : Option (Int32 × Mem) :=
  (fX10_comers_4 fuel) v0 v1 (0 : Int32) (0 : Int32) μ
set_option maxHeartbeats 4000000 in
theorem tX10_comers {ω : Wd} {l : Launch} (d : Nat) {v0 : Nat} {v1 : Int32} {μ : Mem} {res : Int32 × Mem} (h : fX10_comers v0 v1 μ = some res) (hN : μ.1 = NN) (k0 : (kd v0).1 = 20) : Ct ω l mX10_comers (d + 2) [.ref v0, .int v1] μ 0 0 (PE (.inl (some (.int res.1))) res.2 True) := by
  refine Ct.of pn_RX10 (Nat.le_of_ble_eq_true rfl) ?_
  show J ω l mX10_comers (d + 2) 0 [(0, .ref v0), (1, .int v1)] [] μ 0 0 _
  unfold fX10_comers at h
  refine J.iconst (pc := 0) dX10_comers_0 ic_0 ?_
  refine J.istore_n (pc := 1) ([(2, .int (0 : Int32)), (0, .ref v0), (1, .int v1)]) dX10_comers_1 rfl (Nat.le_of_ble_eq_true rfl) rfl ?_
  refine J.iconst (pc := 2) dX10_comers_2 ic_0 ?_
  refine J.istore_n (pc := 3) ([(3, .int (0 : Int32)), (2, .int (0 : Int32)), (0, .ref v0), (1, .int v1)]) dX10_comers_3 rfl (Nat.le_of_ble_eq_true rfl) rfl ?_
  refine J.pick [2, 3, 1, 0] rfl ?_
  exact (tX10_comers_4 d fuel) v0 v1 (0 : Int32) (0 : Int32) μ h hN k0
def fX10_farForAll_4  : Nat → Nat → Int32 → Int32 → Int32 → Mem → Option (Int32 × Mem)
  | 0, _, _, _, _, _ => none
  | n + 1, v0, v1, v2, v3, μ =>
    (gR μ v0 4 11).bind fun a1 =>
    if v3 < (μ.2.1 a1 1) then
      (gR μ v0 15 15).bind fun a4 =>
      (gR μ v0 7 19).bind fun a7 =>
      (gR μ a7 4 0).bind fun a10 =>
      (ldI μ a10 v3).bind fun x13 =>
      (fX5_far a4 x13 v1 μ).bind fun (r17, μ16) =>
      if r17 = (-1 : Int32) then
        (fX10_farForAll_4 n) v0 v1 (v2 + (0 : Int32)) (v3 + (1 : Int32)) μ16
      else
        (fX10_farForAll_4 n) v0 v1 (v2 + r17) (v3 + (1 : Int32)) μ16
    else
      some (v2, μ)
set_option maxHeartbeats 4000000 in
theorem tX10_farForAll_4 {ω : Wd} {l : Launch} (d : Nat) {res : Int32 × Mem} : ∀ n : Nat, ∀ (v0 : Nat) (v1 : Int32) (v2 : Int32) (v3 : Int32) (μ : Mem), fX10_farForAll_4 n v0 v1 v2 v3 μ = some res → μ.1 = NN → (kd v0).1 = 20 → J ω l mX10_farForAll (d + 2) 4 [(0, .ref v0), (1, .int v1), (2, .int v2), (3, .int v3)] [] μ 0 0 (PE (.inl (some (.int res.1))) res.2 True) := by
  intro n
  induction n with
  | zero =>
    intro v0 v1 v2 v3 μ h hN k0
    have h9 : (none : Option (Int32 × Mem)) = some res := h
    cases h9
  | succ n ih =>
    intro v0 v1 v2 v3 μ h hN k0
    unfold fX10_farForAll_4 at h
    refine J.iload_n (pc := 4) dX10_farForAll_4 rfl 3 rfl ?_
    refine J.aload_n (pc := 5) dX10_farForAll_5 rfl 0 rfl ?_
    obtain ⟨a1, e2, h⟩ := bnd h
    have k3 : (kd a1).1 = 11 := gR_k e2
    refine J.fR (pc := 6) dX10_farForAll_6 fl_RX10_26 k0 (okN hN k0 (by decide)) rfl e2 ?_
    refine J.fI (pc := 9) dX10_farForAll_9 fl_RX10_147 k3 (okN hN k3 (by decide)) (Or.inl rfl) ?_
    rcases ifc h with ⟨hc, h⟩ | ⟨hc, h⟩
    · refine J.cge (pc := 12) (tgt := 55) dX10_farForAll_12 (by decide) (fun _ => ?_) (fun q => absurd hc q)
      refine J.aload_n (pc := 15) dX10_farForAll_15 rfl 0 rfl ?_
      obtain ⟨a4, e5, h⟩ := bnd h
      have k6 : (kd a4).1 = 15 := gR_k e5
      refine J.fR (pc := 16) dX10_farForAll_16 fl_RX10_86 k0 (okN hN k0 (by decide)) rfl e5 ?_
      refine J.aload_n (pc := 19) dX10_farForAll_19 rfl 0 rfl ?_
      obtain ⟨a7, e8, h⟩ := bnd h
      have k9 : (kd a7).1 = 19 := gR_k e8
      refine J.fR (pc := 20) dX10_farForAll_20 fl_RX10_45 k0 (okN hN k0 (by decide)) rfl e8 ?_
      obtain ⟨a10, e11, h⟩ := bnd h
      have k12 : (kd a10).1 = 0 := gR_k e11
      refine J.fR (pc := 23) dX10_farForAll_23 fl_RX10_208 k9 (okN hN k9 (by decide)) rfl e11 ?_
      refine J.iload_n (pc := 26) dX10_farForAll_26 rfl 3 rfl ?_
      obtain ⟨x13, e14, h⟩ := bnd h
      refine J.aI (pc := 27) dX10_farForAll_27 k12 (okN hN k12 (by decide)) e14 ?_
      refine J.iload_n (pc := 28) dX10_farForAll_28 rfl 1 rfl ?_
      obtain ⟨⟨r17, μ16⟩, e15, h⟩ := bnd h
      try dsimp only at h
      refine J.callV (Y := mX10_farForAll) (Z := mX5_far) (pc := 29) (st := []) (k2 := 0) (n2 := 0) dX10_farForAll_29 ml_RX10_226 mo_X5_far mv_X5_far rfl (tX5_far d e15 hN k6) k6 (okN hN k6 (by decide)).1 (okN hN k6 (by decide)).2 cq_5 (by decide) rfl rfl (Nat.le_of_ble_eq_true rfl) (by decide) (by decide) (fun v ν hp => ?_) (fun i ν hp => nrm hp.1)
      obtain ⟨rfl, rfl, hN18, hb19⟩ := QEl hp
      show J _ _ _ _ 32 _ ([.int r17]) _ _ _ _
      refine J.istore (pc := 32) ([(4, .int r17), (0, .ref v0), (1, .int v1), (2, .int v2), (3, .int v3)]) dX10_farForAll_32 (Nat.le_of_ble_eq_true rfl) rfl ?_
      refine J.iload_n (pc := 34) dX10_farForAll_34 rfl 3 rfl ?_
      refine J.iload (pc := 35) dX10_farForAll_35 0 rfl ?_
      refine J.iconst (pc := 37) dX10_farForAll_37 ic_m1 ?_
      rcases ifc h with ⟨hc, h⟩ | ⟨hc, h⟩
      · refine J.cne (pc := 38) (tgt := 45) dX10_farForAll_38 (by decide) (fun _ => ?_) (fun q => absurd hc q)
        refine J.iconst (pc := 41) dX10_farForAll_41 ic_0 ?_
        refine J.goto (pc := 42) (tgt := 47) dX10_farForAll_42 (by decide) ?_
        refine J.iadd (pc := 47) dX10_farForAll_47 ?_
        refine J.istore_n (pc := 48) ([(2, .int (v2 + (0 : Int32))), (4, .int r17), (0, .ref v0), (1, .int v1), (3, .int v3)]) dX10_farForAll_48 rfl (Nat.le_of_ble_eq_true rfl) rfl ?_
        refine J.iinc (pc := 49) (j := 4) ([(3, .int (v3 + (1 : Int32))), (2, .int (v2 + (0 : Int32))), (4, .int r17), (0, .ref v0), (1, .int v1)]) dX10_farForAll_49 rfl (iincv ic_1) (Nat.le_of_ble_eq_true rfl) rfl ?_
        refine J.goto (pc := 52) (tgt := 4) dX10_farForAll_52 (by decide) ?_
        refine J.pick [3, 4, 1, 0] rfl ?_
        exact ih v0 v1 (v2 + (0 : Int32)) (v3 + (1 : Int32)) μ16 h hN18 k0
      · refine J.cne (pc := 38) (tgt := 45) dX10_farForAll_38 (by decide) (fun q => absurd q hc) (fun _ => ?_)
        refine J.iload (pc := 45) dX10_farForAll_45 0 rfl ?_
        refine J.iadd (pc := 47) dX10_farForAll_47 ?_
        refine J.istore_n (pc := 48) ([(2, .int (v2 + r17)), (4, .int r17), (0, .ref v0), (1, .int v1), (3, .int v3)]) dX10_farForAll_48 rfl (Nat.le_of_ble_eq_true rfl) rfl ?_
        refine J.iinc (pc := 49) (j := 4) ([(3, .int (v3 + (1 : Int32))), (2, .int (v2 + r17)), (4, .int r17), (0, .ref v0), (1, .int v1)]) dX10_farForAll_49 rfl (iincv ic_1) (Nat.le_of_ble_eq_true rfl) rfl ?_
        refine J.goto (pc := 52) (tgt := 4) dX10_farForAll_52 (by decide) ?_
        refine J.pick [3, 4, 1, 0] rfl ?_
        exact ih v0 v1 (v2 + r17) (v3 + (1 : Int32)) μ16 h hN18 k0
    · refine J.cge (pc := 12) (tgt := 55) dX10_farForAll_12 (by decide) (fun q => absurd q hc) (fun _ => ?_)
      refine J.iload_n (pc := 55) dX10_farForAll_55 rfl 2 rfl ?_
      cases h
      exact J.iret (pc := 56) dX10_farForAll_56 rfl ⟨rfl, rfl, hN, trivial⟩
def fX10_farForAll (v0 : Nat) (v1 : Int32) (μ : Mem) : Option (Int32 × Mem) :=
  (fX10_farForAll_4 fuel) v0 v1 (0 : Int32) (0 : Int32) μ
set_option maxHeartbeats 4000000 in
theorem tX10_farForAll {ω : Wd} {l : Launch} (d : Nat) {v0 : Nat} {v1 : Int32} {μ : Mem} {res : Int32 × Mem} (h : fX10_farForAll v0 v1 μ = some res) (hN : μ.1 = NN) (k0 : (kd v0).1 = 20) : Ct ω l mX10_farForAll (d + 2) [.ref v0, .int v1] μ 0 0 (PE (.inl (some (.int res.1))) res.2 True) := by
  refine Ct.of pn_RX10 (Nat.le_of_ble_eq_true rfl) ?_
  show J ω l mX10_farForAll (d + 2) 0 [(0, .ref v0), (1, .int v1)] [] μ 0 0 _
  unfold fX10_farForAll at h
  refine J.iconst (pc := 0) dX10_farForAll_0 ic_0 ?_
  refine J.istore_n (pc := 1) ([(2, .int (0 : Int32)), (0, .ref v0), (1, .int v1)]) dX10_farForAll_1 rfl (Nat.le_of_ble_eq_true rfl) rfl ?_
  refine J.iconst (pc := 2) dX10_farForAll_2 ic_0 ?_
  refine J.istore_n (pc := 3) ([(3, .int (0 : Int32)), (2, .int (0 : Int32)), (0, .ref v0), (1, .int v1)]) dX10_farForAll_3 rfl (Nat.le_of_ble_eq_true rfl) rfl ?_
  refine J.pick [2, 3, 1, 0] rfl ?_
  exact (tX10_farForAll_4 d fuel) v0 v1 (0 : Int32) (0 : Int32) μ h hN k0
def fX1_has (v0 : Nat) (v1 : Int32) (μ : Mem) : Int32 :=
  if v1 < 0 then
    (0 : Int32)
  else
    if v1 < (48 : Int32) then
      if ((μ.2.2.1 v0 2) &&& (fX10_bit v1)) = (0 : Int64) then
        (0 : Int32)
      else
        (1 : Int32)
    else
      (0 : Int32)
set_option maxHeartbeats 4000000 in
theorem tX1_has {ω : Wd} {l : Launch} (d : Nat) (v0 : Nat) (v1 : Int32) (μ : Mem) (hN : μ.1 = NN) (k0 : (kd v0).1 = 11) : Ct ω l mX1_has (d + 1) [.ref v0, .int v1] μ 0 0 (PE (.inl (some (.int (fX1_has v0 v1 μ)))) μ (isB (fX1_has v0 v1 μ))) := by
  refine Ct.of pn_RX1 (Nat.le_of_ble_eq_true rfl) ?_
  show J ω l mX1_has (d + 1) 0 [(0, .ref v0), (1, .int v1)] [] μ 0 0 _
  generalize h : fX1_has v0 v1 μ = res
  unfold fX1_has at h
  refine J.iload_n (pc := 0) dX1_has_0 rfl 1 rfl ?_
  rcases ifc h with ⟨hc, h⟩ | ⟨hc, h⟩
  · refine J.zlt (pc := 1) (tgt := 28) dX1_has_1 (by decide) (fun _ => ?_) (fun q => absurd hc q)
    refine J.iconst (pc := 28) dX1_has_28 ic_0 ?_
    cases h
    exact J.zret (pc := 29) dX1_has_29 rfl (narB (Or.inl rfl)) ⟨rfl, rfl, hN, (Or.inl rfl)⟩
  · refine J.zlt (pc := 1) (tgt := 28) dX1_has_1 (by decide) (fun q => absurd q hc) (fun _ => ?_)
    refine J.iload_n (pc := 4) dX1_has_4 rfl 1 rfl ?_
    refine J.bipush (pc := 5) dX1_has_5 ib_48 ?_
    rcases ifc h with ⟨hc, h⟩ | ⟨hc, h⟩
    · refine J.cge (pc := 7) (tgt := 28) dX1_has_7 (by decide) (fun _ => ?_) (fun q => absurd hc q)
      refine J.aload_n (pc := 10) dX1_has_10 rfl 0 rfl ?_
      refine J.fL (pc := 11) dX1_has_11 fl_RX1_18 k0 (okN hN k0 (by decide)) rfl ?_
      refine J.iload_n (pc := 14) dX1_has_14 rfl 1 rfl ?_
      refine J.callSN (Y := mX1_has) (Z := mX10_bit) (pc := 15) (st := [.long (μ.2.2.1 v0 2)]) (k2 := 0) (n2 := 0) dX1_has_15 ml_RX1_52 mo_X10_bit ms_X10_bit rfl (tX10_bit d v1 μ hN ) (fun i ν hp => nrm hp.1) rfl rfl (Nat.le_of_ble_eq_true rfl) (by decide) (by decide) (fun v ν hp => ?_)
      obtain ⟨rfl, rfl, hN2, hb3⟩ := QEl hp
      show J _ _ _ _ 18 _ ([.long (fX10_bit v1), .long (μ.2.2.1 v0 2)]) _ _ _ _
      refine J.land (pc := 18) dX1_has_18 ?_
      refine J.lconst (pc := 19) dX1_has_19 lc_0 ?_
      rcases ifc h with ⟨hc, h⟩ | ⟨hc, h⟩
      · refine J.meq (pc := 20) (tgt := 28) dX1_has_20 dX1_has_21 (by decide) (fun _ => ?_) (fun q => absurd hc q)
        refine J.iconst (pc := 28) dX1_has_28 ic_0 ?_
        cases h
        exact J.zret (pc := 29) dX1_has_29 rfl (narB (Or.inl rfl)) ⟨rfl, rfl, hN2, (Or.inl rfl)⟩
      · refine J.meq (pc := 20) (tgt := 28) dX1_has_20 dX1_has_21 (by decide) (fun q => absurd q hc) (fun _ => ?_)
        refine J.iconst (pc := 24) dX1_has_24 ic_1 ?_
        refine J.goto (pc := 25) (tgt := 29) dX1_has_25 (by decide) ?_
        cases h
        exact J.zret (pc := 29) dX1_has_29 rfl (narB (Or.inr rfl)) ⟨rfl, rfl, hN2, (Or.inr rfl)⟩
    · refine J.cge (pc := 7) (tgt := 28) dX1_has_7 (by decide) (fun q => absurd q hc) (fun _ => ?_)
      refine J.iconst (pc := 28) dX1_has_28 ic_0 ?_
      cases h
      exact J.zret (pc := 29) dX1_has_29 rfl (narB (Or.inl rfl)) ⟨rfl, rfl, hN, (Or.inl rfl)⟩
def fX10_gather_33  : Nat → Nat → Int32 → Int32 → Int32 → Int32 → Int32 → Mem → Option ((Int32 ⊕ Nat) × Mem)
  | 0, _, _, _, _, _, _, _ => none
  | n + 1, v0, v1, v2, v3, v4, v5, μ =>
    if v5 < (48 : Int32) then
      (gR μ v0 4 11).bind fun a1 =>
      if (fX1_has a1 v5 μ) = 0 then
        if 0 < (0 : Int32) then
          (fX10_farForAll v0 v5 μ).bind fun (r9, μ8) =>
          if v3 < (0 : Int32) then
            (fX10_gather_33 n) v0 v1 v5 (0 : Int32) r9 (v5 + (1 : Int32)) μ8
          else
            if 0 < (0 : Int32) then
              if (0 : Int32) = v3 then
                if r9 < v4 then
                  (fX10_gather_33 n) v0 v1 v5 (0 : Int32) r9 (v5 + (1 : Int32)) μ8
                else
                  (fX10_gather_33 n) v0 v1 v2 v3 v4 (v5 + (1 : Int32)) μ8
              else
                (fX10_gather_33 n) v0 v1 v2 v3 v4 (v5 + (1 : Int32)) μ8
            else
              (fX10_gather_33 n) v0 v1 v2 v3 v4 (v5 + (1 : Int32)) μ8
        else
          if v3 < (0 : Int32) then
            (fX10_gather_33 n) v0 v1 v5 (0 : Int32) (0 : Int32) (v5 + (1 : Int32)) μ
          else
            if 0 < (0 : Int32) then
              if (0 : Int32) = v3 then
                if (0 : Int32) < v4 then
                  (fX10_gather_33 n) v0 v1 v5 (0 : Int32) (0 : Int32) (v5 + (1 : Int32)) μ
                else
                  (fX10_gather_33 n) v0 v1 v2 v3 v4 (v5 + (1 : Int32)) μ
              else
                (fX10_gather_33 n) v0 v1 v2 v3 v4 (v5 + (1 : Int32)) μ
            else
              (fX10_gather_33 n) v0 v1 v2 v3 v4 (v5 + (1 : Int32)) μ
      else
        (fX10_comers v0 v5 μ).bind fun (r14, μ13) =>
        if 0 < r14 then
          (fX10_farForAll v0 v5 μ13).bind fun (r19, μ18) =>
          if v3 < r14 then
            (fX10_gather_33 n) v0 v1 v5 r14 r19 (v5 + (1 : Int32)) μ18
          else
            if 0 < r14 then
              if r14 = v3 then
                if r19 < v4 then
                  (fX10_gather_33 n) v0 v1 v5 r14 r19 (v5 + (1 : Int32)) μ18
                else
                  (fX10_gather_33 n) v0 v1 v2 v3 v4 (v5 + (1 : Int32)) μ18
              else
                (fX10_gather_33 n) v0 v1 v2 v3 v4 (v5 + (1 : Int32)) μ18
            else
              (fX10_gather_33 n) v0 v1 v2 v3 v4 (v5 + (1 : Int32)) μ18
        else
          if v3 < r14 then
            (fX10_gather_33 n) v0 v1 v5 r14 (0 : Int32) (v5 + (1 : Int32)) μ13
          else
            if 0 < r14 then
              if r14 = v3 then
                if (0 : Int32) < v4 then
                  (fX10_gather_33 n) v0 v1 v5 r14 (0 : Int32) (v5 + (1 : Int32)) μ13
                else
                  (fX10_gather_33 n) v0 v1 v2 v3 v4 (v5 + (1 : Int32)) μ13
              else
                (fX10_gather_33 n) v0 v1 v2 v3 v4 (v5 + (1 : Int32)) μ13
            else
              (fX10_gather_33 n) v0 v1 v2 v3 v4 (v5 + (1 : Int32)) μ13
    else
      if v1 = 0 then
        some (.inl (fX10_outside v2), μ)
      else
        some (.inl v4, μ)
set_option maxHeartbeats 4000000 in
theorem tX10_gather_33 {ω : Wd} {l : Launch} (d : Nat) {res : (Int32 ⊕ Nat) × Mem} : ∀ n : Nat, ∀ (v0 : Nat) (v1 : Int32) (v2 : Int32) (v3 : Int32) (v4 : Int32) (v5 : Int32) (μ : Mem), fX10_gather_33 n v0 v1 v2 v3 v4 v5 μ = some res → μ.1 = NN → (kd v0).1 = 20 → J ω l mX10_gather (d + 9) 33 [(0, .ref v0), (1, .int v1), (2, .int v2), (3, .int v3), (4, .int v4), (5, .int v5)] [] μ 0 0 (PE (oI res.1) res.2 True) := by
  intro n
  induction n with
  | zero =>
    intro v0 v1 v2 v3 v4 v5 μ h hN k0
    have h9 : (none : Option ((Int32 ⊕ Nat) × Mem)) = some res := h
    cases h9
  | succ n ih =>
    intro v0 v1 v2 v3 v4 v5 μ h hN k0
    unfold fX10_gather_33 at h
    refine J.iload (pc := 33) dX10_gather_33 5 rfl ?_
    refine J.bipush (pc := 35) dX10_gather_35 ib_48 ?_
    rcases ifc h with ⟨hc, h⟩ | ⟨hc, h⟩
    · refine J.cge (pc := 37) (tgt := 121) dX10_gather_37 (by decide) (fun _ => ?_) (fun q => absurd hc q)
      refine J.aload_n (pc := 40) dX10_gather_40 rfl 0 rfl ?_
      obtain ⟨a1, e2, h⟩ := bnd h
      have k3 : (kd a1).1 = 11 := gR_k e2
      refine J.fR (pc := 41) dX10_gather_41 fl_RX10_26 k0 (okN hN k0 (by decide)) rfl e2 ?_
      refine J.iload (pc := 44) dX10_gather_44 5 rfl ?_
      refine J.callV (Y := mX10_gather) (Z := mX1_has) (pc := 46) (st := []) (k2 := 0) (n2 := 0) dX10_gather_46 ml_RX10_252 mo_X1_has mv_X1_has rfl (tX1_has (d + 7) a1 v5 μ hN k3) k3 (okN hN k3 (by decide)).1 (okN hN k3 (by decide)).2 cq_1 (by decide) rfl rfl (Nat.le_of_ble_eq_true rfl) (by decide) (by decide) (fun v ν hp => ?_) (fun i ν hp => nrm hp.1)
      obtain ⟨rfl, rfl, hN5, hb6⟩ := QEl hp
      show J _ _ _ _ 49 _ ([.int (fX1_has a1 v5 μ)]) _ _ _ _
      rcases ifc h with ⟨hc, h⟩ | ⟨hc, h⟩
      · refine J.zeq (pc := 49) (tgt := 61) dX10_gather_49 (by decide) (fun _ => ?_) (fun q => absurd hc q)
        refine J.iconst (pc := 61) dX10_gather_61 ic_0 ?_
        refine J.istore (pc := 62) ([(6, .int (0 : Int32)), (0, .ref v0), (1, .int v1), (2, .int v2), (3, .int v3), (4, .int v4), (5, .int v5)]) dX10_gather_62 (Nat.le_of_ble_eq_true rfl) rfl ?_
        refine J.iload (pc := 64) dX10_gather_64 0 rfl ?_
        rcases ifc h with ⟨hc, h⟩ | ⟨hc, h⟩
        · refine J.zle (pc := 66) (tgt := 78) dX10_gather_66 (by decide) (fun _ => ?_) (fun q => absurd hc q)
          refine J.aload_n (pc := 69) dX10_gather_69 rfl 1 rfl ?_
          refine J.iload (pc := 70) dX10_gather_70 6 rfl ?_
          obtain ⟨⟨r9, μ8⟩, e7, h⟩ := bnd h
          try dsimp only at h
          refine J.callV (Y := mX10_gather) (Z := mX10_farForAll) (pc := 72) (st := []) (k2 := 0) (n2 := 0) dX10_gather_72 ml_RX10_319 mo_X10_farForAll mv_X10_farForAll rfl (tX10_farForAll (d + 6) e7 hN5 k0) k0 (okN hN5 k0 (by decide)).1 (okN hN5 k0 (by decide)).2 cq_10 (by decide) rfl rfl (Nat.le_of_ble_eq_true rfl) (by decide) (by decide) (fun v ν hp => ?_) (fun i ν hp => nrm hp.1)
          obtain ⟨rfl, rfl, hN10, hb11⟩ := QEl hp
          show J _ _ _ _ 75 _ ([.int r9]) _ _ _ _
          refine J.goto (pc := 75) (tgt := 79) dX10_gather_75 (by decide) ?_
          refine J.istore (pc := 79) ([(7, .int r9), (6, .int (0 : Int32)), (0, .ref v0), (1, .int v1), (2, .int v2), (3, .int v3), (4, .int v4), (5, .int v5)]) dX10_gather_79 (Nat.le_of_ble_eq_true rfl) rfl ?_
          refine J.iload (pc := 81) dX10_gather_81 1 rfl ?_
          refine J.iload_n (pc := 83) dX10_gather_83 rfl 5 rfl ?_
          rcases ifc h with ⟨hc, h⟩ | ⟨hc, h⟩
          · refine J.cgt (pc := 84) (tgt := 105) dX10_gather_84 (by decide) (fun _ => ?_) (fun q => absurd hc q)
            refine J.iload (pc := 105) dX10_gather_105 7 rfl ?_
            refine J.istore_n (pc := 107) ([(2, .int v5), (7, .int r9), (6, .int (0 : Int32)), (0, .ref v0), (1, .int v1), (3, .int v3), (4, .int v4), (5, .int v5)]) dX10_gather_107 rfl (Nat.le_of_ble_eq_true rfl) rfl ?_
            refine J.iload (pc := 108) dX10_gather_108 2 rfl ?_
            refine J.istore_n (pc := 110) ([(3, .int (0 : Int32)), (2, .int v5), (7, .int r9), (6, .int (0 : Int32)), (0, .ref v0), (1, .int v1), (4, .int v4), (5, .int v5)]) dX10_gather_110 rfl (Nat.le_of_ble_eq_true rfl) rfl ?_
            refine J.iload (pc := 111) dX10_gather_111 2 rfl ?_
            refine J.istore (pc := 113) ([(4, .int r9), (3, .int (0 : Int32)), (2, .int v5), (7, .int r9), (6, .int (0 : Int32)), (0, .ref v0), (1, .int v1), (5, .int v5)]) dX10_gather_113 (Nat.le_of_ble_eq_true rfl) rfl ?_
            refine J.iinc (pc := 115) (j := 7) ([(5, .int (v5 + (1 : Int32))), (4, .int r9), (3, .int (0 : Int32)), (2, .int v5), (7, .int r9), (6, .int (0 : Int32)), (0, .ref v0), (1, .int v1)]) dX10_gather_115 rfl (iincv ic_1) (Nat.le_of_ble_eq_true rfl) rfl ?_
            refine J.goto (pc := 118) (tgt := 33) dX10_gather_118 (by decide) ?_
            refine J.pick [6, 7, 3, 2, 1, 0] rfl ?_
            exact ih v0 v1 v5 (0 : Int32) r9 (v5 + (1 : Int32)) μ8 h hN10 k0
          · refine J.cgt (pc := 84) (tgt := 105) dX10_gather_84 (by decide) (fun q => absurd q hc) (fun _ => ?_)
            refine J.iload (pc := 87) dX10_gather_87 1 rfl ?_
            rcases ifc h with ⟨hc, h⟩ | ⟨hc, h⟩
            · refine J.zle (pc := 89) (tgt := 115) dX10_gather_89 (by decide) (fun _ => ?_) (fun q => absurd hc q)
              refine J.iload (pc := 92) dX10_gather_92 1 rfl ?_
              refine J.iload_n (pc := 94) dX10_gather_94 rfl 5 rfl ?_
              rcases ifc h with ⟨hc, h⟩ | ⟨hc, h⟩
              · refine J.cne (pc := 95) (tgt := 115) dX10_gather_95 (by decide) (fun _ => ?_) (fun q => absurd hc q)
                refine J.iload (pc := 98) dX10_gather_98 0 rfl ?_
                refine J.iload (pc := 100) dX10_gather_100 6 rfl ?_
                rcases ifc h with ⟨hc, h⟩ | ⟨hc, h⟩
                · refine J.cge (pc := 102) (tgt := 115) dX10_gather_102 (by decide) (fun _ => ?_) (fun q => absurd hc q)
                  refine J.iload (pc := 105) dX10_gather_105 7 rfl ?_
                  refine J.istore_n (pc := 107) ([(2, .int v5), (7, .int r9), (6, .int (0 : Int32)), (0, .ref v0), (1, .int v1), (3, .int v3), (4, .int v4), (5, .int v5)]) dX10_gather_107 rfl (Nat.le_of_ble_eq_true rfl) rfl ?_
                  refine J.iload (pc := 108) dX10_gather_108 2 rfl ?_
                  refine J.istore_n (pc := 110) ([(3, .int (0 : Int32)), (2, .int v5), (7, .int r9), (6, .int (0 : Int32)), (0, .ref v0), (1, .int v1), (4, .int v4), (5, .int v5)]) dX10_gather_110 rfl (Nat.le_of_ble_eq_true rfl) rfl ?_
                  refine J.iload (pc := 111) dX10_gather_111 2 rfl ?_
                  refine J.istore (pc := 113) ([(4, .int r9), (3, .int (0 : Int32)), (2, .int v5), (7, .int r9), (6, .int (0 : Int32)), (0, .ref v0), (1, .int v1), (5, .int v5)]) dX10_gather_113 (Nat.le_of_ble_eq_true rfl) rfl ?_
                  refine J.iinc (pc := 115) (j := 7) ([(5, .int (v5 + (1 : Int32))), (4, .int r9), (3, .int (0 : Int32)), (2, .int v5), (7, .int r9), (6, .int (0 : Int32)), (0, .ref v0), (1, .int v1)]) dX10_gather_115 rfl (iincv ic_1) (Nat.le_of_ble_eq_true rfl) rfl ?_
                  refine J.goto (pc := 118) (tgt := 33) dX10_gather_118 (by decide) ?_
                  refine J.pick [6, 7, 3, 2, 1, 0] rfl ?_
                  exact ih v0 v1 v5 (0 : Int32) r9 (v5 + (1 : Int32)) μ8 h hN10 k0
                · refine J.cge (pc := 102) (tgt := 115) dX10_gather_102 (by decide) (fun q => absurd q hc) (fun _ => ?_)
                  refine J.iinc (pc := 115) (j := 7) ([(5, .int (v5 + (1 : Int32))), (7, .int r9), (6, .int (0 : Int32)), (0, .ref v0), (1, .int v1), (2, .int v2), (3, .int v3), (4, .int v4)]) dX10_gather_115 rfl (iincv ic_1) (Nat.le_of_ble_eq_true rfl) rfl ?_
                  refine J.goto (pc := 118) (tgt := 33) dX10_gather_118 (by decide) ?_
                  refine J.pick [3, 4, 5, 6, 7, 0] rfl ?_
                  exact ih v0 v1 v2 v3 v4 (v5 + (1 : Int32)) μ8 h hN10 k0
              · refine J.cne (pc := 95) (tgt := 115) dX10_gather_95 (by decide) (fun q => absurd q hc) (fun _ => ?_)
                refine J.iinc (pc := 115) (j := 7) ([(5, .int (v5 + (1 : Int32))), (7, .int r9), (6, .int (0 : Int32)), (0, .ref v0), (1, .int v1), (2, .int v2), (3, .int v3), (4, .int v4)]) dX10_gather_115 rfl (iincv ic_1) (Nat.le_of_ble_eq_true rfl) rfl ?_
                refine J.goto (pc := 118) (tgt := 33) dX10_gather_118 (by decide) ?_
                refine J.pick [3, 4, 5, 6, 7, 0] rfl ?_
                exact ih v0 v1 v2 v3 v4 (v5 + (1 : Int32)) μ8 h hN10 k0
            · refine J.zle (pc := 89) (tgt := 115) dX10_gather_89 (by decide) (fun q => absurd q hc) (fun _ => ?_)
              refine J.iinc (pc := 115) (j := 7) ([(5, .int (v5 + (1 : Int32))), (7, .int r9), (6, .int (0 : Int32)), (0, .ref v0), (1, .int v1), (2, .int v2), (3, .int v3), (4, .int v4)]) dX10_gather_115 rfl (iincv ic_1) (Nat.le_of_ble_eq_true rfl) rfl ?_
              refine J.goto (pc := 118) (tgt := 33) dX10_gather_118 (by decide) ?_
              refine J.pick [3, 4, 5, 6, 7, 0] rfl ?_
              exact ih v0 v1 v2 v3 v4 (v5 + (1 : Int32)) μ8 h hN10 k0
        · refine J.zle (pc := 66) (tgt := 78) dX10_gather_66 (by decide) (fun q => absurd q hc) (fun _ => ?_)
          refine J.iconst (pc := 78) dX10_gather_78 ic_0 ?_
          refine J.istore (pc := 79) ([(7, .int (0 : Int32)), (6, .int (0 : Int32)), (0, .ref v0), (1, .int v1), (2, .int v2), (3, .int v3), (4, .int v4), (5, .int v5)]) dX10_gather_79 (Nat.le_of_ble_eq_true rfl) rfl ?_
          refine J.iload (pc := 81) dX10_gather_81 1 rfl ?_
          refine J.iload_n (pc := 83) dX10_gather_83 rfl 5 rfl ?_
          rcases ifc h with ⟨hc, h⟩ | ⟨hc, h⟩
          · refine J.cgt (pc := 84) (tgt := 105) dX10_gather_84 (by decide) (fun _ => ?_) (fun q => absurd hc q)
            refine J.iload (pc := 105) dX10_gather_105 7 rfl ?_
            refine J.istore_n (pc := 107) ([(2, .int v5), (7, .int (0 : Int32)), (6, .int (0 : Int32)), (0, .ref v0), (1, .int v1), (3, .int v3), (4, .int v4), (5, .int v5)]) dX10_gather_107 rfl (Nat.le_of_ble_eq_true rfl) rfl ?_
            refine J.iload (pc := 108) dX10_gather_108 2 rfl ?_
            refine J.istore_n (pc := 110) ([(3, .int (0 : Int32)), (2, .int v5), (7, .int (0 : Int32)), (6, .int (0 : Int32)), (0, .ref v0), (1, .int v1), (4, .int v4), (5, .int v5)]) dX10_gather_110 rfl (Nat.le_of_ble_eq_true rfl) rfl ?_
            refine J.iload (pc := 111) dX10_gather_111 2 rfl ?_
            refine J.istore (pc := 113) ([(4, .int (0 : Int32)), (3, .int (0 : Int32)), (2, .int v5), (7, .int (0 : Int32)), (6, .int (0 : Int32)), (0, .ref v0), (1, .int v1), (5, .int v5)]) dX10_gather_113 (Nat.le_of_ble_eq_true rfl) rfl ?_
            refine J.iinc (pc := 115) (j := 7) ([(5, .int (v5 + (1 : Int32))), (4, .int (0 : Int32)), (3, .int (0 : Int32)), (2, .int v5), (7, .int (0 : Int32)), (6, .int (0 : Int32)), (0, .ref v0), (1, .int v1)]) dX10_gather_115 rfl (iincv ic_1) (Nat.le_of_ble_eq_true rfl) rfl ?_
            refine J.goto (pc := 118) (tgt := 33) dX10_gather_118 (by decide) ?_
            refine J.pick [6, 7, 3, 2, 1, 0] rfl ?_
            exact ih v0 v1 v5 (0 : Int32) (0 : Int32) (v5 + (1 : Int32)) μ h hN5 k0
          · refine J.cgt (pc := 84) (tgt := 105) dX10_gather_84 (by decide) (fun q => absurd q hc) (fun _ => ?_)
            refine J.iload (pc := 87) dX10_gather_87 1 rfl ?_
            rcases ifc h with ⟨hc, h⟩ | ⟨hc, h⟩
            · refine J.zle (pc := 89) (tgt := 115) dX10_gather_89 (by decide) (fun _ => ?_) (fun q => absurd hc q)
              refine J.iload (pc := 92) dX10_gather_92 1 rfl ?_
              refine J.iload_n (pc := 94) dX10_gather_94 rfl 5 rfl ?_
              rcases ifc h with ⟨hc, h⟩ | ⟨hc, h⟩
              · refine J.cne (pc := 95) (tgt := 115) dX10_gather_95 (by decide) (fun _ => ?_) (fun q => absurd hc q)
                refine J.iload (pc := 98) dX10_gather_98 0 rfl ?_
                refine J.iload (pc := 100) dX10_gather_100 6 rfl ?_
                rcases ifc h with ⟨hc, h⟩ | ⟨hc, h⟩
                · refine J.cge (pc := 102) (tgt := 115) dX10_gather_102 (by decide) (fun _ => ?_) (fun q => absurd hc q)
                  refine J.iload (pc := 105) dX10_gather_105 7 rfl ?_
                  refine J.istore_n (pc := 107) ([(2, .int v5), (7, .int (0 : Int32)), (6, .int (0 : Int32)), (0, .ref v0), (1, .int v1), (3, .int v3), (4, .int v4), (5, .int v5)]) dX10_gather_107 rfl (Nat.le_of_ble_eq_true rfl) rfl ?_
                  refine J.iload (pc := 108) dX10_gather_108 2 rfl ?_
                  refine J.istore_n (pc := 110) ([(3, .int (0 : Int32)), (2, .int v5), (7, .int (0 : Int32)), (6, .int (0 : Int32)), (0, .ref v0), (1, .int v1), (4, .int v4), (5, .int v5)]) dX10_gather_110 rfl (Nat.le_of_ble_eq_true rfl) rfl ?_
                  refine J.iload (pc := 111) dX10_gather_111 2 rfl ?_
                  refine J.istore (pc := 113) ([(4, .int (0 : Int32)), (3, .int (0 : Int32)), (2, .int v5), (7, .int (0 : Int32)), (6, .int (0 : Int32)), (0, .ref v0), (1, .int v1), (5, .int v5)]) dX10_gather_113 (Nat.le_of_ble_eq_true rfl) rfl ?_
                  refine J.iinc (pc := 115) (j := 7) ([(5, .int (v5 + (1 : Int32))), (4, .int (0 : Int32)), (3, .int (0 : Int32)), (2, .int v5), (7, .int (0 : Int32)), (6, .int (0 : Int32)), (0, .ref v0), (1, .int v1)]) dX10_gather_115 rfl (iincv ic_1) (Nat.le_of_ble_eq_true rfl) rfl ?_
                  refine J.goto (pc := 118) (tgt := 33) dX10_gather_118 (by decide) ?_
                  refine J.pick [6, 7, 3, 2, 1, 0] rfl ?_
                  exact ih v0 v1 v5 (0 : Int32) (0 : Int32) (v5 + (1 : Int32)) μ h hN5 k0
                · refine J.cge (pc := 102) (tgt := 115) dX10_gather_102 (by decide) (fun q => absurd q hc) (fun _ => ?_)
                  refine J.iinc (pc := 115) (j := 7) ([(5, .int (v5 + (1 : Int32))), (7, .int (0 : Int32)), (6, .int (0 : Int32)), (0, .ref v0), (1, .int v1), (2, .int v2), (3, .int v3), (4, .int v4)]) dX10_gather_115 rfl (iincv ic_1) (Nat.le_of_ble_eq_true rfl) rfl ?_
                  refine J.goto (pc := 118) (tgt := 33) dX10_gather_118 (by decide) ?_
                  refine J.pick [3, 4, 5, 6, 7, 0] rfl ?_
                  exact ih v0 v1 v2 v3 v4 (v5 + (1 : Int32)) μ h hN5 k0
              · refine J.cne (pc := 95) (tgt := 115) dX10_gather_95 (by decide) (fun q => absurd q hc) (fun _ => ?_)
                refine J.iinc (pc := 115) (j := 7) ([(5, .int (v5 + (1 : Int32))), (7, .int (0 : Int32)), (6, .int (0 : Int32)), (0, .ref v0), (1, .int v1), (2, .int v2), (3, .int v3), (4, .int v4)]) dX10_gather_115 rfl (iincv ic_1) (Nat.le_of_ble_eq_true rfl) rfl ?_
                refine J.goto (pc := 118) (tgt := 33) dX10_gather_118 (by decide) ?_
                refine J.pick [3, 4, 5, 6, 7, 0] rfl ?_
                exact ih v0 v1 v2 v3 v4 (v5 + (1 : Int32)) μ h hN5 k0
            · refine J.zle (pc := 89) (tgt := 115) dX10_gather_89 (by decide) (fun q => absurd q hc) (fun _ => ?_)
              refine J.iinc (pc := 115) (j := 7) ([(5, .int (v5 + (1 : Int32))), (7, .int (0 : Int32)), (6, .int (0 : Int32)), (0, .ref v0), (1, .int v1), (2, .int v2), (3, .int v3), (4, .int v4)]) dX10_gather_115 rfl (iincv ic_1) (Nat.le_of_ble_eq_true rfl) rfl ?_
              refine J.goto (pc := 118) (tgt := 33) dX10_gather_118 (by decide) ?_
              refine J.pick [3, 4, 5, 6, 7, 0] rfl ?_
              exact ih v0 v1 v2 v3 v4 (v5 + (1 : Int32)) μ h hN5 k0
      · refine J.zeq (pc := 49) (tgt := 61) dX10_gather_49 (by decide) (fun q => absurd q hc) (fun _ => ?_)
        refine J.aload_n (pc := 52) dX10_gather_52 rfl 0 rfl ?_
        refine J.iload (pc := 53) dX10_gather_53 5 rfl ?_
        obtain ⟨⟨r14, μ13⟩, e12, h⟩ := bnd h
        try dsimp only at h
        refine J.callV (Y := mX10_gather) (Z := mX10_comers) (pc := 55) (st := []) (k2 := 0) (n2 := 0) dX10_gather_55 ml_RX10_316 mo_X10_comers mv_X10_comers rfl (tX10_comers (d + 6) e12 hN5 k0) k0 (okN hN5 k0 (by decide)).1 (okN hN5 k0 (by decide)).2 cq_10 (by decide) rfl rfl (Nat.le_of_ble_eq_true rfl) (by decide) (by decide) (fun v ν hp => ?_) (fun i ν hp => nrm hp.1)
        obtain ⟨rfl, rfl, hN15, hb16⟩ := QEl hp
        show J _ _ _ _ 58 _ ([.int r14]) _ _ _ _
        refine J.goto (pc := 58) (tgt := 62) dX10_gather_58 (by decide) ?_
        refine J.istore (pc := 62) ([(6, .int r14), (0, .ref v0), (1, .int v1), (2, .int v2), (3, .int v3), (4, .int v4), (5, .int v5)]) dX10_gather_62 (Nat.le_of_ble_eq_true rfl) rfl ?_
        refine J.iload (pc := 64) dX10_gather_64 0 rfl ?_
        rcases ifc h with ⟨hc, h⟩ | ⟨hc, h⟩
        · refine J.zle (pc := 66) (tgt := 78) dX10_gather_66 (by decide) (fun _ => ?_) (fun q => absurd hc q)
          refine J.aload_n (pc := 69) dX10_gather_69 rfl 1 rfl ?_
          refine J.iload (pc := 70) dX10_gather_70 6 rfl ?_
          obtain ⟨⟨r19, μ18⟩, e17, h⟩ := bnd h
          try dsimp only at h
          refine J.callV (Y := mX10_gather) (Z := mX10_farForAll) (pc := 72) (st := []) (k2 := 0) (n2 := 0) dX10_gather_72 ml_RX10_319 mo_X10_farForAll mv_X10_farForAll rfl (tX10_farForAll (d + 6) e17 hN15 k0) k0 (okN hN15 k0 (by decide)).1 (okN hN15 k0 (by decide)).2 cq_10 (by decide) rfl rfl (Nat.le_of_ble_eq_true rfl) (by decide) (by decide) (fun v ν hp => ?_) (fun i ν hp => nrm hp.1)
          obtain ⟨rfl, rfl, hN20, hb21⟩ := QEl hp
          show J _ _ _ _ 75 _ ([.int r19]) _ _ _ _
          refine J.goto (pc := 75) (tgt := 79) dX10_gather_75 (by decide) ?_
          refine J.istore (pc := 79) ([(7, .int r19), (6, .int r14), (0, .ref v0), (1, .int v1), (2, .int v2), (3, .int v3), (4, .int v4), (5, .int v5)]) dX10_gather_79 (Nat.le_of_ble_eq_true rfl) rfl ?_
          refine J.iload (pc := 81) dX10_gather_81 1 rfl ?_
          refine J.iload_n (pc := 83) dX10_gather_83 rfl 5 rfl ?_
          rcases ifc h with ⟨hc, h⟩ | ⟨hc, h⟩
          · refine J.cgt (pc := 84) (tgt := 105) dX10_gather_84 (by decide) (fun _ => ?_) (fun q => absurd hc q)
            refine J.iload (pc := 105) dX10_gather_105 7 rfl ?_
            refine J.istore_n (pc := 107) ([(2, .int v5), (7, .int r19), (6, .int r14), (0, .ref v0), (1, .int v1), (3, .int v3), (4, .int v4), (5, .int v5)]) dX10_gather_107 rfl (Nat.le_of_ble_eq_true rfl) rfl ?_
            refine J.iload (pc := 108) dX10_gather_108 2 rfl ?_
            refine J.istore_n (pc := 110) ([(3, .int r14), (2, .int v5), (7, .int r19), (6, .int r14), (0, .ref v0), (1, .int v1), (4, .int v4), (5, .int v5)]) dX10_gather_110 rfl (Nat.le_of_ble_eq_true rfl) rfl ?_
            refine J.iload (pc := 111) dX10_gather_111 2 rfl ?_
            refine J.istore (pc := 113) ([(4, .int r19), (3, .int r14), (2, .int v5), (7, .int r19), (6, .int r14), (0, .ref v0), (1, .int v1), (5, .int v5)]) dX10_gather_113 (Nat.le_of_ble_eq_true rfl) rfl ?_
            refine J.iinc (pc := 115) (j := 7) ([(5, .int (v5 + (1 : Int32))), (4, .int r19), (3, .int r14), (2, .int v5), (7, .int r19), (6, .int r14), (0, .ref v0), (1, .int v1)]) dX10_gather_115 rfl (iincv ic_1) (Nat.le_of_ble_eq_true rfl) rfl ?_
            refine J.goto (pc := 118) (tgt := 33) dX10_gather_118 (by decide) ?_
            refine J.pick [6, 7, 3, 2, 1, 0] rfl ?_
            exact ih v0 v1 v5 r14 r19 (v5 + (1 : Int32)) μ18 h hN20 k0
          · refine J.cgt (pc := 84) (tgt := 105) dX10_gather_84 (by decide) (fun q => absurd q hc) (fun _ => ?_)
            refine J.iload (pc := 87) dX10_gather_87 1 rfl ?_
            rcases ifc h with ⟨hc, h⟩ | ⟨hc, h⟩
            · refine J.zle (pc := 89) (tgt := 115) dX10_gather_89 (by decide) (fun _ => ?_) (fun q => absurd hc q)
              refine J.iload (pc := 92) dX10_gather_92 1 rfl ?_
              refine J.iload_n (pc := 94) dX10_gather_94 rfl 5 rfl ?_
              rcases ifc h with ⟨hc, h⟩ | ⟨hc, h⟩
              · refine J.cne (pc := 95) (tgt := 115) dX10_gather_95 (by decide) (fun _ => ?_) (fun q => absurd hc q)
                refine J.iload (pc := 98) dX10_gather_98 0 rfl ?_
                refine J.iload (pc := 100) dX10_gather_100 6 rfl ?_
                rcases ifc h with ⟨hc, h⟩ | ⟨hc, h⟩
                · refine J.cge (pc := 102) (tgt := 115) dX10_gather_102 (by decide) (fun _ => ?_) (fun q => absurd hc q)
                  refine J.iload (pc := 105) dX10_gather_105 7 rfl ?_
                  refine J.istore_n (pc := 107) ([(2, .int v5), (7, .int r19), (6, .int r14), (0, .ref v0), (1, .int v1), (3, .int v3), (4, .int v4), (5, .int v5)]) dX10_gather_107 rfl (Nat.le_of_ble_eq_true rfl) rfl ?_
                  refine J.iload (pc := 108) dX10_gather_108 2 rfl ?_
                  refine J.istore_n (pc := 110) ([(3, .int r14), (2, .int v5), (7, .int r19), (6, .int r14), (0, .ref v0), (1, .int v1), (4, .int v4), (5, .int v5)]) dX10_gather_110 rfl (Nat.le_of_ble_eq_true rfl) rfl ?_
                  refine J.iload (pc := 111) dX10_gather_111 2 rfl ?_
                  refine J.istore (pc := 113) ([(4, .int r19), (3, .int r14), (2, .int v5), (7, .int r19), (6, .int r14), (0, .ref v0), (1, .int v1), (5, .int v5)]) dX10_gather_113 (Nat.le_of_ble_eq_true rfl) rfl ?_
                  refine J.iinc (pc := 115) (j := 7) ([(5, .int (v5 + (1 : Int32))), (4, .int r19), (3, .int r14), (2, .int v5), (7, .int r19), (6, .int r14), (0, .ref v0), (1, .int v1)]) dX10_gather_115 rfl (iincv ic_1) (Nat.le_of_ble_eq_true rfl) rfl ?_
                  refine J.goto (pc := 118) (tgt := 33) dX10_gather_118 (by decide) ?_
                  refine J.pick [6, 7, 3, 2, 1, 0] rfl ?_
                  exact ih v0 v1 v5 r14 r19 (v5 + (1 : Int32)) μ18 h hN20 k0
                · refine J.cge (pc := 102) (tgt := 115) dX10_gather_102 (by decide) (fun q => absurd q hc) (fun _ => ?_)
                  refine J.iinc (pc := 115) (j := 7) ([(5, .int (v5 + (1 : Int32))), (7, .int r19), (6, .int r14), (0, .ref v0), (1, .int v1), (2, .int v2), (3, .int v3), (4, .int v4)]) dX10_gather_115 rfl (iincv ic_1) (Nat.le_of_ble_eq_true rfl) rfl ?_
                  refine J.goto (pc := 118) (tgt := 33) dX10_gather_118 (by decide) ?_
                  refine J.pick [3, 4, 5, 6, 7, 0] rfl ?_
                  exact ih v0 v1 v2 v3 v4 (v5 + (1 : Int32)) μ18 h hN20 k0
              · refine J.cne (pc := 95) (tgt := 115) dX10_gather_95 (by decide) (fun q => absurd q hc) (fun _ => ?_)
                refine J.iinc (pc := 115) (j := 7) ([(5, .int (v5 + (1 : Int32))), (7, .int r19), (6, .int r14), (0, .ref v0), (1, .int v1), (2, .int v2), (3, .int v3), (4, .int v4)]) dX10_gather_115 rfl (iincv ic_1) (Nat.le_of_ble_eq_true rfl) rfl ?_
                refine J.goto (pc := 118) (tgt := 33) dX10_gather_118 (by decide) ?_
                refine J.pick [3, 4, 5, 6, 7, 0] rfl ?_
                exact ih v0 v1 v2 v3 v4 (v5 + (1 : Int32)) μ18 h hN20 k0
            · refine J.zle (pc := 89) (tgt := 115) dX10_gather_89 (by decide) (fun q => absurd q hc) (fun _ => ?_)
              refine J.iinc (pc := 115) (j := 7) ([(5, .int (v5 + (1 : Int32))), (7, .int r19), (6, .int r14), (0, .ref v0), (1, .int v1), (2, .int v2), (3, .int v3), (4, .int v4)]) dX10_gather_115 rfl (iincv ic_1) (Nat.le_of_ble_eq_true rfl) rfl ?_
              refine J.goto (pc := 118) (tgt := 33) dX10_gather_118 (by decide) ?_
              refine J.pick [3, 4, 5, 6, 7, 0] rfl ?_
              exact ih v0 v1 v2 v3 v4 (v5 + (1 : Int32)) μ18 h hN20 k0
        · refine J.zle (pc := 66) (tgt := 78) dX10_gather_66 (by decide) (fun q => absurd q hc) (fun _ => ?_)
          refine J.iconst (pc := 78) dX10_gather_78 ic_0 ?_
          refine J.istore (pc := 79) ([(7, .int (0 : Int32)), (6, .int r14), (0, .ref v0), (1, .int v1), (2, .int v2), (3, .int v3), (4, .int v4), (5, .int v5)]) dX10_gather_79 (Nat.le_of_ble_eq_true rfl) rfl ?_
          refine J.iload (pc := 81) dX10_gather_81 1 rfl ?_
          refine J.iload_n (pc := 83) dX10_gather_83 rfl 5 rfl ?_
          rcases ifc h with ⟨hc, h⟩ | ⟨hc, h⟩
          · refine J.cgt (pc := 84) (tgt := 105) dX10_gather_84 (by decide) (fun _ => ?_) (fun q => absurd hc q)
            refine J.iload (pc := 105) dX10_gather_105 7 rfl ?_
            refine J.istore_n (pc := 107) ([(2, .int v5), (7, .int (0 : Int32)), (6, .int r14), (0, .ref v0), (1, .int v1), (3, .int v3), (4, .int v4), (5, .int v5)]) dX10_gather_107 rfl (Nat.le_of_ble_eq_true rfl) rfl ?_
            refine J.iload (pc := 108) dX10_gather_108 2 rfl ?_
            refine J.istore_n (pc := 110) ([(3, .int r14), (2, .int v5), (7, .int (0 : Int32)), (6, .int r14), (0, .ref v0), (1, .int v1), (4, .int v4), (5, .int v5)]) dX10_gather_110 rfl (Nat.le_of_ble_eq_true rfl) rfl ?_
            refine J.iload (pc := 111) dX10_gather_111 2 rfl ?_
            refine J.istore (pc := 113) ([(4, .int (0 : Int32)), (3, .int r14), (2, .int v5), (7, .int (0 : Int32)), (6, .int r14), (0, .ref v0), (1, .int v1), (5, .int v5)]) dX10_gather_113 (Nat.le_of_ble_eq_true rfl) rfl ?_
            refine J.iinc (pc := 115) (j := 7) ([(5, .int (v5 + (1 : Int32))), (4, .int (0 : Int32)), (3, .int r14), (2, .int v5), (7, .int (0 : Int32)), (6, .int r14), (0, .ref v0), (1, .int v1)]) dX10_gather_115 rfl (iincv ic_1) (Nat.le_of_ble_eq_true rfl) rfl ?_
            refine J.goto (pc := 118) (tgt := 33) dX10_gather_118 (by decide) ?_
            refine J.pick [6, 7, 3, 2, 1, 0] rfl ?_
            exact ih v0 v1 v5 r14 (0 : Int32) (v5 + (1 : Int32)) μ13 h hN15 k0
          · refine J.cgt (pc := 84) (tgt := 105) dX10_gather_84 (by decide) (fun q => absurd q hc) (fun _ => ?_)
            refine J.iload (pc := 87) dX10_gather_87 1 rfl ?_
            rcases ifc h with ⟨hc, h⟩ | ⟨hc, h⟩
            · refine J.zle (pc := 89) (tgt := 115) dX10_gather_89 (by decide) (fun _ => ?_) (fun q => absurd hc q)
              refine J.iload (pc := 92) dX10_gather_92 1 rfl ?_
              refine J.iload_n (pc := 94) dX10_gather_94 rfl 5 rfl ?_
              rcases ifc h with ⟨hc, h⟩ | ⟨hc, h⟩
              · refine J.cne (pc := 95) (tgt := 115) dX10_gather_95 (by decide) (fun _ => ?_) (fun q => absurd hc q)
                refine J.iload (pc := 98) dX10_gather_98 0 rfl ?_
                refine J.iload (pc := 100) dX10_gather_100 6 rfl ?_
                rcases ifc h with ⟨hc, h⟩ | ⟨hc, h⟩
                · refine J.cge (pc := 102) (tgt := 115) dX10_gather_102 (by decide) (fun _ => ?_) (fun q => absurd hc q)
                  refine J.iload (pc := 105) dX10_gather_105 7 rfl ?_
                  refine J.istore_n (pc := 107) ([(2, .int v5), (7, .int (0 : Int32)), (6, .int r14), (0, .ref v0), (1, .int v1), (3, .int v3), (4, .int v4), (5, .int v5)]) dX10_gather_107 rfl (Nat.le_of_ble_eq_true rfl) rfl ?_
                  refine J.iload (pc := 108) dX10_gather_108 2 rfl ?_
                  refine J.istore_n (pc := 110) ([(3, .int r14), (2, .int v5), (7, .int (0 : Int32)), (6, .int r14), (0, .ref v0), (1, .int v1), (4, .int v4), (5, .int v5)]) dX10_gather_110 rfl (Nat.le_of_ble_eq_true rfl) rfl ?_
                  refine J.iload (pc := 111) dX10_gather_111 2 rfl ?_
                  refine J.istore (pc := 113) ([(4, .int (0 : Int32)), (3, .int r14), (2, .int v5), (7, .int (0 : Int32)), (6, .int r14), (0, .ref v0), (1, .int v1), (5, .int v5)]) dX10_gather_113 (Nat.le_of_ble_eq_true rfl) rfl ?_
                  refine J.iinc (pc := 115) (j := 7) ([(5, .int (v5 + (1 : Int32))), (4, .int (0 : Int32)), (3, .int r14), (2, .int v5), (7, .int (0 : Int32)), (6, .int r14), (0, .ref v0), (1, .int v1)]) dX10_gather_115 rfl (iincv ic_1) (Nat.le_of_ble_eq_true rfl) rfl ?_
                  refine J.goto (pc := 118) (tgt := 33) dX10_gather_118 (by decide) ?_
                  refine J.pick [6, 7, 3, 2, 1, 0] rfl ?_
                  exact ih v0 v1 v5 r14 (0 : Int32) (v5 + (1 : Int32)) μ13 h hN15 k0
                · refine J.cge (pc := 102) (tgt := 115) dX10_gather_102 (by decide) (fun q => absurd q hc) (fun _ => ?_)
                  refine J.iinc (pc := 115) (j := 7) ([(5, .int (v5 + (1 : Int32))), (7, .int (0 : Int32)), (6, .int r14), (0, .ref v0), (1, .int v1), (2, .int v2), (3, .int v3), (4, .int v4)]) dX10_gather_115 rfl (iincv ic_1) (Nat.le_of_ble_eq_true rfl) rfl ?_
                  refine J.goto (pc := 118) (tgt := 33) dX10_gather_118 (by decide) ?_
                  refine J.pick [3, 4, 5, 6, 7, 0] rfl ?_
                  exact ih v0 v1 v2 v3 v4 (v5 + (1 : Int32)) μ13 h hN15 k0
              · refine J.cne (pc := 95) (tgt := 115) dX10_gather_95 (by decide) (fun q => absurd q hc) (fun _ => ?_)
                refine J.iinc (pc := 115) (j := 7) ([(5, .int (v5 + (1 : Int32))), (7, .int (0 : Int32)), (6, .int r14), (0, .ref v0), (1, .int v1), (2, .int v2), (3, .int v3), (4, .int v4)]) dX10_gather_115 rfl (iincv ic_1) (Nat.le_of_ble_eq_true rfl) rfl ?_
                refine J.goto (pc := 118) (tgt := 33) dX10_gather_118 (by decide) ?_
                refine J.pick [3, 4, 5, 6, 7, 0] rfl ?_
                exact ih v0 v1 v2 v3 v4 (v5 + (1 : Int32)) μ13 h hN15 k0
            · refine J.zle (pc := 89) (tgt := 115) dX10_gather_89 (by decide) (fun q => absurd q hc) (fun _ => ?_)
              refine J.iinc (pc := 115) (j := 7) ([(5, .int (v5 + (1 : Int32))), (7, .int (0 : Int32)), (6, .int r14), (0, .ref v0), (1, .int v1), (2, .int v2), (3, .int v3), (4, .int v4)]) dX10_gather_115 rfl (iincv ic_1) (Nat.le_of_ble_eq_true rfl) rfl ?_
              refine J.goto (pc := 118) (tgt := 33) dX10_gather_118 (by decide) ?_
              refine J.pick [3, 4, 5, 6, 7, 0] rfl ?_
              exact ih v0 v1 v2 v3 v4 (v5 + (1 : Int32)) μ13 h hN15 k0
    · refine J.cge (pc := 37) (tgt := 121) dX10_gather_37 (by decide) (fun q => absurd q hc) (fun _ => ?_)
      refine J.iload_n (pc := 121) dX10_gather_121 rfl 1 rfl ?_
      rcases ifc h with ⟨hc, h⟩ | ⟨hc, h⟩
      · refine J.zne (pc := 122) (tgt := 132) dX10_gather_122 (by decide) (fun _ => ?_) (fun q => absurd hc q)
        refine J.iload_n (pc := 125) dX10_gather_125 rfl 2 rfl ?_
        refine J.callS (Y := mX10_gather) (Z := mX10_outside) (pc := 126) (st := []) (k2 := 0) (n2 := 0) dX10_gather_126 ml_RX10_214 mo_X10_outside ms_X10_outside rfl (tX10_outside (d + 8) v2 μ hN ) rfl rfl (Nat.le_of_ble_eq_true rfl) (by decide) (by decide) (fun v ν hp => ?_) (fun i ν hp => nrm hp.1)
        obtain ⟨rfl, rfl, hN23, hb24⟩ := QEl hp
        show J _ _ _ _ 129 _ ([.int (fX10_outside v2)]) _ _ _ _
        refine J.goto (pc := 129) (tgt := 134) dX10_gather_129 (by decide) ?_
        cases h
        exact J.iret (pc := 134) dX10_gather_134 rfl ⟨rfl, rfl, hN23, trivial⟩
      · refine J.zne (pc := 122) (tgt := 132) dX10_gather_122 (by decide) (fun q => absurd q hc) (fun _ => ?_)
        refine J.iload (pc := 132) dX10_gather_132 4 rfl ?_
        cases h
        exact J.iret (pc := 134) dX10_gather_134 rfl ⟨rfl, rfl, hN, trivial⟩
def fX10_gather (v0 : Nat) (v1 : Int32) (μ : Mem) : Option ((Int32 ⊕ Nat) × Mem) :=
  (fX10_needWhat v0 v1 (2 : Int32)).bind fun
  | .inl _ =>
    (gR μ v0 4 11).bind fun a4 =>
    if (μ.2.1 a4 1) = 0 then
      some (.inl (-1 : Int32), μ)
    else
      (fX10_here v0 μ).bind fun (a9, μ8) =>
      (fX10_gather_33 fuel) v0 v1 (-1 : Int32) (0 : Int32) (0 : Int32) (0 : Int32) μ8
  | .inr i12 =>
    some (.inr i12, μ)
set_option maxHeartbeats 4000000 in
theorem tX10_gather {ω : Wd} {l : Launch} (d : Nat) {v0 : Nat} {v1 : Int32} {μ : Mem} {res : (Int32 ⊕ Nat) × Mem} (h : fX10_gather v0 v1 μ = some res) (hN : μ.1 = NN) (k0 : (kd v0).1 = 20) : Ct ω l mX10_gather (d + 9) [.ref v0, .int v1] μ 1 6 (PE (oI res.1) res.2 True) := by
  refine Ct.of pn_RX10 (Nat.le_of_ble_eq_true rfl) ?_
  show J ω l mX10_gather (d + 9) 0 [(0, .ref v0), (1, .int v1)] [] μ 1 6 _
  unfold fX10_gather at h
  refine J.aload_n (pc := 0) dX10_gather_0 rfl 0 rfl ?_
  refine J.iload_n (pc := 1) dX10_gather_1 rfl 1 rfl ?_
  refine J.iconst (pc := 2) dX10_gather_2 ic_2 ?_
  obtain ⟨q, e1, h⟩ := bnd h
  rcases q with u | i12
  · try dsimp only at h
    refine J.callV (Y := mX10_gather) (Z := mX10_needWhat) (pc := 3) (st := []) (k2 := 0) (n2 := 0) dX10_gather_3 ml_RX10_140 mo_X10_needWhat mv_X10_needWhat rfl (tX10_needWhat d e1 hN k0) k0 (okN hN k0 (by decide)).1 (okN hN k0 (by decide)).2 cq_10 (by decide) rfl rfl (Nat.le_of_ble_eq_true rfl) (by decide) (by decide) (fun v ν hp => ?_) (fun i ν hp => nrm hp.1)
    obtain ⟨rfl, rfl, hN2, hb3⟩ := QEl hp
    show J _ _ _ _ 6 _ ([]) _ _ _ _
    refine J.aload_n (pc := 6) dX10_gather_6 rfl 0 rfl ?_
    obtain ⟨a4, e5, h⟩ := bnd h
    have k6 : (kd a4).1 = 11 := gR_k e5
    refine J.fR (pc := 7) dX10_gather_7 fl_RX10_26 k0 (okN hN2 k0 (by decide)) rfl e5 ?_
    refine J.fI (pc := 10) dX10_gather_10 fl_RX10_147 k6 (okN hN2 k6 (by decide)) (Or.inl rfl) ?_
    rcases ifc h with ⟨hc, h⟩ | ⟨hc, h⟩
    · refine J.zne (pc := 13) (tgt := 18) dX10_gather_13 (by decide) (fun _ => ?_) (fun q => absurd hc q)
      refine J.iconst (pc := 16) dX10_gather_16 ic_m1 ?_
      cases h
      exact J.iret (pc := 17) dX10_gather_17 rfl ⟨rfl, rfl, hN2, trivial⟩
    · refine J.zne (pc := 13) (tgt := 18) dX10_gather_13 (by decide) (fun q => absurd q hc) (fun _ => ?_)
      refine J.aload_n (pc := 18) dX10_gather_18 rfl 0 rfl ?_
      obtain ⟨⟨a9, μ8⟩, e7, h⟩ := bnd h
      try dsimp only at h
      refine J.callV (Y := mX10_gather) (Z := mX10_here) (pc := 19) (st := []) (k2 := 0) (n2 := 0) dX10_gather_19 ml_RX10_153 mo_X10_here mv_X10_here rfl (tX10_here (d + 7) e7 hN2 k0) k0 (okN hN2 k0 (by decide)).1 (okN hN2 k0 (by decide)).2 cq_10 (by decide) rfl rfl (Nat.le_of_ble_eq_true rfl) (by decide) (by decide) (fun v ν hp => ?_) (fun i ν hp => nrm hp.1)
      obtain ⟨rfl, rfl, hN10, hb11⟩ := QEl hp
      show J _ _ _ _ 22 _ ([.ref a9]) _ _ _ _
      refine J.pop (pc := 22) dX10_gather_22 rfl ?_
      refine J.iconst (pc := 23) dX10_gather_23 ic_m1 ?_
      refine J.istore_n (pc := 24) ([(2, .int (-1 : Int32)), (0, .ref v0), (1, .int v1)]) dX10_gather_24 rfl (Nat.le_of_ble_eq_true rfl) rfl ?_
      refine J.iconst (pc := 25) dX10_gather_25 ic_0 ?_
      refine J.istore_n (pc := 26) ([(3, .int (0 : Int32)), (2, .int (-1 : Int32)), (0, .ref v0), (1, .int v1)]) dX10_gather_26 rfl (Nat.le_of_ble_eq_true rfl) rfl ?_
      refine J.iconst (pc := 27) dX10_gather_27 ic_0 ?_
      refine J.istore (pc := 28) ([(4, .int (0 : Int32)), (3, .int (0 : Int32)), (2, .int (-1 : Int32)), (0, .ref v0), (1, .int v1)]) dX10_gather_28 (Nat.le_of_ble_eq_true rfl) rfl ?_
      refine J.iconst (pc := 30) dX10_gather_30 ic_0 ?_
      refine J.istore (pc := 31) ([(5, .int (0 : Int32)), (4, .int (0 : Int32)), (3, .int (0 : Int32)), (2, .int (-1 : Int32)), (0, .ref v0), (1, .int v1)]) dX10_gather_31 (Nat.le_of_ble_eq_true rfl) rfl ?_
      refine J.pick [4, 5, 3, 2, 1, 0] rfl ?_
      exact (tX10_gather_33 d fuel) v0 v1 (-1 : Int32) (0 : Int32) (0 : Int32) (0 : Int32) μ8 h hN10 k0
  · try dsimp only at h
    refine J.callV (Y := mX10_gather) (Z := mX10_needWhat) (pc := 3) (st := []) (k2 := 0) (n2 := 0) dX10_gather_3 ml_RX10_140 mo_X10_needWhat mv_X10_needWhat rfl (tX10_needWhat d e1 hN k0) k0 (okN hN k0 (by decide)).1 (okN hN k0 (by decide)).2 cq_10 (by decide) rfl rfl (Nat.le_of_ble_eq_true rfl) (by decide) (by decide) (fun v ν hp => nlm hp.1) (fun i ν hp => ?_)
    obtain ⟨rfl, rfl, hN9, -⟩ := QEr hp
    cases h
    exact JX.out rfl ⟨rfl, rfl, hN9, trivial⟩
def fL_gather (v0 : Nat) (v1 : Int32) (v2 : Nat) (μ : Mem) : Option (Int32 × Mem) :=
  (fX10_gather v0 v1 μ).bind fun
  | (.inl r3, μ2) =>
    (stL μ2 v2 (0 : Int32) (r3.toInt64)).bind fun μ6 =>
    some ((0 : Int32), μ6)
  | (.inr i9, μ2) =>
    if i9 = 0 then some ((1 : Int32), μ2) else
    none
set_option maxHeartbeats 4000000 in
theorem tL_gather {ω : Wd} {l : Launch} (d : Nat) {v0 : Nat} {v1 : Int32} {v2 : Nat} {μ : Mem} {res : Int32 × Mem} (h : fL_gather v0 v1 v2 μ = some res) (hN : μ.1 = NN) (k0 : (kd v0).1 = 20) (k2 : (kd v2).1 = 1) : Ct ω l mL_gather (d + 10) [.ref v0, .int v1, .ref v2] μ 1 6 (PE (.inl (some (.int res.1))) res.2 True) := by
  refine Ct.of pn_RL (Nat.le_of_ble_eq_true rfl) ?_
  show J ω l mL_gather (d + 10) 0 [(0, .ref v0), (1, .int v1), (2, .ref v2)] [] μ 1 6 _
  unfold fL_gather at h
  refine J.aload_n (pc := 0) dL_gather_0 rfl 2 rfl ?_
  refine J.iconst (pc := 1) dL_gather_1 ic_0 ?_
  refine J.aload_n (pc := 2) dL_gather_2 rfl 0 rfl ?_
  refine J.iload_n (pc := 3) dL_gather_3 rfl 1 rfl ?_
  obtain ⟨⟨q, μ2⟩, e1, h⟩ := bnd h
  rcases q with r3 | i9
  · try dsimp only at h
    refine J.callV (Y := mL_gather) (Z := mX10_gather) (pc := 4) (st := [.int (0 : Int32), .ref v2]) (k2 := 0) (n2 := 0) dL_gather_4 ml_RL_68 mo_X10_gather mv_X10_gather rfl (tX10_gather d e1 hN k0) k0 (okN hN k0 (by decide)).1 (okN hN k0 (by decide)).2 cq_10 (by decide) rfl rfl (Nat.le_of_ble_eq_true rfl) (by decide) (by decide) (fun v ν hp => ?_) (fun i ν hp => nrm hp.1)
    obtain ⟨rfl, rfl, hN4, hb5⟩ := QEl hp
    show J _ _ _ _ 7 _ ([.int r3, .int (0 : Int32), .ref v2]) _ _ _ _
    refine J.i2l (pc := 7) dL_gather_7 ?_
    obtain ⟨μ6, e7, h⟩ := bnd h
    have hN8 : μ6.1 = NN := stL_N e7 hN4
    refine J.wL (pc := 8) dL_gather_8 k2 (okN hN4 k2 (by decide)) e7 ?_
    refine J.goto (pc := 9) (tgt := 15) dL_gather_9 (by decide) ?_
    refine J.iconst (pc := 15) dL_gather_15 ic_0 ?_
    cases h
    exact J.iret (pc := 16) dL_gather_16 rfl ⟨rfl, rfl, hN8, trivial⟩
  · try dsimp only at h
    refine J.callV (Y := mL_gather) (Z := mX10_gather) (pc := 4) (st := [.int (0 : Int32), .ref v2]) (k2 := 0) (n2 := 0) dL_gather_4 ml_RL_68 mo_X10_gather mv_X10_gather rfl (tX10_gather d e1 hN k0) k0 (okN hN k0 (by decide)).1 (okN hN k0 (by decide)).2 cq_10 (by decide) rfl rfl (Nat.le_of_ble_eq_true rfl) (by decide) (by decide) (fun v ν hp => nlm hp.1) (fun i ν hp => ?_)
    obtain ⟨rfl, rfl, hN9, -⟩ := QEr hp
    rcases ifc h with ⟨hc, h⟩ | ⟨hc, h⟩
    · subst hc
      cases h
      exact JX.catch1 (i := 0) (by decide) rfl rfl (Nat.le_of_ble_eq_true rfl) (Nat.le_of_ble_eq_true rfl) (Or.inr ⟨3, Nat.le_of_ble_eq_true rfl, rfl, dL_gather_12⟩) dL_gather_13 ic_1 dL_gather_14 rfl ⟨rfl, rfl, hN9, trivial⟩
    cases h
def fX10_gone (v0 : Nat) (v1 : Int32) (v2 : Int32) (μ : Mem) : Option ((Int32 ⊕ Nat) × Mem) :=
  (fX10_needPerson v0 v1 μ).bind fun
  | .inl _ =>
    (fX10_needWithin v0 v2 (0 : Int32) (60 : Int32)).bind fun
    | .inl _ =>
      (fX10_runAhead v0 v2 μ).bind fun μ8 =>
      (gR μ8 v0 14 12).bind fun a11 =>
      (gR μ8 a11 3 0).bind fun a14 =>
      (ldI μ8 a14 v1).bind fun x17 =>
      some (.inl x17, μ8)
    | .inr i19 =>
      some (.inr i19, μ)
  | .inr i20 =>
    some (.inr i20, μ)
set_option maxHeartbeats 4000000 in
theorem tX10_gone {ω : Wd} {l : Launch} (d : Nat) {v0 : Nat} {v1 : Int32} {v2 : Int32} {μ : Mem} {res : (Int32 ⊕ Nat) × Mem} (h : fX10_gone v0 v1 v2 μ = some res) (hN : μ.1 = NN) (k0 : (kd v0).1 = 20) : Ct ω l mX10_gone (d + 9) [.ref v0, .int v1, .int v2] μ 2 12 (PE (oI res.1) res.2 True) := by
  refine Ct.of pn_RX10 (Nat.le_of_ble_eq_true rfl) ?_
  show J ω l mX10_gone (d + 9) 0 [(0, .ref v0), (1, .int v1), (2, .int v2)] [] μ 2 12 _
  unfold fX10_gone at h
  refine J.aload_n (pc := 0) dX10_gone_0 rfl 0 rfl ?_
  refine J.iload_n (pc := 1) dX10_gone_1 rfl 1 rfl ?_
  obtain ⟨q, e1, h⟩ := bnd h
  rcases q with u | i20
  · try dsimp only at h
    refine J.callV (Y := mX10_gone) (Z := mX10_needPerson) (pc := 2) (st := []) (k2 := 1) (n2 := 6) dX10_gone_2 ml_RX10_211 mo_X10_needPerson mv_X10_needPerson rfl (tX10_needPerson d e1 hN k0) k0 (okN hN k0 (by decide)).1 (okN hN k0 (by decide)).2 cq_10 (by decide) rfl rfl (Nat.le_of_ble_eq_true rfl) (by decide) (by decide) (fun v ν hp => ?_) (fun i ν hp => nrm hp.1)
    obtain ⟨rfl, rfl, hN2, hb3⟩ := QEl hp
    show J _ _ _ _ 5 _ ([]) _ _ _ _
    refine J.aload_n (pc := 5) dX10_gone_5 rfl 0 rfl ?_
    refine J.iload_n (pc := 6) dX10_gone_6 rfl 2 rfl ?_
    refine J.iconst (pc := 7) dX10_gone_7 ic_0 ?_
    refine J.bipush (pc := 8) dX10_gone_8 ib_60 ?_
    obtain ⟨q, e4, h⟩ := bnd h
    rcases q with u | i19
    · try dsimp only at h
      refine J.callV (Y := mX10_gone) (Z := mX10_needWithin) (pc := 10) (st := []) (k2 := 0) (n2 := 0) dX10_gone_10 ml_RX10_260 mo_X10_needWithin mv_X10_needWithin rfl (tX10_needWithin d e4 hN2 k0) k0 (okN hN2 k0 (by decide)).1 (okN hN2 k0 (by decide)).2 cq_10 (by decide) rfl rfl (Nat.le_of_ble_eq_true rfl) (by decide) (by decide) (fun v ν hp => ?_) (fun i ν hp => nrm hp.1)
      obtain ⟨rfl, rfl, hN5, hb6⟩ := QEl hp
      show J _ _ _ _ 13 _ ([]) _ _ _ _
      refine J.aload_n (pc := 13) dX10_gone_13 rfl 0 rfl ?_
      refine J.iload_n (pc := 14) dX10_gone_14 rfl 2 rfl ?_
      obtain ⟨μ8, e7, h⟩ := bnd h
      refine J.callV (Y := mX10_gone) (Z := mX10_runAhead) (pc := 15) (st := []) (k2 := 0) (n2 := 0) dX10_gone_15 ml_RX10_239 mo_X10_runAhead mv_X10_runAhead rfl (tX10_runAhead (d + 3) e7 hN5 k0) k0 (okN hN5 k0 (by decide)).1 (okN hN5 k0 (by decide)).2 cq_10 (by decide) rfl rfl (Nat.le_of_ble_eq_true rfl) (by decide) (by decide) (fun v ν hp => ?_) (fun i ν hp => nrm hp.1)
      obtain ⟨rfl, rfl, hN9, hb10⟩ := QEl hp
      show J _ _ _ _ 18 _ ([]) _ _ _ _
      refine J.aload_n (pc := 18) dX10_gone_18 rfl 0 rfl ?_
      obtain ⟨a11, e12, h⟩ := bnd h
      have k13 : (kd a11).1 = 12 := gR_k e12
      refine J.fR (pc := 19) dX10_gone_19 fl_RX10_79 k0 (okN hN9 k0 (by decide)) rfl e12 ?_
      obtain ⟨a14, e15, h⟩ := bnd h
      have k16 : (kd a14).1 = 0 := gR_k e15
      refine J.fR (pc := 22) dX10_gone_22 fl_RX10_287 k13 (okN hN9 k13 (by decide)) rfl e15 ?_
      refine J.iload_n (pc := 25) dX10_gone_25 rfl 1 rfl ?_
      obtain ⟨x17, e18, h⟩ := bnd h
      refine J.aI (pc := 26) dX10_gone_26 k16 (okN hN9 k16 (by decide)) e18 ?_
      cases h
      exact J.iret (pc := 27) dX10_gone_27 rfl ⟨rfl, rfl, hN9, trivial⟩
    · try dsimp only at h
      refine J.callV (Y := mX10_gone) (Z := mX10_needWithin) (pc := 10) (st := []) (k2 := 0) (n2 := 0) dX10_gone_10 ml_RX10_260 mo_X10_needWithin mv_X10_needWithin rfl (tX10_needWithin d e4 hN2 k0) k0 (okN hN2 k0 (by decide)).1 (okN hN2 k0 (by decide)).2 cq_10 (by decide) rfl rfl (Nat.le_of_ble_eq_true rfl) (by decide) (by decide) (fun v ν hp => nlm hp.1) (fun i ν hp => ?_)
      obtain ⟨rfl, rfl, hN9, -⟩ := QEr hp
      cases h
      exact JX.out rfl ⟨rfl, rfl, hN9, trivial⟩
  · try dsimp only at h
    refine J.callV (Y := mX10_gone) (Z := mX10_needPerson) (pc := 2) (st := []) (k2 := 1) (n2 := 6) dX10_gone_2 ml_RX10_211 mo_X10_needPerson mv_X10_needPerson rfl (tX10_needPerson d e1 hN k0) k0 (okN hN k0 (by decide)).1 (okN hN k0 (by decide)).2 cq_10 (by decide) rfl rfl (Nat.le_of_ble_eq_true rfl) (by decide) (by decide) (fun v ν hp => nlm hp.1) (fun i ν hp => ?_)
    obtain ⟨rfl, rfl, hN9, -⟩ := QEr hp
    cases h
    exact JX.out rfl ⟨rfl, rfl, hN9, trivial⟩
def fL_gone (v0 : Nat) (v1 : Int32) (v2 : Int32) (v3 : Nat) (μ : Mem) : Option (Int32 × Mem) :=
  (fX10_gone v0 v1 v2 μ).bind fun
  | (.inl r3, μ2) =>
    (stL μ2 v3 (0 : Int32) (r3.toInt64)).bind fun μ6 =>
    some ((0 : Int32), μ6)
  | (.inr i9, μ2) =>
    if i9 = 0 then some ((1 : Int32), μ2) else
    if i9 = 1 then some ((2 : Int32), μ2) else
    none
set_option maxHeartbeats 4000000 in
theorem tL_gone {ω : Wd} {l : Launch} (d : Nat) {v0 : Nat} {v1 : Int32} {v2 : Int32} {v3 : Nat} {μ : Mem} {res : Int32 × Mem} (h : fL_gone v0 v1 v2 v3 μ = some res) (hN : μ.1 = NN) (k0 : (kd v0).1 = 20) (k3 : (kd v3).1 = 1) : Ct ω l mL_gone (d + 10) [.ref v0, .int v1, .int v2, .ref v3] μ 2 12 (PE (.inl (some (.int res.1))) res.2 True) := by
  refine Ct.of pn_RL (Nat.le_of_ble_eq_true rfl) ?_
  show J ω l mL_gone (d + 10) 0 [(0, .ref v0), (1, .int v1), (2, .int v2), (3, .ref v3)] [] μ 2 12 _
  unfold fL_gone at h
  refine J.aload_n (pc := 0) dL_gone_0 rfl 3 rfl ?_
  refine J.iconst (pc := 1) dL_gone_1 ic_0 ?_
  refine J.aload_n (pc := 2) dL_gone_2 rfl 0 rfl ?_
  refine J.iload_n (pc := 3) dL_gone_3 rfl 1 rfl ?_
  refine J.iload_n (pc := 4) dL_gone_4 rfl 2 rfl ?_
  obtain ⟨⟨q, μ2⟩, e1, h⟩ := bnd h
  rcases q with r3 | i9
  · try dsimp only at h
    refine J.callV (Y := mL_gone) (Z := mX10_gone) (pc := 5) (st := [.int (0 : Int32), .ref v3]) (k2 := 0) (n2 := 0) dL_gone_5 ml_RL_104 mo_X10_gone mv_X10_gone rfl (tX10_gone d e1 hN k0) k0 (okN hN k0 (by decide)).1 (okN hN k0 (by decide)).2 cq_10 (by decide) rfl rfl (Nat.le_of_ble_eq_true rfl) (by decide) (by decide) (fun v ν hp => ?_) (fun i ν hp => nrm hp.1)
    obtain ⟨rfl, rfl, hN4, hb5⟩ := QEl hp
    show J _ _ _ _ 8 _ ([.int r3, .int (0 : Int32), .ref v3]) _ _ _ _
    refine J.i2l (pc := 8) dL_gone_8 ?_
    obtain ⟨μ6, e7, h⟩ := bnd h
    have hN8 : μ6.1 = NN := stL_N e7 hN4
    refine J.wL (pc := 9) dL_gone_9 k3 (okN hN4 k3 (by decide)) e7 ?_
    refine J.goto (pc := 10) (tgt := 21) dL_gone_10 (by decide) ?_
    refine J.iconst (pc := 21) dL_gone_21 ic_0 ?_
    cases h
    exact J.iret (pc := 22) dL_gone_22 rfl ⟨rfl, rfl, hN8, trivial⟩
  · try dsimp only at h
    refine J.callV (Y := mL_gone) (Z := mX10_gone) (pc := 5) (st := [.int (0 : Int32), .ref v3]) (k2 := 0) (n2 := 0) dL_gone_5 ml_RL_104 mo_X10_gone mv_X10_gone rfl (tX10_gone d e1 hN k0) k0 (okN hN k0 (by decide)).1 (okN hN k0 (by decide)).2 cq_10 (by decide) rfl rfl (Nat.le_of_ble_eq_true rfl) (by decide) (by decide) (fun v ν hp => nlm hp.1) (fun i ν hp => ?_)
    obtain ⟨rfl, rfl, hN9, -⟩ := QEr hp
    rcases ifc h with ⟨hc, h⟩ | ⟨hc, h⟩
    · subst hc
      cases h
      exact JX.catch1 (i := 0) (by decide) rfl rfl (Nat.le_of_ble_eq_true rfl) (Nat.le_of_ble_eq_true rfl) (Or.inl ⟨4, Nat.le_of_ble_eq_true rfl, rfl, dL_gone_13⟩) dL_gone_15 ic_1 dL_gone_16 rfl ⟨rfl, rfl, hN9, trivial⟩
    rcases ifc h with ⟨hc, h⟩ | ⟨hc, h⟩
    · subst hc
      cases h
      exact JX.catch2 rfl rfl (Nat.le_of_ble_eq_true rfl) (Nat.le_of_ble_eq_true rfl) (Or.inl ⟨4, Nat.le_of_ble_eq_true rfl, rfl, dL_gone_17⟩) dL_gone_19 ic_2 dL_gone_20 rfl ⟨rfl, rfl, hN9, trivial⟩
    cases h
def fX10_ink (v0 : Nat) (v1 : Int32) (μ : Mem) : Option ((Int32 ⊕ Nat)) :=
  (gR μ v0 7 19).bind fun a1 =>
  (gR μ a1 3 0).bind fun a4 =>
  (fX10_inside v0 v1 μ).bind fun
  | .inl r8 =>
    (ldI μ a4 r8).bind fun x11 =>
    some (.inl x11)
  | .inr i13 =>
    some (.inr i13)
set_option maxHeartbeats 4000000 in
theorem tX10_ink {ω : Wd} {l : Launch} (d : Nat) {v0 : Nat} {v1 : Int32} {μ : Mem} {res : (Int32 ⊕ Nat)} (h : fX10_ink v0 v1 μ = some res) (hN : μ.1 = NN) (k0 : (kd v0).1 = 20) : Ct ω l mX10_ink (d + 9) [.ref v0, .int v1] μ 1 6 (PE (oI res) μ True) := by
  refine Ct.of pn_RX10 (Nat.le_of_ble_eq_true rfl) ?_
  show J ω l mX10_ink (d + 9) 0 [(0, .ref v0), (1, .int v1)] [] μ 1 6 _
  unfold fX10_ink at h
  refine J.aload_n (pc := 0) dX10_ink_0 rfl 0 rfl ?_
  obtain ⟨a1, e2, h⟩ := bnd h
  have k3 : (kd a1).1 = 19 := gR_k e2
  refine J.fR (pc := 1) dX10_ink_1 fl_RX10_45 k0 (okN hN k0 (by decide)) rfl e2 ?_
  obtain ⟨a4, e5, h⟩ := bnd h
  have k6 : (kd a4).1 = 0 := gR_k e5
  refine J.fR (pc := 4) dX10_ink_4 fl_RX10_205 k3 (okN hN k3 (by decide)) rfl e5 ?_
  refine J.aload_n (pc := 7) dX10_ink_7 rfl 0 rfl ?_
  refine J.iload_n (pc := 8) dX10_ink_8 rfl 1 rfl ?_
  obtain ⟨q, e7, h⟩ := bnd h
  rcases q with r8 | i13
  · try dsimp only at h
    refine J.callV (Y := mX10_ink) (Z := mX10_inside) (pc := 9) (st := [.ref a4]) (k2 := 0) (n2 := 0) dX10_ink_9 ml_RX10_233 mo_X10_inside mv_X10_inside rfl (tX10_inside d e7 hN k0) k0 (okN hN k0 (by decide)).1 (okN hN k0 (by decide)).2 cq_10 (by decide) rfl rfl (Nat.le_of_ble_eq_true rfl) (by decide) (by decide) (fun v ν hp => ?_) (fun i ν hp => nrm hp.1)
    obtain ⟨rfl, rfl, hN9, hb10⟩ := QEl hp
    show J _ _ _ _ 12 _ ([.int r8, .ref a4]) _ _ _ _
    obtain ⟨x11, e12, h⟩ := bnd h
    refine J.aI (pc := 12) dX10_ink_12 k6 (okN hN9 k6 (by decide)) e12 ?_
    cases h
    exact J.iret (pc := 13) dX10_ink_13 rfl ⟨rfl, rfl, hN9, trivial⟩
  · try dsimp only at h
    refine J.callV (Y := mX10_ink) (Z := mX10_inside) (pc := 9) (st := [.ref a4]) (k2 := 0) (n2 := 0) dX10_ink_9 ml_RX10_233 mo_X10_inside mv_X10_inside rfl (tX10_inside d e7 hN k0) k0 (okN hN k0 (by decide)).1 (okN hN k0 (by decide)).2 cq_10 (by decide) rfl rfl (Nat.le_of_ble_eq_true rfl) (by decide) (by decide) (fun v ν hp => nlm hp.1) (fun i ν hp => ?_)
    obtain ⟨rfl, rfl, hN9, -⟩ := QEr hp
    cases h
    exact JX.out rfl ⟨rfl, rfl, hN9, trivial⟩
def fL_ink (v0 : Nat) (v1 : Int32) (v2 : Nat) (μ : Mem) : Option (Int32 × Mem) :=
  (fX10_ink v0 v1 μ).bind fun
  | .inl r2 =>
    (stL μ v2 (0 : Int32) (r2.toInt64)).bind fun μ5 =>
    some ((0 : Int32), μ5)
  | .inr i8 =>
    if i8 = 0 then some ((1 : Int32), μ) else
    none
set_option maxHeartbeats 4000000 in
theorem tL_ink {ω : Wd} {l : Launch} (d : Nat) {v0 : Nat} {v1 : Int32} {v2 : Nat} {μ : Mem} {res : Int32 × Mem} (h : fL_ink v0 v1 v2 μ = some res) (hN : μ.1 = NN) (k0 : (kd v0).1 = 20) (k2 : (kd v2).1 = 1) : Ct ω l mL_ink (d + 10) [.ref v0, .int v1, .ref v2] μ 1 6 (PE (.inl (some (.int res.1))) res.2 True) := by
  refine Ct.of pn_RL (Nat.le_of_ble_eq_true rfl) ?_
  show J ω l mL_ink (d + 10) 0 [(0, .ref v0), (1, .int v1), (2, .ref v2)] [] μ 1 6 _
  unfold fL_ink at h
  refine J.aload_n (pc := 0) dL_ink_0 rfl 2 rfl ?_
  refine J.iconst (pc := 1) dL_ink_1 ic_0 ?_
  refine J.aload_n (pc := 2) dL_ink_2 rfl 0 rfl ?_
  refine J.iload_n (pc := 3) dL_ink_3 rfl 1 rfl ?_
  obtain ⟨q, e1, h⟩ := bnd h
  rcases q with r2 | i8
  · try dsimp only at h
    refine J.callV (Y := mL_ink) (Z := mX10_ink) (pc := 4) (st := [.int (0 : Int32), .ref v2]) (k2 := 0) (n2 := 0) dL_ink_4 ml_RL_27 mo_X10_ink mv_X10_ink rfl (tX10_ink d e1 hN k0) k0 (okN hN k0 (by decide)).1 (okN hN k0 (by decide)).2 cq_10 (by decide) rfl rfl (Nat.le_of_ble_eq_true rfl) (by decide) (by decide) (fun v ν hp => ?_) (fun i ν hp => nrm hp.1)
    obtain ⟨rfl, rfl, hN3, hb4⟩ := QEl hp
    show J _ _ _ _ 7 _ ([.int r2, .int (0 : Int32), .ref v2]) _ _ _ _
    refine J.i2l (pc := 7) dL_ink_7 ?_
    obtain ⟨μ5, e6, h⟩ := bnd h
    have hN7 : μ5.1 = NN := stL_N e6 hN3
    refine J.wL (pc := 8) dL_ink_8 k2 (okN hN3 k2 (by decide)) e6 ?_
    refine J.goto (pc := 9) (tgt := 15) dL_ink_9 (by decide) ?_
    refine J.iconst (pc := 15) dL_ink_15 ic_0 ?_
    cases h
    exact J.iret (pc := 16) dL_ink_16 rfl ⟨rfl, rfl, hN7, trivial⟩
  · try dsimp only at h
    refine J.callV (Y := mL_ink) (Z := mX10_ink) (pc := 4) (st := [.int (0 : Int32), .ref v2]) (k2 := 0) (n2 := 0) dL_ink_4 ml_RL_27 mo_X10_ink mv_X10_ink rfl (tX10_ink d e1 hN k0) k0 (okN hN k0 (by decide)).1 (okN hN k0 (by decide)).2 cq_10 (by decide) rfl rfl (Nat.le_of_ble_eq_true rfl) (by decide) (by decide) (fun v ν hp => nlm hp.1) (fun i ν hp => ?_)
    obtain ⟨rfl, rfl, hN9, -⟩ := QEr hp
    rcases ifc h with ⟨hc, h⟩ | ⟨hc, h⟩
    · subst hc
      cases h
      exact JX.catch1 (i := 0) (by decide) rfl rfl (Nat.le_of_ble_eq_true rfl) (Nat.le_of_ble_eq_true rfl) (Or.inr ⟨3, Nat.le_of_ble_eq_true rfl, rfl, dL_ink_12⟩) dL_ink_13 ic_1 dL_ink_14 rfl ⟨rfl, rfl, hN9, trivial⟩
    cases h
