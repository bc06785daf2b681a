def fL_stile (v0 : Nat) (v1 : Int32) (v2 : Int32) (v3 : Nat) (μ : Mem) : Option (Int32 × Mem) :=
  (fX10_stile v0 v1 v2 μ).bind fun
  | (.inl r3, μ2) =>
    if r3 = 0 then
      (stL μ2 v3 (0 : Int32) (0 : Int64)).bind fun μ6 =>
      some ((0 : Int32), μ6)
    else
      (stL μ2 v3 (0 : Int32) (1 : Int64)).bind fun μ9 =>
      some ((0 : Int32), μ9)
  | (.inr i12, μ2) =>
    if i12 = 0 then some ((1 : Int32), μ2) else
    none
set_option maxHeartbeats 4000000 in
theorem tL_stile {ω : Wd} {l : Launch} (d : Nat) {v0 : Nat} {v1 : Int32} {v2 : Int32} {v3 : Nat} {μ : Mem} {res : Int32 × Mem} (h : fL_stile v0 v1 v2 v3 μ = some res) (hN : μ.1 = NN) (k0 : (kd v0).1 = 20) (k3 : (kd v3).1 = 1) : Ct ω l mL_stile (d + 10) [.ref v0, .int v1, .int v2, .ref v3] μ 1 6 (PE (.inl (some (.int res.1))) res.2 True) := by
  refine Ct.of pn_RL (Nat.le_of_ble_eq_true rfl) ?_
  show J ω l mL_stile (d + 10) 0 [(0, .ref v0), (1, .int v1), (2, .int v2), (3, .ref v3)] [] μ 1 6 _
  unfold fL_stile at h
  refine J.aload_n (pc := 0) dL_stile_0 rfl 3 rfl ?_
  refine J.iconst (pc := 1) dL_stile_1 ic_0 ?_
  refine J.aload_n (pc := 2) dL_stile_2 rfl 0 rfl ?_
  refine J.iload_n (pc := 3) dL_stile_3 rfl 1 rfl ?_
  refine J.iload_n (pc := 4) dL_stile_4 rfl 2 rfl ?_
  obtain ⟨⟨q, μ2⟩, e1, h⟩ := bnd h
  rcases q with r3 | i12
  · try dsimp only at h
    refine J.callV (Y := mL_stile) (Z := mX10_stile) (pc := 5) (st := [.int (0 : Int32), .ref v3]) (k2 := 0) (n2 := 0) dL_stile_5 ml_RL_33 mo_X10_stile mv_X10_stile rfl (tX10_stile d e1 hN k0) k0 (okN hN k0 (by decide)).1 (okN hN k0 (by decide)).2 cq_10 (by decide) rfl rfl (Nat.le_of_ble_eq_true rfl) (by decide) (by decide) (fun v ν hp => ?_) (fun i ν hp => nrm hp.1)
    obtain ⟨rfl, rfl, hN4, hb5⟩ := QEl hp
    show J _ _ _ _ 8 _ ([.int r3, .int (0 : Int32), .ref v3]) _ _ _ _
    rcases ifc h with ⟨hc, h⟩ | ⟨hc, h⟩
    · refine J.zeq (pc := 8) (tgt := 15) dL_stile_8 (by decide) (fun _ => ?_) (fun q => absurd hc q)
      refine J.lconst (pc := 15) dL_stile_15 lc_0 ?_
      obtain ⟨μ6, e7, h⟩ := bnd h
      have hN8 : μ6.1 = NN := stL_N e7 hN4
      refine J.wL (pc := 16) dL_stile_16 k3 (okN hN4 k3 (by decide)) e7 ?_
      refine J.goto (pc := 17) (tgt := 24) dL_stile_17 (by decide) ?_
      refine J.iconst (pc := 24) dL_stile_24 ic_0 ?_
      cases h
      exact J.iret (pc := 25) dL_stile_25 rfl ⟨rfl, rfl, hN8, trivial⟩
    · refine J.zeq (pc := 8) (tgt := 15) dL_stile_8 (by decide) (fun q => absurd q hc) (fun _ => ?_)
      refine J.lconst (pc := 11) dL_stile_11 lc_1 ?_
      refine J.goto (pc := 12) (tgt := 16) dL_stile_12 (by decide) ?_
      obtain ⟨μ9, e10, h⟩ := bnd h
      have hN11 : μ9.1 = NN := stL_N e10 hN4
      refine J.wL (pc := 16) dL_stile_16 k3 (okN hN4 k3 (by decide)) e10 ?_
      refine J.goto (pc := 17) (tgt := 24) dL_stile_17 (by decide) ?_
      refine J.iconst (pc := 24) dL_stile_24 ic_0 ?_
      cases h
      exact J.iret (pc := 25) dL_stile_25 rfl ⟨rfl, rfl, hN11, trivial⟩
  · try dsimp only at h
    refine J.callV (Y := mL_stile) (Z := mX10_stile) (pc := 5) (st := [.int (0 : Int32), .ref v3]) (k2 := 0) (n2 := 0) dL_stile_5 ml_RL_33 mo_X10_stile mv_X10_stile rfl (tX10_stile d e1 hN k0) k0 (okN hN k0 (by decide)).1 (okN hN k0 (by decide)).2 cq_10 (by decide) rfl rfl (Nat.le_of_ble_eq_true rfl) (by decide) (by decide) (fun v ν hp => nlm hp.1) (fun i ν hp => ?_)
    obtain ⟨rfl, rfl, hN9, -⟩ := QEr hp
    rcases ifc h with ⟨hc, h⟩ | ⟨hc, h⟩
    · subst hc
      cases h
      exact JX.catch1 (i := 0) (by decide) rfl rfl (Nat.le_of_ble_eq_true rfl) (Nat.le_of_ble_eq_true rfl) (Or.inl ⟨4, Nat.le_of_ble_eq_true rfl, rfl, dL_stile_20⟩) dL_stile_22 ic_1 dL_stile_23 rfl ⟨rfl, rfl, hN9, trivial⟩
    cases h
def fX10_then (v0 : Nat) (v1 : Int32) (v2 : Int32) (v3 : Int32) (μ : Mem) : Option ((Int32 ⊕ Nat) × Mem) :=
  (fX10_needPerson v0 v1 μ).bind fun
  | .inl _ =>
    (fX10_needWhat v0 v3 (4 : Int32)).bind fun
    | .inl _ =>
      (fX10_needWithin v0 v2 (0 : Int32) (60 : Int32)).bind fun
      | .inl _ =>
        (fX10_runAhead v0 v2 μ).bind fun μ11 =>
        (gR μ11 v0 14 12).bind fun a14 =>
        (gR μ11 a14 0 19).bind fun a17 =>
        (gR μ11 a17 4 0).bind fun a20 =>
        (ldI μ11 a20 v1).bind fun x23 =>
        if v3 = (0 : Int32) then
          some (.inl (x23 / (8 : Int32)), μ11)
        else
        if v3 = (1 : Int32) then
          some (.inl (x23 - x23 / (8 : Int32) * (8 : Int32)), μ11)
        else
        if v3 = (2 : Int32) then
          (gR μ11 v0 14 12).bind fun a25 =>
          (gR μ11 a25 0 19).bind fun a28 =>
          (gR μ11 a28 6 0).bind fun a31 =>
          (ldI μ11 a31 v1).bind fun x34 =>
          some (.inl x34, μ11)
        else
        (gR μ11 v0 14 12).bind fun a36 =>
        (gR μ11 a36 0 19).bind fun a39 =>
        (gR μ11 a39 5 0).bind fun a42 =>
        (ldI μ11 a42 v1).bind fun x45 =>
        if x45 = (-1 : Int32) then
          some (.inl (0 : Int32), μ11)
        else
          some (.inl (1 : Int32), μ11)
      | .inr i47 =>
        some (.inr i47, μ)
    | .inr i48 =>
      some (.inr i48, μ)
  | .inr i49 =>
    some (.inr i49, μ)
set_option maxHeartbeats 4000000 in
theorem tX10_then {ω : Wd} {l : Launch} (d : Nat) {v0 : Nat} {v1 : Int32} {v2 : Int32} {v3 : Int32} {μ : Mem} {res : (Int32 ⊕ Nat) × Mem} (h : fX10_then v0 v1 v2 v3 μ = some res) (hN : μ.1 = NN) (k0 : (kd v0).1 = 20) : Ct ω l mX10_then (d + 9) [.ref v0, .int v1, .int v2, .int v3] μ 3 18 (PE (oI res.1) res.2 True) := by
  refine Ct.of pn_RX10 (Nat.le_of_ble_eq_true rfl) ?_
  show J ω l mX10_then (d + 9) 0 [(0, .ref v0), (1, .int v1), (2, .int v2), (3, .int v3)] [] μ 3 18 _
  unfold fX10_then at h
  refine J.aload_n (pc := 0) dX10_then_0 rfl 0 rfl ?_
  refine J.iload_n (pc := 1) dX10_then_1 rfl 1 rfl ?_
  obtain ⟨q, e1, h⟩ := bnd h
  rcases q with u | i49
  · try dsimp only at h
    refine J.callV (Y := mX10_then) (Z := mX10_needPerson) (pc := 2) (st := []) (k2 := 2) (n2 := 12) dX10_then_2 ml_RX10_211 mo_X10_needPerson mv_X10_needPerson rfl (tX10_needPerson d e1 hN k0) k0 (okN hN k0 (by decide)).1 (okN hN k0 (by decide)).2 cq_10 (by decide) rfl rfl (Nat.le_of_ble_eq_true rfl) (by decide) (by decide) (fun v ν hp => ?_) (fun i ν hp => nrm hp.1)
    obtain ⟨rfl, rfl, hN2, hb3⟩ := QEl hp
    show J _ _ _ _ 5 _ ([]) _ _ _ _
    refine J.aload_n (pc := 5) dX10_then_5 rfl 0 rfl ?_
    refine J.iload_n (pc := 6) dX10_then_6 rfl 3 rfl ?_
    refine J.iconst (pc := 7) dX10_then_7 ic_4 ?_
    obtain ⟨q, e4, h⟩ := bnd h
    rcases q with u | i48
    · try dsimp only at h
      refine J.callV (Y := mX10_then) (Z := mX10_needWhat) (pc := 8) (st := []) (k2 := 1) (n2 := 6) dX10_then_8 ml_RX10_140 mo_X10_needWhat mv_X10_needWhat rfl (tX10_needWhat d e4 hN2 k0) k0 (okN hN2 k0 (by decide)).1 (okN hN2 k0 (by decide)).2 cq_10 (by decide) rfl rfl (Nat.le_of_ble_eq_true rfl) (by decide) (by decide) (fun v ν hp => ?_) (fun i ν hp => nrm hp.1)
      obtain ⟨rfl, rfl, hN5, hb6⟩ := QEl hp
      show J _ _ _ _ 11 _ ([]) _ _ _ _
      refine J.aload_n (pc := 11) dX10_then_11 rfl 0 rfl ?_
      refine J.iload_n (pc := 12) dX10_then_12 rfl 2 rfl ?_
      refine J.iconst (pc := 13) dX10_then_13 ic_0 ?_
      refine J.bipush (pc := 14) dX10_then_14 ib_60 ?_
      obtain ⟨q, e7, h⟩ := bnd h
      rcases q with u | i47
      · try dsimp only at h
        refine J.callV (Y := mX10_then) (Z := mX10_needWithin) (pc := 16) (st := []) (k2 := 0) (n2 := 0) dX10_then_16 ml_RX10_260 mo_X10_needWithin mv_X10_needWithin rfl (tX10_needWithin d e7 hN5 k0) k0 (okN hN5 k0 (by decide)).1 (okN hN5 k0 (by decide)).2 cq_10 (by decide) rfl rfl (Nat.le_of_ble_eq_true rfl) (by decide) (by decide) (fun v ν hp => ?_) (fun i ν hp => nrm hp.1)
        obtain ⟨rfl, rfl, hN8, hb9⟩ := QEl hp
        show J _ _ _ _ 19 _ ([]) _ _ _ _
        refine J.aload_n (pc := 19) dX10_then_19 rfl 0 rfl ?_
        refine J.iload_n (pc := 20) dX10_then_20 rfl 2 rfl ?_
        obtain ⟨μ11, e10, h⟩ := bnd h
        refine J.callV (Y := mX10_then) (Z := mX10_runAhead) (pc := 21) (st := []) (k2 := 0) (n2 := 0) dX10_then_21 ml_RX10_239 mo_X10_runAhead mv_X10_runAhead rfl (tX10_runAhead (d + 3) e10 hN8 k0) k0 (okN hN8 k0 (by decide)).1 (okN hN8 k0 (by decide)).2 cq_10 (by decide) rfl rfl (Nat.le_of_ble_eq_true rfl) (by decide) (by decide) (fun v ν hp => ?_) (fun i ν hp => nrm hp.1)
        obtain ⟨rfl, rfl, hN12, hb13⟩ := QEl hp
        show J _ _ _ _ 24 _ ([]) _ _ _ _
        refine J.aload_n (pc := 24) dX10_then_24 rfl 0 rfl ?_
        obtain ⟨a14, e15, h⟩ := bnd h
        have k16 : (kd a14).1 = 12 := gR_k e15
        refine J.fR (pc := 25) dX10_then_25 fl_RX10_79 k0 (okN hN12 k0 (by decide)) rfl e15 ?_
        obtain ⟨a17, e18, h⟩ := bnd h
        have k19 : (kd a17).1 = 19 := gR_k e18
        refine J.fR (pc := 28) dX10_then_28 fl_RX10_242 k16 (okN hN12 k16 (by decide)) rfl e18 ?_
        obtain ⟨a20, e21, h⟩ := bnd h
        have k22 : (kd a20).1 = 0 := gR_k e21
        refine J.fR (pc := 31) dX10_then_31 fl_RX10_208 k19 (okN hN12 k19 (by decide)) rfl e21 ?_
        refine J.iload_n (pc := 34) dX10_then_34 rfl 1 rfl ?_
        obtain ⟨x23, e24, h⟩ := bnd h
        refine J.aI (pc := 35) dX10_then_35 k22 (okN hN12 k22 (by decide)) e24 ?_
        refine J.istore (pc := 36) ([(4, .int x23), (0, .ref v0), (1, .int v1), (2, .int v2), (3, .int v3)]) dX10_then_36 (Nat.le_of_ble_eq_true rfl) rfl ?_
        refine J.iload_n (pc := 38) dX10_then_38 rfl 4 rfl ?_
        rcases ifc h with ⟨hc, h⟩ | ⟨ns50, h⟩
        · refine J.tableIn (pc := 39) (off := 25) (tgt := 64) dX10_then_39 (by rw [hc]; decide) (by rw [hc]; decide) (by rw [hc]; decide) (by decide) ?_
          refine J.iload (pc := 64) dX10_then_64 0 rfl ?_
          refine J.bipush (pc := 66) dX10_then_66 ib_8 ?_
          refine J.idiv (pc := 68) dX10_then_68 (by decide) ?_
          cases h
          exact J.iret (pc := 69) dX10_then_69 rfl ⟨rfl, rfl, hN12, trivial⟩
        rcases ifc h with ⟨hc, h⟩ | ⟨ns51, h⟩
        · refine J.tableIn (pc := 39) (off := 31) (tgt := 70) dX10_then_39 (by rw [hc]; decide) (by rw [hc]; decide) (by rw [hc]; decide) (by decide) ?_
          refine J.iload (pc := 70) dX10_then_70 0 rfl ?_
          refine J.bipush (pc := 72) dX10_then_72 ib_8 ?_
          refine J.irem (pc := 74) dX10_then_74 (by decide) ?_
          cases h
          exact J.iret (pc := 75) dX10_then_75 rfl ⟨rfl, rfl, hN12, trivial⟩
        rcases ifc h with ⟨hc, h⟩ | ⟨ns52, h⟩
        · refine J.tableIn (pc := 39) (off := 37) (tgt := 76) dX10_then_39 (by rw [hc]; decide) (by rw [hc]; decide) (by rw [hc]; decide) (by decide) ?_
          refine J.aload_n (pc := 76) dX10_then_76 rfl 1 rfl ?_
          obtain ⟨a25, e26, h⟩ := bnd h
          have k27 : (kd a25).1 = 12 := gR_k e26
          refine J.fR (pc := 77) dX10_then_77 fl_RX10_79 k0 (okN hN12 k0 (by decide)) rfl e26 ?_
          obtain ⟨a28, e29, h⟩ := bnd h
          have k30 : (kd a28).1 = 19 := gR_k e29
          refine J.fR (pc := 80) dX10_then_80 fl_RX10_242 k27 (okN hN12 k27 (by decide)) rfl e29 ?_
          obtain ⟨a31, e32, h⟩ := bnd h
          have k33 : (kd a31).1 = 0 := gR_k e32
          refine J.fR (pc := 83) dX10_then_83 fl_RX10_223 k30 (okN hN12 k30 (by decide)) rfl e32 ?_
          refine J.iload_n (pc := 86) dX10_then_86 rfl 2 rfl ?_
          obtain ⟨x34, e35, h⟩ := bnd h
          refine J.aI (pc := 87) dX10_then_87 k33 (okN hN12 k33 (by decide)) e35 ?_
          cases h
          exact J.iret (pc := 88) dX10_then_88 rfl ⟨rfl, rfl, hN12, trivial⟩
        refine J.tableOut (pc := 39) (tgt := 89) dX10_then_39 (sw_out (vs := [(0 : Int32), (1 : Int32), (2 : Int32)]) (List.forall_mem_cons.mpr ⟨ns50, (List.forall_mem_cons.mpr ⟨ns51, (List.forall_mem_cons.mpr ⟨ns52, (fun _ q => nomatch q)⟩)⟩)⟩) (sw_hv (by decide))) (by decide) ?_
        refine J.aload_n (pc := 89) dX10_then_89 rfl 1 rfl ?_
        obtain ⟨a36, e37, h⟩ := bnd h
        have k38 : (kd a36).1 = 12 := gR_k e37
        refine J.fR (pc := 90) dX10_then_90 fl_RX10_79 k0 (okN hN12 k0 (by decide)) rfl e37 ?_
        obtain ⟨a39, e40, h⟩ := bnd h
        have k41 : (kd a39).1 = 19 := gR_k e40
        refine J.fR (pc := 93) dX10_then_93 fl_RX10_242 k38 (okN hN12 k38 (by decide)) rfl e40 ?_
        obtain ⟨a42, e43, h⟩ := bnd h
        have k44 : (kd a42).1 = 0 := gR_k e43
        refine J.fR (pc := 96) dX10_then_96 fl_RX10_220 k41 (okN hN12 k41 (by decide)) rfl e43 ?_
        refine J.iload_n (pc := 99) dX10_then_99 rfl 2 rfl ?_
        obtain ⟨x45, e46, h⟩ := bnd h
        refine J.aI (pc := 100) dX10_then_100 k44 (okN hN12 k44 (by decide)) e46 ?_
        refine J.iconst (pc := 101) dX10_then_101 ic_m1 ?_
        rcases ifc h with ⟨hc, h⟩ | ⟨hc, h⟩
        · refine J.cne (pc := 102) (tgt := 109) dX10_then_102 (by decide) (fun _ => ?_) (fun q => absurd hc q)
          refine J.iconst (pc := 105) dX10_then_105 ic_0 ?_
          refine J.goto (pc := 106) (tgt := 110) dX10_then_106 (by decide) ?_
          cases h
          exact J.iret (pc := 110) dX10_then_110 rfl ⟨rfl, rfl, hN12, trivial⟩
        · refine J.cne (pc := 102) (tgt := 109) dX10_then_102 (by decide) (fun q => absurd q hc) (fun _ => ?_)
          refine J.iconst (pc := 109) dX10_then_109 ic_1 ?_
          cases h
          exact J.iret (pc := 110) dX10_then_110 rfl ⟨rfl, rfl, hN12, trivial⟩
      · try dsimp only at h
        refine J.callV (Y := mX10_then) (Z := mX10_needWithin) (pc := 16) (st := []) (k2 := 0) (n2 := 0) dX10_then_16 ml_RX10_260 mo_X10_needWithin mv_X10_needWithin rfl (tX10_needWithin d e7 hN5 k0) k0 (okN hN5 k0 (by decide)).1 (okN hN5 k0 (by decide)).2 cq_10 (by decide) rfl rfl (Nat.le_of_ble_eq_true rfl) (by decide) (by decide) (fun v ν hp => nlm hp.1) (fun i ν hp => ?_)
        obtain ⟨rfl, rfl, hN9, -⟩ := QEr hp
        cases h
        exact JX.out rfl ⟨rfl, rfl, hN9, trivial⟩
    · try dsimp only at h
      refine J.callV (Y := mX10_then) (Z := mX10_needWhat) (pc := 8) (st := []) (k2 := 1) (n2 := 6) dX10_then_8 ml_RX10_140 mo_X10_needWhat mv_X10_needWhat rfl (tX10_needWhat d e4 hN2 k0) k0 (okN hN2 k0 (by decide)).1 (okN hN2 k0 (by decide)).2 cq_10 (by decide) rfl rfl (Nat.le_of_ble_eq_true rfl) (by decide) (by decide) (fun v ν hp => nlm hp.1) (fun i ν hp => ?_)
      obtain ⟨rfl, rfl, hN9, -⟩ := QEr hp
      cases h
      exact JX.out rfl ⟨rfl, rfl, hN9, trivial⟩
  · try dsimp only at h
    refine J.callV (Y := mX10_then) (Z := mX10_needPerson) (pc := 2) (st := []) (k2 := 2) (n2 := 12) dX10_then_2 ml_RX10_211 mo_X10_needPerson mv_X10_needPerson rfl (tX10_needPerson d e1 hN k0) k0 (okN hN k0 (by decide)).1 (okN hN k0 (by decide)).2 cq_10 (by decide) rfl rfl (Nat.le_of_ble_eq_true rfl) (by decide) (by decide) (fun v ν hp => nlm hp.1) (fun i ν hp => ?_)
    obtain ⟨rfl, rfl, hN9, -⟩ := QEr hp
    cases h
    exact JX.out rfl ⟨rfl, rfl, hN9, trivial⟩
def fL_then (v0 : Nat) (v1 : Int32) (v2 : Int32) (v3 : Int32) (v4 : Nat) (μ : Mem) : Option (Int32 × Mem) :=
  (fX10_then v0 v1 v2 v3 μ).bind fun
  | (.inl r3, μ2) =>
    (stL μ2 v4 (0 : Int32) (r3.toInt64)).bind fun μ6 =>
    some ((0 : Int32), μ6)
  | (.inr i9, μ2) =>
    if i9 = 0 then some ((1 : Int32), μ2) else
    if i9 = 1 then some ((2 : Int32), μ2) else
    none
set_option maxHeartbeats 4000000 in
theorem tL_then {ω : Wd} {l : Launch} (d : Nat) {v0 : Nat} {v1 : Int32} {v2 : Int32} {v3 : Int32} {v4 : Nat} {μ : Mem} {res : Int32 × Mem} (h : fL_then v0 v1 v2 v3 v4 μ = some res) (hN : μ.1 = NN) (k0 : (kd v0).1 = 20) (k4 : (kd v4).1 = 1) : Ct ω l mL_then (d + 10) [.ref v0, .int v1, .int v2, .int v3, .ref v4] μ 3 18 (PE (.inl (some (.int res.1))) res.2 True) := by
  refine Ct.of pn_RL (Nat.le_of_ble_eq_true rfl) ?_
  show J ω l mL_then (d + 10) 0 [(0, .ref v0), (1, .int v1), (2, .int v2), (3, .int v3), (4, .ref v4)] [] μ 3 18 _
  unfold fL_then at h
  refine J.aload (pc := 0) dL_then_0 4 rfl ?_
  refine J.iconst (pc := 2) dL_then_2 ic_0 ?_
  refine J.aload_n (pc := 3) dL_then_3 rfl 0 rfl ?_
  refine J.iload_n (pc := 4) dL_then_4 rfl 1 rfl ?_
  refine J.iload_n (pc := 5) dL_then_5 rfl 2 rfl ?_
  refine J.iload_n (pc := 6) dL_then_6 rfl 3 rfl ?_
  obtain ⟨⟨q, μ2⟩, e1, h⟩ := bnd h
  rcases q with r3 | i9
  · try dsimp only at h
    refine J.callV (Y := mL_then) (Z := mX10_then) (pc := 7) (st := [.int (0 : Int32), .ref v4]) (k2 := 0) (n2 := 0) dL_then_7 ml_RL_43 mo_X10_then mv_X10_then rfl (tX10_then d e1 hN k0) k0 (okN hN k0 (by decide)).1 (okN hN k0 (by decide)).2 cq_10 (by decide) rfl rfl (Nat.le_of_ble_eq_true rfl) (by decide) (by decide) (fun v ν hp => ?_) (fun i ν hp => nrm hp.1)
    obtain ⟨rfl, rfl, hN4, hb5⟩ := QEl hp
    show J _ _ _ _ 10 _ ([.int r3, .int (0 : Int32), .ref v4]) _ _ _ _
    refine J.i2l (pc := 10) dL_then_10 ?_
    obtain ⟨μ6, e7, h⟩ := bnd h
    have hN8 : μ6.1 = NN := stL_N e7 hN4
    refine J.wL (pc := 11) dL_then_11 k4 (okN hN4 k4 (by decide)) e7 ?_
    refine J.goto (pc := 12) (tgt := 23) dL_then_12 (by decide) ?_
    refine J.iconst (pc := 23) dL_then_23 ic_0 ?_
    cases h
    exact J.iret (pc := 24) dL_then_24 rfl ⟨rfl, rfl, hN8, trivial⟩
  · try dsimp only at h
    refine J.callV (Y := mL_then) (Z := mX10_then) (pc := 7) (st := [.int (0 : Int32), .ref v4]) (k2 := 0) (n2 := 0) dL_then_7 ml_RL_43 mo_X10_then mv_X10_then rfl (tX10_then d e1 hN k0) k0 (okN hN k0 (by decide)).1 (okN hN k0 (by decide)).2 cq_10 (by decide) rfl rfl (Nat.le_of_ble_eq_true rfl) (by decide) (by decide) (fun v ν hp => nlm hp.1) (fun i ν hp => ?_)
    obtain ⟨rfl, rfl, hN9, -⟩ := QEr hp
    rcases ifc h with ⟨hc, h⟩ | ⟨hc, h⟩
    · subst hc
      cases h
      exact JX.catch1 (i := 0) (by decide) rfl rfl (Nat.le_of_ble_eq_true rfl) (Nat.le_of_ble_eq_true rfl) (Or.inl ⟨5, Nat.le_of_ble_eq_true rfl, rfl, dL_then_15⟩) dL_then_17 ic_1 dL_then_18 rfl ⟨rfl, rfl, hN9, trivial⟩
    rcases ifc h with ⟨hc, h⟩ | ⟨hc, h⟩
    · subst hc
      cases h
      exact JX.catch2 rfl rfl (Nat.le_of_ble_eq_true rfl) (Nat.le_of_ble_eq_true rfl) (Or.inl ⟨5, Nat.le_of_ble_eq_true rfl, rfl, dL_then_19⟩) dL_then_21 ic_2 dL_then_22 rfl ⟨rfl, rfl, hN9, trivial⟩
    cases h
def fX10_type (v0 : Nat) (v1 : Int32) (v2 : Int32) (μ : Mem) : Option ((Int32 ⊕ Nat) × Mem) :=
  (fX10_inside v0 v1 μ).bind fun
  | .inl r2 =>
    if v2 < 0 then
      (gR μ v0 3 0).bind fun a5 =>
      (ldI μ a5 (1 : Int32)).bind fun x8 =>
      (stI μ a5 (1 : Int32) (x8 + (1 : Int32))).bind fun μ10 =>
      some (.inl (-1 : Int32), μ10)
    else
      if (9 : Int32) < v2 then
        (gR μ v0 3 0).bind fun a13 =>
        (ldI μ a13 (1 : Int32)).bind fun x16 =>
        (stI μ a13 (1 : Int32) (x16 + (1 : Int32))).bind fun μ18 =>
        some (.inl (-1 : Int32), μ18)
      else
        (gR μ v0 7 19).bind fun a21 =>
        (gR μ a21 3 0).bind fun a24 =>
        (ldI μ a24 r2).bind fun x27 =>
        (gR μ v0 8 10).bind fun a29 =>
        (gR μ v0 7 19).bind fun a32 =>
        (fX0_keep a29 a32 μ).bind fun μ36 =>
        (gR μ36 v0 7 19).bind fun a39 =>
        (fX9_setInk a39 r2 v2 μ36).bind fun μ43 =>
        some (.inl x27, μ43)
  | .inr i46 =>
    some (.inr i46, μ)
set_option maxHeartbeats 4000000 in
theorem tX10_type {ω : Wd} {l : Launch} (d : Nat) {v0 : Nat} {v1 : Int32} {v2 : Int32} {μ : Mem} {res : (Int32 ⊕ Nat) × Mem} (h : fX10_type v0 v1 v2 μ = some res) (hN : μ.1 = NN) (k0 : (kd v0).1 = 20) : Ct ω l mX10_type (d + 9) [.ref v0, .int v1, .int v2] μ 1 6 (PE (oI res.1) res.2 True) := by
  refine Ct.of pn_RX10 (Nat.le_of_ble_eq_true rfl) ?_
  show J ω l mX10_type (d + 9) 0 [(0, .ref v0), (1, .int v1), (2, .int v2)] [] μ 1 6 _
  unfold fX10_type at h
  refine J.aload_n (pc := 0) dX10_type_0 rfl 0 rfl ?_
  refine J.iload_n (pc := 1) dX10_type_1 rfl 1 rfl ?_
  obtain ⟨q, e1, h⟩ := bnd h
  rcases q with r2 | i46
  · try dsimp only at h
    refine J.callV (Y := mX10_type) (Z := mX10_inside) (pc := 2) (st := []) (k2 := 0) (n2 := 0) dX10_type_2 ml_RX10_233 mo_X10_inside mv_X10_inside rfl (tX10_inside d e1 hN k0) k0 (okN hN k0 (by decide)).1 (okN hN k0 (by decide)).2 cq_10 (by decide) rfl rfl (Nat.le_of_ble_eq_true rfl) (by decide) (by decide) (fun v ν hp => ?_) (fun i ν hp => nrm hp.1)
    obtain ⟨rfl, rfl, hN3, hb4⟩ := QEl hp
    show J _ _ _ _ 5 _ ([.int r2]) _ _ _ _
    refine J.istore_n (pc := 5) ([(3, .int r2), (0, .ref v0), (1, .int v1), (2, .int v2)]) dX10_type_5 rfl (Nat.le_of_ble_eq_true rfl) rfl ?_
    refine J.iload_n (pc := 6) dX10_type_6 rfl 3 rfl ?_
    rcases ifc h with ⟨hc, h⟩ | ⟨hc, h⟩
    · refine J.zlt (pc := 7) (tgt := 16) dX10_type_7 (by decide) (fun _ => ?_) (fun q => absurd hc q)
      refine J.aload_n (pc := 16) dX10_type_16 rfl 1 rfl ?_
      obtain ⟨a5, e6, h⟩ := bnd h
      have k7 : (kd a5).1 = 0 := gR_k e6
      refine J.fR (pc := 17) dX10_type_17 fl_RX10_20 k0 (okN hN3 k0 (by decide)) rfl e6 ?_
      refine J.iconst (pc := 20) dX10_type_20 ic_1 ?_
      refine J.dup2 (pc := 21) dX10_type_21 rfl rfl ?_
      obtain ⟨x8, e9, h⟩ := bnd h
      refine J.aI (pc := 22) dX10_type_22 k7 (okN hN3 k7 (by decide)) e9 ?_
      refine J.iconst (pc := 23) dX10_type_23 ic_1 ?_
      refine J.iadd (pc := 24) dX10_type_24 ?_
      obtain ⟨μ10, e11, h⟩ := bnd h
      have hN12 : μ10.1 = NN := stI_N e11 hN3
      refine J.wI (pc := 25) dX10_type_25 k7 (okN hN3 k7 (by decide)) e11 ?_
      refine J.iconst (pc := 26) dX10_type_26 ic_m1 ?_
      cases h
      exact J.iret (pc := 27) dX10_type_27 rfl ⟨rfl, rfl, hN12, trivial⟩
    · refine J.zlt (pc := 7) (tgt := 16) dX10_type_7 (by decide) (fun q => absurd q hc) (fun _ => ?_)
      refine J.iload_n (pc := 10) dX10_type_10 rfl 3 rfl ?_
      refine J.bipush (pc := 11) dX10_type_11 ib_9 ?_
      rcases ifc h with ⟨hc, h⟩ | ⟨hc, h⟩
      · refine J.cle (pc := 13) (tgt := 28) dX10_type_13 (by decide) (fun _ => ?_) (fun q => absurd hc q)
        refine J.aload_n (pc := 16) dX10_type_16 rfl 1 rfl ?_
        obtain ⟨a13, e14, h⟩ := bnd h
        have k15 : (kd a13).1 = 0 := gR_k e14
        refine J.fR (pc := 17) dX10_type_17 fl_RX10_20 k0 (okN hN3 k0 (by decide)) rfl e14 ?_
        refine J.iconst (pc := 20) dX10_type_20 ic_1 ?_
        refine J.dup2 (pc := 21) dX10_type_21 rfl rfl ?_
        obtain ⟨x16, e17, h⟩ := bnd h
        refine J.aI (pc := 22) dX10_type_22 k15 (okN hN3 k15 (by decide)) e17 ?_
        refine J.iconst (pc := 23) dX10_type_23 ic_1 ?_
        refine J.iadd (pc := 24) dX10_type_24 ?_
        obtain ⟨μ18, e19, h⟩ := bnd h
        have hN20 : μ18.1 = NN := stI_N e19 hN3
        refine J.wI (pc := 25) dX10_type_25 k15 (okN hN3 k15 (by decide)) e19 ?_
        refine J.iconst (pc := 26) dX10_type_26 ic_m1 ?_
        cases h
        exact J.iret (pc := 27) dX10_type_27 rfl ⟨rfl, rfl, hN20, trivial⟩
      · refine J.cle (pc := 13) (tgt := 28) dX10_type_13 (by decide) (fun q => absurd q hc) (fun _ => ?_)
        refine J.aload_n (pc := 28) dX10_type_28 rfl 1 rfl ?_
        obtain ⟨a21, e22, h⟩ := bnd h
        have k23 : (kd a21).1 = 19 := gR_k e22
        refine J.fR (pc := 29) dX10_type_29 fl_RX10_45 k0 (okN hN3 k0 (by decide)) rfl e22 ?_
        obtain ⟨a24, e25, h⟩ := bnd h
        have k26 : (kd a24).1 = 0 := gR_k e25
        refine J.fR (pc := 32) dX10_type_32 fl_RX10_205 k23 (okN hN3 k23 (by decide)) rfl e25 ?_
        refine J.iload_n (pc := 35) dX10_type_35 rfl 0 rfl ?_
        obtain ⟨x27, e28, h⟩ := bnd h
        refine J.aI (pc := 36) dX10_type_36 k26 (okN hN3 k26 (by decide)) e28 ?_
        refine J.istore (pc := 37) ([(4, .int x27), (3, .int r2), (0, .ref v0), (1, .int v1), (2, .int v2)]) dX10_type_37 (Nat.le_of_ble_eq_true rfl) rfl ?_
        refine J.aload_n (pc := 39) dX10_type_39 rfl 2 rfl ?_
        obtain ⟨a29, e30, h⟩ := bnd h
        have k31 : (kd a29).1 = 10 := gR_k e30
        refine J.fR (pc := 40) dX10_type_40 fl_RX10_52 k0 (okN hN3 k0 (by decide)) rfl e30 ?_
        refine J.aload_n (pc := 43) dX10_type_43 rfl 2 rfl ?_
        obtain ⟨a32, e33, h⟩ := bnd h
        have k34 : (kd a32).1 = 19 := gR_k e33
        refine J.fR (pc := 44) dX10_type_44 fl_RX10_45 k0 (okN hN3 k0 (by decide)) rfl e33 ?_
        obtain ⟨μ36, e35, h⟩ := bnd h
        refine J.callV (Y := mX10_type) (Z := mX0_keep) (pc := 47) (st := []) (k2 := 0) (n2 := 0) dX10_type_47 ml_RX10_236 mo_X0_keep mv_X0_keep rfl (tX0_keep (d + 6) e35 hN3 k31 k34) k31 (okN hN3 k31 (by decide)).1 (okN hN3 k31 (by decide)).2 cq_0 (by decide) rfl rfl (Nat.le_of_ble_eq_true rfl) (by decide) (by decide) (fun v ν hp => ?_) (fun i ν hp => nrm hp.1)
        obtain ⟨rfl, rfl, hN37, hb38⟩ := QEl hp
        show J _ _ _ _ 50 _ ([]) _ _ _ _
        refine J.aload_n (pc := 50) dX10_type_50 rfl 2 rfl ?_
        obtain ⟨a39, e40, h⟩ := bnd h
        have k41 : (kd a39).1 = 19 := gR_k e40
        refine J.fR (pc := 51) dX10_type_51 fl_RX10_45 k0 (okN hN37 k0 (by decide)) rfl e40 ?_
        refine J.iload_n (pc := 54) dX10_type_54 rfl 1 rfl ?_
        refine J.iload_n (pc := 55) dX10_type_55 rfl 4 rfl ?_
        obtain ⟨μ43, e42, h⟩ := bnd h
        refine J.callV (Y := mX10_type) (Z := mX9_setInk) (pc := 56) (st := []) (k2 := 0) (n2 := 0) dX10_type_56 ml_RX10_245 mo_X9_setInk mv_X9_setInk rfl (tX9_setInk (d + 7) e42 hN37 k41) k41 (okN hN37 k41 (by decide)).1 (okN hN37 k41 (by decide)).2 cq_9 (by decide) rfl rfl (Nat.le_of_ble_eq_true rfl) (by decide) (by decide) (fun v ν hp => ?_) (fun i ν hp => nrm hp.1)
        obtain ⟨rfl, rfl, hN44, hb45⟩ := QEl hp
        show J _ _ _ _ 59 _ ([]) _ _ _ _
        refine J.iload (pc := 59) dX10_type_59 0 rfl ?_
        cases h
        exact J.iret (pc := 61) dX10_type_61 rfl ⟨rfl, rfl, hN44, trivial⟩
  · try dsimp only at h
    refine J.callV (Y := mX10_type) (Z := mX10_inside) (pc := 2) (st := []) (k2 := 0) (n2 := 0) dX10_type_2 ml_RX10_233 mo_X10_inside mv_X10_inside rfl (tX10_inside d e1 hN k0) k0 (okN hN k0 (by decide)).1 (okN hN k0 (by decide)).2 cq_10 (by decide) rfl rfl (Nat.le_of_ble_eq_true rfl) (by decide) (by decide) (fun v ν hp => nlm hp.1) (fun i ν hp => ?_)
    obtain ⟨rfl, rfl, hN9, -⟩ := QEr hp
    cases h
    exact JX.out rfl ⟨rfl, rfl, hN9, trivial⟩
def fL_type (v0 : Nat) (v1 : Int32) (v2 : Int32) (v3 : Nat) (μ : Mem) : Option (Int32 × Mem) :=
  (fX10_type v0 v1 v2 μ).bind fun
  | (.inl r3, μ2) =>
    (stL μ2 v3 (0 : Int32) (r3.toInt64)).bind fun μ6 =>
    some ((0 : Int32), μ6)
  | (.inr i9, μ2) =>
    if i9 = 0 then some ((1 : Int32), μ2) else
    none
set_option maxHeartbeats 4000000 in
theorem tL_type {ω : Wd} {l : Launch} (d : Nat) {v0 : Nat} {v1 : Int32} {v2 : Int32} {v3 : Nat} {μ : Mem} {res : Int32 × Mem} (h : fL_type v0 v1 v2 v3 μ = some res) (hN : μ.1 = NN) (k0 : (kd v0).1 = 20) (k3 : (kd v3).1 = 1) : Ct ω l mL_type (d + 10) [.ref v0, .int v1, .int v2, .ref v3] μ 1 6 (PE (.inl (some (.int res.1))) res.2 True) := by
  refine Ct.of pn_RL (Nat.le_of_ble_eq_true rfl) ?_
  show J ω l mL_type (d + 10) 0 [(0, .ref v0), (1, .int v1), (2, .int v2), (3, .ref v3)] [] μ 1 6 _
  unfold fL_type at h
  refine J.aload_n (pc := 0) dL_type_0 rfl 3 rfl ?_
  refine J.iconst (pc := 1) dL_type_1 ic_0 ?_
  refine J.aload_n (pc := 2) dL_type_2 rfl 0 rfl ?_
  refine J.iload_n (pc := 3) dL_type_3 rfl 1 rfl ?_
  refine J.iload_n (pc := 4) dL_type_4 rfl 2 rfl ?_
  obtain ⟨⟨q, μ2⟩, e1, h⟩ := bnd h
  rcases q with r3 | i9
  · try dsimp only at h
    refine J.callV (Y := mL_type) (Z := mX10_type) (pc := 5) (st := [.int (0 : Int32), .ref v3]) (k2 := 0) (n2 := 0) dL_type_5 ml_RL_30 mo_X10_type mv_X10_type rfl (tX10_type d e1 hN k0) k0 (okN hN k0 (by decide)).1 (okN hN k0 (by decide)).2 cq_10 (by decide) rfl rfl (Nat.le_of_ble_eq_true rfl) (by decide) (by decide) (fun v ν hp => ?_) (fun i ν hp => nrm hp.1)
    obtain ⟨rfl, rfl, hN4, hb5⟩ := QEl hp
    show J _ _ _ _ 8 _ ([.int r3, .int (0 : Int32), .ref v3]) _ _ _ _
    refine J.i2l (pc := 8) dL_type_8 ?_
    obtain ⟨μ6, e7, h⟩ := bnd h
    have hN8 : μ6.1 = NN := stL_N e7 hN4
    refine J.wL (pc := 9) dL_type_9 k3 (okN hN4 k3 (by decide)) e7 ?_
    refine J.goto (pc := 10) (tgt := 17) dL_type_10 (by decide) ?_
    refine J.iconst (pc := 17) dL_type_17 ic_0 ?_
    cases h
    exact J.iret (pc := 18) dL_type_18 rfl ⟨rfl, rfl, hN8, trivial⟩
  · try dsimp only at h
    refine J.callV (Y := mL_type) (Z := mX10_type) (pc := 5) (st := [.int (0 : Int32), .ref v3]) (k2 := 0) (n2 := 0) dL_type_5 ml_RL_30 mo_X10_type mv_X10_type rfl (tX10_type d e1 hN k0) k0 (okN hN k0 (by decide)).1 (okN hN k0 (by decide)).2 cq_10 (by decide) rfl rfl (Nat.le_of_ble_eq_true rfl) (by decide) (by decide) (fun v ν hp => nlm hp.1) (fun i ν hp => ?_)
    obtain ⟨rfl, rfl, hN9, -⟩ := QEr hp
    rcases ifc h with ⟨hc, h⟩ | ⟨hc, h⟩
    · subst hc
      cases h
      exact JX.catch1 (i := 0) (by decide) rfl rfl (Nat.le_of_ble_eq_true rfl) (Nat.le_of_ble_eq_true rfl) (Or.inl ⟨4, Nat.le_of_ble_eq_true rfl, rfl, dL_type_13⟩) dL_type_15 ic_1 dL_type_16 rfl ⟨rfl, rfl, hN9, trivial⟩
    cases h
def fX5_fewestToClear_16 (μ : Mem) : Nat → Nat → Int32 → Int64 → Int32 → Option (Int32)
  | 0, _, _, _, _ => none
  | n + 1, v0, v2, v3, v5 =>
    if (48 : Int32) < v5 then
      some (-1 : Int32)
    else
      if (v3 &&& (fX10_bit v2)) = (0 : Int64) then
        if (v3 ||| (fX5_beside v0 v3 μ)) = v3 then
          some (-1 : Int32)
        else
          (fX5_flood v0 (v3 ||| (fX5_beside v0 v3 μ)) (μ.2.2.1 v0 1) μ).bind fun r8 =>
          (fX5_fewestToClear_16 μ n) v0 v2 r8 (v5 + (1 : Int32))
      else
        some v5
set_option maxHeartbeats 4000000 in
theorem tX5_fewestToClear_16 {ω : Wd} {l : Launch} (d : Nat) {μ : Mem} (hN : μ.1 = NN) {res : Int32} : ∀ n : Nat, ∀ (v0 : Nat) (v2 : Int32) (v3 : Int64) (v5 : Int32), fX5_fewestToClear_16 μ n v0 v2 v3 v5 = some res → (kd v0).1 = 15 → J ω l mX5_fewestToClear (d + 2) 16 [(0, .ref v0), (2, .int v2), (3, .long v3), (5, .int v5)] [] μ 0 0 (PE (.inl (some (.int res))) μ True) := by
  intro n
  induction n with
  | zero =>
    intro v0 v2 v3 v5 h k0
    have h9 : (none : Option (Int32)) = some res := h
    cases h9
  | succ n ih =>
    intro v0 v2 v3 v5 h k0
    unfold fX5_fewestToClear_16 at h
    refine J.iload (pc := 16) dX5_fewestToClear_16 3 rfl ?_
    refine J.bipush (pc := 18) dX5_fewestToClear_18 ib_48 ?_
    rcases ifc h with ⟨hc, h⟩ | ⟨hc, h⟩
    · refine J.cgt (pc := 20) (tgt := 72) dX5_fewestToClear_20 (by decide) (fun _ => ?_) (fun q => absurd hc q)
      refine J.iconst (pc := 72) dX5_fewestToClear_72 ic_m1 ?_
      cases h
      exact J.iret (pc := 73) dX5_fewestToClear_73 rfl ⟨rfl, rfl, hN, trivial⟩
    · refine J.cgt (pc := 20) (tgt := 72) dX5_fewestToClear_20 (by decide) (fun q => absurd q hc) (fun _ => ?_)
      refine J.lload_n (pc := 23) dX5_fewestToClear_23 rfl 2 rfl ?_
      refine J.iload_n (pc := 24) dX5_fewestToClear_24 rfl 1 rfl ?_
      refine J.callSN (Y := mX5_fewestToClear) (Z := mX10_bit) (pc := 25) (st := [.long v3]) (k2 := 0) (n2 := 0) dX5_fewestToClear_25 ml_RX5_40 mo_X10_bit ms_X10_bit rfl (tX10_bit (d + 1) v2 μ hN ) (fun i ν hp => nrm hp.1) rfl rfl (Nat.le_of_ble_eq_true rfl) (by decide) (by decide) (fun v ν hp => ?_)
      obtain ⟨rfl, rfl, hN2, hb3⟩ := QEl hp
      show J _ _ _ _ 28 _ ([.long (fX10_bit v2), .long v3]) _ _ _ _
      refine J.land (pc := 28) dX5_fewestToClear_28 ?_
      refine J.lconst (pc := 29) dX5_fewestToClear_29 lc_0 ?_
      rcases ifc h with ⟨hc, h⟩ | ⟨hc, h⟩
      · refine J.meq (pc := 30) (tgt := 37) dX5_fewestToClear_30 dX5_fewestToClear_31 (by decide) (fun _ => ?_) (fun q => absurd hc q)
        refine J.lload_n (pc := 37) dX5_fewestToClear_37 rfl 2 rfl ?_
        refine J.aload_n (pc := 38) dX5_fewestToClear_38 rfl 0 rfl ?_
        refine J.lload_n (pc := 39) dX5_fewestToClear_39 rfl 2 rfl ?_
        refine J.callV (Y := mX5_fewestToClear) (Z := mX5_beside) (pc := 40) (st := [.long v3]) (k2 := 0) (n2 := 0) dX5_fewestToClear_40 ml_RX5_44 mo_X5_beside mv_X5_beside rfl (tX5_beside (d + 1) v0 v3 μ hN2 k0) k0 (okN hN2 k0 (by decide)).1 (okN hN2 k0 (by decide)).2 cq_5 (by decide) rfl rfl (Nat.le_of_ble_eq_true rfl) (by decide) (by decide) (fun v ν hp => ?_) (fun i ν hp => nrm hp.1)
        obtain ⟨rfl, rfl, hN5, hb6⟩ := QEl hp
        show J _ _ _ _ 43 _ ([.long (fX5_beside v0 v3 μ), .long v3]) _ _ _ _
        refine J.lor (pc := 43) dX5_fewestToClear_43 ?_
        refine J.lstore (pc := 44) ([(6, .long (v3 ||| (fX5_beside v0 v3 μ))), (0, .ref v0), (2, .int v2), (3, .long v3), (5, .int v5)]) dX5_fewestToClear_44 (Nat.le_of_ble_eq_true rfl) rfl ?_
        refine J.lload (pc := 46) dX5_fewestToClear_46 0 rfl ?_
        refine J.lload_n (pc := 48) dX5_fewestToClear_48 rfl 3 rfl ?_
        rcases ifc h with ⟨hc, h⟩ | ⟨hc, h⟩
        · refine J.mne (pc := 49) (tgt := 55) dX5_fewestToClear_49 dX5_fewestToClear_50 (by decide) (fun _ => ?_) (fun q => absurd hc q)
          refine J.iconst (pc := 53) dX5_fewestToClear_53 ic_m1 ?_
          cases h
          exact J.iret (pc := 54) dX5_fewestToClear_54 rfl ⟨rfl, rfl, hN5, trivial⟩
        · refine J.mne (pc := 49) (tgt := 55) dX5_fewestToClear_49 dX5_fewestToClear_50 (by decide) (fun q => absurd q hc) (fun _ => ?_)
          refine J.aload_n (pc := 55) dX5_fewestToClear_55 rfl 1 rfl ?_
          refine J.lload (pc := 56) dX5_fewestToClear_56 0 rfl ?_
          refine J.aload_n (pc := 58) dX5_fewestToClear_58 rfl 1 rfl ?_
          refine J.fL (pc := 59) dX5_fewestToClear_59 fl_RX5_15 k0 (okN hN5 k0 (by decide)) rfl ?_
          obtain ⟨r8, e7, h⟩ := bnd h
          refine J.callV (Y := mX5_fewestToClear) (Z := mX5_flood) (pc := 62) (st := []) (k2 := 0) (n2 := 0) dX5_fewestToClear_62 ml_RX5_54 mo_X5_flood mv_X5_flood rfl (tX5_flood d e7 hN5 k0) k0 (okN hN5 k0 (by decide)).1 (okN hN5 k0 (by decide)).2 cq_5 (by decide) rfl rfl (Nat.le_of_ble_eq_true rfl) (by decide) (by decide) (fun v ν hp => ?_) (fun i ν hp => nrm hp.1)
          obtain ⟨rfl, rfl, hN9, hb10⟩ := QEl hp
          show J _ _ _ _ 65 _ ([.long r8]) _ _ _ _
          refine J.lstore_n (pc := 65) ([(3, .long r8), (6, .long (v3 ||| (fX5_beside v0 v3 μ))), (0, .ref v0), (2, .int v2), (5, .int v5)]) dX5_fewestToClear_65 rfl (Nat.le_of_ble_eq_true rfl) rfl ?_
          refine J.iinc (pc := 66) (j := 4) ([(5, .int (v5 + (1 : Int32))), (3, .long r8), (6, .long (v3 ||| (fX5_beside v0 v3 μ))), (0, .ref v0), (2, .int v2)]) dX5_fewestToClear_66 rfl (iincv ic_1) (Nat.le_of_ble_eq_true rfl) rfl ?_
          refine J.goto (pc := 69) (tgt := 16) dX5_fewestToClear_69 (by decide) ?_
          refine J.pick [3, 4, 1, 0] rfl ?_
          exact ih v0 v2 r8 (v5 + (1 : Int32)) h k0
      · refine J.meq (pc := 30) (tgt := 37) dX5_fewestToClear_30 dX5_fewestToClear_31 (by decide) (fun q => absurd q hc) (fun _ => ?_)
        refine J.iload (pc := 34) dX5_fewestToClear_34 3 rfl ?_
        cases h
        exact J.iret (pc := 36) dX5_fewestToClear_36 rfl ⟨rfl, rfl, hN2, trivial⟩
def fX5_fewestToClear (v0 : Nat) (v1 : Int32) (v2 : Int32) (μ : Mem) : Option (Int32) :=
  (fX5_flood v0 (fX10_bit v1) (μ.2.2.1 v0 1) μ).bind fun r5 =>
  (fX5_fewestToClear_16 μ fuel) v0 v2 r5 (0 : Int32)
set_option maxHeartbeats 4000000 in
theorem tX5_fewestToClear {ω : Wd} {l : Launch} (d : Nat) {v0 : Nat} {v1 : Int32} {v2 : Int32} {μ : Mem} {res : Int32} (h : fX5_fewestToClear v0 v1 v2 μ = some res) (hN : μ.1 = NN) (k0 : (kd v0).1 = 15) : Ct ω l mX5_fewestToClear (d + 2) [.ref v0, .int v1, .int v2] μ 0 0 (PE (.inl (some (.int res))) μ True) := by
  refine Ct.of pn_RX5 (Nat.le_of_ble_eq_true rfl) ?_
  show J ω l mX5_fewestToClear (d + 2) 0 [(0, .ref v0), (1, .int v1), (2, .int v2)] [] μ 0 0 _
  unfold fX5_fewestToClear at h
  refine J.aload_n (pc := 0) dX5_fewestToClear_0 rfl 0 rfl ?_
  refine J.iload_n (pc := 1) dX5_fewestToClear_1 rfl 1 rfl ?_
  refine J.callSN (Y := mX5_fewestToClear) (Z := mX10_bit) (pc := 2) (st := [.ref v0]) (k2 := 0) (n2 := 0) dX5_fewestToClear_2 ml_RX5_40 mo_X10_bit ms_X10_bit rfl (tX10_bit (d + 1) v1 μ hN ) (fun i ν hp => nrm hp.1) rfl rfl (Nat.le_of_ble_eq_true rfl) (by decide) (by decide) (fun v ν hp => ?_)
  obtain ⟨rfl, rfl, hN2, hb3⟩ := QEl hp
  show J _ _ _ _ 5 _ ([.long (fX10_bit v1), .ref v0]) _ _ _ _
  refine J.aload_n (pc := 5) dX5_fewestToClear_5 rfl 0 rfl ?_
  refine J.fL (pc := 6) dX5_fewestToClear_6 fl_RX5_15 k0 (okN hN2 k0 (by decide)) rfl ?_
  obtain ⟨r5, e4, h⟩ := bnd h
  refine J.callV (Y := mX5_fewestToClear) (Z := mX5_flood) (pc := 9) (st := []) (k2 := 0) (n2 := 0) dX5_fewestToClear_9 ml_RX5_54 mo_X5_flood mv_X5_flood rfl (tX5_flood d e4 hN2 k0) k0 (okN hN2 k0 (by decide)).1 (okN hN2 k0 (by decide)).2 cq_5 (by decide) rfl rfl (Nat.le_of_ble_eq_true rfl) (by decide) (by decide) (fun v ν hp => ?_) (fun i ν hp => nrm hp.1)
  obtain ⟨rfl, rfl, hN6, hb7⟩ := QEl hp
  show J _ _ _ _ 12 _ ([.long r5]) _ _ _ _
  refine J.lstore_n (pc := 12) ([(3, .long r5), (0, .ref v0), (1, .int v1), (2, .int v2)]) dX5_fewestToClear_12 rfl (Nat.le_of_ble_eq_true rfl) rfl ?_
  refine J.iconst (pc := 13) dX5_fewestToClear_13 ic_0 ?_
  refine J.istore (pc := 14) ([(5, .int (0 : Int32)), (3, .long r5), (0, .ref v0), (1, .int v1), (2, .int v2)]) dX5_fewestToClear_14 (Nat.le_of_ble_eq_true rfl) rfl ?_
  refine J.pick [2, 4, 1, 0] rfl ?_
  exact (tX5_fewestToClear_16 d hN fuel) v0 v2 r5 (0 : Int32) h k0
def fX5_needed_53 (μ : Mem) : Nat → Nat → Int32 → Int32 → Int32 → Int64 → Int32 → Option (Int32)
  | 0, _, _, _, _, _, _ => none
  | n + 1, v0, v1, v2, v3, v4, v6 =>
    if v6 < (48 : Int32) then
      if (v4 &&& (fX10_bit v6)) = (0 : Int64) then
        if (0 : Int32) = 0 then
          (fX5_needed_53 μ n) v0 v1 v2 v3 v4 (v6 + (1 : Int32))
        else
          (fX5_flood v0 (fX10_bit v1) ((μ.2.2.1 v0 1) &&& ((fX10_bit v6) ^^^ (-1 : Int64))) μ).bind fun r11 =>
          if (r11 &&& (fX10_bit v2)) = (0 : Int64) then
            (fX5_needed_53 μ n) v0 v1 v2 (v3 + (1 : Int32)) v4 (v6 + (1 : Int32))
          else
            (fX5_needed_53 μ n) v0 v1 v2 v3 v4 (v6 + (1 : Int32))
      else
        if (1 : Int32) = 0 then
          (fX5_needed_53 μ n) v0 v1 v2 v3 v4 (v6 + (1 : Int32))
        else
          (fX5_flood v0 (fX10_bit v1) ((μ.2.2.1 v0 1) &&& ((fX10_bit v6) ^^^ (-1 : Int64))) μ).bind fun r24 =>
          if (r24 &&& (fX10_bit v2)) = (0 : Int64) then
            (fX5_needed_53 μ n) v0 v1 v2 (v3 + (1 : Int32)) v4 (v6 + (1 : Int32))
          else
            (fX5_needed_53 μ n) v0 v1 v2 v3 v4 (v6 + (1 : Int32))
    else
      some v3
set_option maxHeartbeats 4000000 in
theorem tX5_needed_53 {ω : Wd} {l : Launch} (d : Nat) {μ : Mem} (hN : μ.1 = NN) {res : Int32} : ∀ n : Nat, ∀ (v0 : Nat) (v1 : Int32) (v2 : Int32) (v3 : Int32) (v4 : Int64) (v6 : Int32), fX5_needed_53 μ n v0 v1 v2 v3 v4 v6 = some res → (kd v0).1 = 15 → J ω l mX5_needed (d + 2) 53 [(0, .ref v0), (1, .int v1), (2, .int v2), (3, .int v3), (4, .long v4), (6, .int v6)] [] μ 0 0 (PE (.inl (some (.int res))) μ True) := by
  intro n
  induction n with
  | zero =>
    intro v0 v1 v2 v3 v4 v6 h k0
    have h9 : (none : Option (Int32)) = some res := h
    cases h9
  | succ n ih =>
    intro v0 v1 v2 v3 v4 v6 h k0
    unfold fX5_needed_53 at h
    refine J.iload (pc := 53) dX5_needed_53 5 rfl ?_
    refine J.bipush (pc := 55) dX5_needed_55 ib_48 ?_
    rcases ifc h with ⟨hc, h⟩ | ⟨hc, h⟩
    · refine J.cge (pc := 57) (tgt := 126) dX5_needed_57 (by decide) (fun _ => ?_) (fun q => absurd hc q)
      refine J.lload (pc := 60) dX5_needed_60 4 rfl ?_
      refine J.iload (pc := 62) dX5_needed_62 5 rfl ?_
      refine J.callSN (Y := mX5_needed) (Z := mX10_bit) (pc := 64) (st := [.long v4]) (k2 := 0) (n2 := 0) dX5_needed_64 ml_RX5_40 mo_X10_bit ms_X10_bit rfl (tX10_bit (d + 1) v6 μ hN ) (fun i ν hp => nrm hp.1) rfl rfl (Nat.le_of_ble_eq_true rfl) (by decide) (by decide) (fun v ν hp => ?_)
      obtain ⟨rfl, rfl, hN2, hb3⟩ := QEl hp
      show J _ _ _ _ 67 _ ([.long (fX10_bit v6), .long v4]) _ _ _ _
      refine J.land (pc := 67) dX5_needed_67 ?_
      refine J.lconst (pc := 68) dX5_needed_68 lc_0 ?_
      rcases ifc h with ⟨hc, h⟩ | ⟨hc, h⟩
      · refine J.meq (pc := 69) (tgt := 77) dX5_needed_69 dX5_needed_70 (by decide) (fun _ => ?_) (fun q => absurd hc q)
        refine J.iconst (pc := 77) dX5_needed_77 ic_0 ?_
        refine J.istore (pc := 78) ([(7, .int (0 : Int32)), (0, .ref v0), (1, .int v1), (2, .int v2), (3, .int v3), (4, .long v4), (6, .int v6)]) dX5_needed_78 (Nat.le_of_ble_eq_true rfl) rfl ?_
        refine J.iload (pc := 80) dX5_needed_80 0 rfl ?_
        rcases ifc h with ⟨hc, h⟩ | ⟨hc, h⟩
        · refine J.zeq (pc := 82) (tgt := 120) dX5_needed_82 (by decide) (fun _ => ?_) (fun q => absurd hc q)
          refine J.iinc (pc := 120) (j := 6) ([(6, .int (v6 + (1 : Int32))), (7, .int (0 : Int32)), (0, .ref v0), (1, .int v1), (2, .int v2), (3, .int v3), (4, .long v4)]) dX5_needed_120 rfl (iincv ic_1) (Nat.le_of_ble_eq_true rfl) rfl ?_
          refine J.goto (pc := 123) (tgt := 53) dX5_needed_123 (by decide) ?_
          refine J.pick [2, 3, 4, 5, 6, 0] rfl ?_
          exact ih v0 v1 v2 v3 v4 (v6 + (1 : Int32)) h k0
        · refine J.zeq (pc := 82) (tgt := 120) dX5_needed_82 (by decide) (fun q => absurd q hc) (fun _ => ?_)
          refine J.aload_n (pc := 85) dX5_needed_85 rfl 1 rfl ?_
          refine J.iload_n (pc := 86) dX5_needed_86 rfl 2 rfl ?_
          refine J.callSN (Y := mX5_needed) (Z := mX10_bit) (pc := 87) (st := [.ref v0]) (k2 := 0) (n2 := 0) dX5_needed_87 ml_RX5_40 mo_X10_bit ms_X10_bit rfl (tX10_bit (d + 1) v1 μ hN2 ) (fun i ν hp => nrm hp.1) rfl rfl (Nat.le_of_ble_eq_true rfl) (by decide) (by decide) (fun v ν hp => ?_)
          obtain ⟨rfl, rfl, hN5, hb6⟩ := QEl hp
          show J _ _ _ _ 90 _ ([.long (fX10_bit v1), .ref v0]) _ _ _ _
          refine J.aload_n (pc := 90) dX5_needed_90 rfl 1 rfl ?_
          refine J.fL (pc := 91) dX5_needed_91 fl_RX5_15 k0 (okN hN5 k0 (by decide)) rfl ?_
          refine J.iload (pc := 94) dX5_needed_94 6 rfl ?_
          refine J.callSN (Y := mX5_needed) (Z := mX10_bit) (pc := 96) (st := [.long (μ.2.2.1 v0 1), .long (fX10_bit v1), .ref v0]) (k2 := 0) (n2 := 0) dX5_needed_96 ml_RX5_40 mo_X10_bit ms_X10_bit rfl (tX10_bit (d + 1) v6 μ hN5 ) (fun i ν hp => nrm hp.1) rfl rfl (Nat.le_of_ble_eq_true rfl) (by decide) (by decide) (fun v ν hp => ?_)
          obtain ⟨rfl, rfl, hN8, hb9⟩ := QEl hp
          show J _ _ _ _ 99 _ ([.long (fX10_bit v6), .long (μ.2.2.1 v0 1), .long (fX10_bit v1), .ref v0]) _ _ _ _
          refine J.ldc2 (pc := 99) dX5_needed_99 kl_RX5_48 ?_
          refine J.lxor (pc := 102) dX5_needed_102 ?_
          refine J.land (pc := 103) dX5_needed_103 ?_
          obtain ⟨r11, e10, h⟩ := bnd h
          refine J.callV (Y := mX5_needed) (Z := mX5_flood) (pc := 104) (st := []) (k2 := 0) (n2 := 0) dX5_needed_104 ml_RX5_54 mo_X5_flood mv_X5_flood rfl (tX5_flood d e10 hN8 k0) k0 (okN hN8 k0 (by decide)).1 (okN hN8 k0 (by decide)).2 cq_5 (by decide) rfl rfl (Nat.le_of_ble_eq_true rfl) (by decide) (by decide) (fun v ν hp => ?_) (fun i ν hp => nrm hp.1)
          obtain ⟨rfl, rfl, hN12, hb13⟩ := QEl hp
          show J _ _ _ _ 107 _ ([.long r11]) _ _ _ _
          refine J.iload_n (pc := 107) dX5_needed_107 rfl 3 rfl ?_
          refine J.callSN (Y := mX5_needed) (Z := mX10_bit) (pc := 108) (st := [.long r11]) (k2 := 0) (n2 := 0) dX5_needed_108 ml_RX5_40 mo_X10_bit ms_X10_bit rfl (tX10_bit (d + 1) v2 μ hN12 ) (fun i ν hp => nrm hp.1) rfl rfl (Nat.le_of_ble_eq_true rfl) (by decide) (by decide) (fun v ν hp => ?_)
          obtain ⟨rfl, rfl, hN15, hb16⟩ := QEl hp
          show J _ _ _ _ 111 _ ([.long (fX10_bit v2), .long r11]) _ _ _ _
          refine J.land (pc := 111) dX5_needed_111 ?_
          refine J.lconst (pc := 112) dX5_needed_112 lc_0 ?_
          rcases ifc h with ⟨hc, h⟩ | ⟨hc, h⟩
          · refine J.mne (pc := 113) (tgt := 120) dX5_needed_113 dX5_needed_114 (by decide) (fun _ => ?_) (fun q => absurd hc q)
            refine J.iinc (pc := 117) (j := 4) ([(3, .int (v3 + (1 : Int32))), (7, .int (0 : Int32)), (0, .ref v0), (1, .int v1), (2, .int v2), (4, .long v4), (6, .int v6)]) dX5_needed_117 rfl (iincv ic_1) (Nat.le_of_ble_eq_true rfl) rfl ?_
            refine J.iinc (pc := 120) (j := 6) ([(6, .int (v6 + (1 : Int32))), (3, .int (v3 + (1 : Int32))), (7, .int (0 : Int32)), (0, .ref v0), (1, .int v1), (2, .int v2), (4, .long v4)]) dX5_needed_120 rfl (iincv ic_1) (Nat.le_of_ble_eq_true rfl) rfl ?_
            refine J.goto (pc := 123) (tgt := 53) dX5_needed_123 (by decide) ?_
            refine J.pick [3, 4, 5, 1, 6, 0] rfl ?_
            exact ih v0 v1 v2 (v3 + (1 : Int32)) v4 (v6 + (1 : Int32)) h k0
          · refine J.mne (pc := 113) (tgt := 120) dX5_needed_113 dX5_needed_114 (by decide) (fun q => absurd q hc) (fun _ => ?_)
            refine J.iinc (pc := 120) (j := 6) ([(6, .int (v6 + (1 : Int32))), (7, .int (0 : Int32)), (0, .ref v0), (1, .int v1), (2, .int v2), (3, .int v3), (4, .long v4)]) dX5_needed_120 rfl (iincv ic_1) (Nat.le_of_ble_eq_true rfl) rfl ?_
            refine J.goto (pc := 123) (tgt := 53) dX5_needed_123 (by decide) ?_
            refine J.pick [2, 3, 4, 5, 6, 0] rfl ?_
            exact ih v0 v1 v2 v3 v4 (v6 + (1 : Int32)) h k0
      · refine J.meq (pc := 69) (tgt := 77) dX5_needed_69 dX5_needed_70 (by decide) (fun q => absurd q hc) (fun _ => ?_)
        refine J.iconst (pc := 73) dX5_needed_73 ic_1 ?_
        refine J.goto (pc := 74) (tgt := 78) dX5_needed_74 (by decide) ?_
        refine J.istore (pc := 78) ([(7, .int (1 : Int32)), (0, .ref v0), (1, .int v1), (2, .int v2), (3, .int v3), (4, .long v4), (6, .int v6)]) dX5_needed_78 (Nat.le_of_ble_eq_true rfl) rfl ?_
        refine J.iload (pc := 80) dX5_needed_80 0 rfl ?_
        rcases ifc h with ⟨hc, h⟩ | ⟨hc, h⟩
        · refine J.zeq (pc := 82) (tgt := 120) dX5_needed_82 (by decide) (fun _ => ?_) (fun q => absurd hc q)
          refine J.iinc (pc := 120) (j := 6) ([(6, .int (v6 + (1 : Int32))), (7, .int (1 : Int32)), (0, .ref v0), (1, .int v1), (2, .int v2), (3, .int v3), (4, .long v4)]) dX5_needed_120 rfl (iincv ic_1) (Nat.le_of_ble_eq_true rfl) rfl ?_
          refine J.goto (pc := 123) (tgt := 53) dX5_needed_123 (by decide) ?_
          refine J.pick [2, 3, 4, 5, 6, 0] rfl ?_
          exact ih v0 v1 v2 v3 v4 (v6 + (1 : Int32)) h k0
        · refine J.zeq (pc := 82) (tgt := 120) dX5_needed_82 (by decide) (fun q => absurd q hc) (fun _ => ?_)
          refine J.aload_n (pc := 85) dX5_needed_85 rfl 1 rfl ?_
          refine J.iload_n (pc := 86) dX5_needed_86 rfl 2 rfl ?_
          refine J.callSN (Y := mX5_needed) (Z := mX10_bit) (pc := 87) (st := [.ref v0]) (k2 := 0) (n2 := 0) dX5_needed_87 ml_RX5_40 mo_X10_bit ms_X10_bit rfl (tX10_bit (d + 1) v1 μ hN2 ) (fun i ν hp => nrm hp.1) rfl rfl (Nat.le_of_ble_eq_true rfl) (by decide) (by decide) (fun v ν hp => ?_)
          obtain ⟨rfl, rfl, hN18, hb19⟩ := QEl hp
          show J _ _ _ _ 90 _ ([.long (fX10_bit v1), .ref v0]) _ _ _ _
          refine J.aload_n (pc := 90) dX5_needed_90 rfl 1 rfl ?_
          refine J.fL (pc := 91) dX5_needed_91 fl_RX5_15 k0 (okN hN18 k0 (by decide)) rfl ?_
          refine J.iload (pc := 94) dX5_needed_94 6 rfl ?_
          refine J.callSN (Y := mX5_needed) (Z := mX10_bit) (pc := 96) (st := [.long (μ.2.2.1 v0 1), .long (fX10_bit v1), .ref v0]) (k2 := 0) (n2 := 0) dX5_needed_96 ml_RX5_40 mo_X10_bit ms_X10_bit rfl (tX10_bit (d + 1) v6 μ hN18 ) (fun i ν hp => nrm hp.1) rfl rfl (Nat.le_of_ble_eq_true rfl) (by decide) (by decide) (fun v ν hp => ?_)
          obtain ⟨rfl, rfl, hN21, hb22⟩ := QEl hp
          show J _ _ _ _ 99 _ ([.long (fX10_bit v6), .long (μ.2.2.1 v0 1), .long (fX10_bit v1), .ref v0]) _ _ _ _
          refine J.ldc2 (pc := 99) dX5_needed_99 kl_RX5_48 ?_
          refine J.lxor (pc := 102) dX5_needed_102 ?_
          refine J.land (pc := 103) dX5_needed_103 ?_
          obtain ⟨r24, e23, h⟩ := bnd h
          refine J.callV (Y := mX5_needed) (Z := mX5_flood) (pc := 104) (st := []) (k2 := 0) (n2 := 0) dX5_needed_104 ml_RX5_54 mo_X5_flood mv_X5_flood rfl (tX5_flood d e23 hN21 k0) k0 (okN hN21 k0 (by decide)).1 (okN hN21 k0 (by decide)).2 cq_5 (by decide) rfl rfl (Nat.le_of_ble_eq_true rfl) (by decide) (by decide) (fun v ν hp => ?_) (fun i ν hp => nrm hp.1)
          obtain ⟨rfl, rfl, hN25, hb26⟩ := QEl hp
          show J _ _ _ _ 107 _ ([.long r24]) _ _ _ _
          refine J.iload_n (pc := 107) dX5_needed_107 rfl 3 rfl ?_
          refine J.callSN (Y := mX5_needed) (Z := mX10_bit) (pc := 108) (st := [.long r24]) (k2 := 0) (n2 := 0) dX5_needed_108 ml_RX5_40 mo_X10_bit ms_X10_bit rfl (tX10_bit (d + 1) v2 μ hN25 ) (fun i ν hp => nrm hp.1) rfl rfl (Nat.le_of_ble_eq_true rfl) (by decide) (by decide) (fun v ν hp => ?_)
          obtain ⟨rfl, rfl, hN28, hb29⟩ := QEl hp
          show J _ _ _ _ 111 _ ([.long (fX10_bit v2), .long r24]) _ _ _ _
          refine J.land (pc := 111) dX5_needed_111 ?_
          refine J.lconst (pc := 112) dX5_needed_112 lc_0 ?_
          rcases ifc h with ⟨hc, h⟩ | ⟨hc, h⟩
          · refine J.mne (pc := 113) (tgt := 120) dX5_needed_113 dX5_needed_114 (by decide) (fun _ => ?_) (fun q => absurd hc q)
            refine J.iinc (pc := 117) (j := 4) ([(3, .int (v3 + (1 : Int32))), (7, .int (1 : Int32)), (0, .ref v0), (1, .int v1), (2, .int v2), (4, .long v4), (6, .int v6)]) dX5_needed_117 rfl (iincv ic_1) (Nat.le_of_ble_eq_true rfl) rfl ?_
            refine J.iinc (pc := 120) (j := 6) ([(6, .int (v6 + (1 : Int32))), (3, .int (v3 + (1 : Int32))), (7, .int (1 : Int32)), (0, .ref v0), (1, .int v1), (2, .int v2), (4, .long v4)]) dX5_needed_120 rfl (iincv ic_1) (Nat.le_of_ble_eq_true rfl) rfl ?_
            refine J.goto (pc := 123) (tgt := 53) dX5_needed_123 (by decide) ?_
            refine J.pick [3, 4, 5, 1, 6, 0] rfl ?_
            exact ih v0 v1 v2 (v3 + (1 : Int32)) v4 (v6 + (1 : Int32)) h k0
          · refine J.mne (pc := 113) (tgt := 120) dX5_needed_113 dX5_needed_114 (by decide) (fun q => absurd q hc) (fun _ => ?_)
            refine J.iinc (pc := 120) (j := 6) ([(6, .int (v6 + (1 : Int32))), (7, .int (1 : Int32)), (0, .ref v0), (1, .int v1), (2, .int v2), (3, .int v3), (4, .long v4)]) dX5_needed_120 rfl (iincv ic_1) (Nat.le_of_ble_eq_true rfl) rfl ?_
            refine J.goto (pc := 123) (tgt := 53) dX5_needed_123 (by decide) ?_
            refine J.pick [2, 3, 4, 5, 6, 0] rfl ?_
            exact ih v0 v1 v2 v3 v4 (v6 + (1 : Int32)) h k0
    · refine J.cge (pc := 57) (tgt := 126) dX5_needed_57 (by decide) (fun q => absurd q hc) (fun _ => ?_)
      refine J.iload_n (pc := 126) dX5_needed_126 rfl 3 rfl ?_
      cases h
      exact J.iret (pc := 127) dX5_needed_127 rfl ⟨rfl, rfl, hN, trivial⟩
def fX5_needed (v0 : Nat) (v1 : Int32) (v2 : Int32) (μ : Mem) : Option (Int32) :=
  (fX5_flood v0 (fX10_bit v1) (μ.2.2.1 v0 1) μ).bind fun r5 =>
  if (r5 &&& (fX10_bit v2)) = (0 : Int64) then
    some (0 : Int32)
  else
    (fX5_needed_53 μ fuel) v0 v1 v2 (0 : Int32) (((μ.2.2.1 v0 1) &&& ((fX10_bit v1) ^^^ (-1 : Int64))) &&& ((fX10_bit v2) ^^^ (-1 : Int64))) (0 : Int32)
set_option maxHeartbeats 4000000 in
theorem tX5_needed {ω : Wd} {l : Launch} (d : Nat) {v0 : Nat} {v1 : Int32} {v2 : Int32} {μ : Mem} {res : Int32} (h : fX5_needed v0 v1 v2 μ = some res) (hN : μ.1 = NN) (k0 : (kd v0).1 = 15) : Ct ω l mX5_needed (d + 2) [.ref v0, .int v1, .int v2] μ 0 0 (PE (.inl (some (.int res))) μ True) := by
  refine Ct.of pn_RX5 (Nat.le_of_ble_eq_true rfl) ?_
  show J ω l mX5_needed (d + 2) 0 [(0, .ref v0), (1, .int v1), (2, .int v2)] [] μ 0 0 _
  unfold fX5_needed at h
  refine J.aload_n (pc := 0) dX5_needed_0 rfl 0 rfl ?_
  refine J.iload_n (pc := 1) dX5_needed_1 rfl 1 rfl ?_
  refine J.callSN (Y := mX5_needed) (Z := mX10_bit) (pc := 2) (st := [.ref v0]) (k2 := 0) (n2 := 0) dX5_needed_2 ml_RX5_40 mo_X10_bit ms_X10_bit rfl (tX10_bit (d + 1) v1 μ hN ) (fun i ν hp => nrm hp.1) rfl rfl (Nat.le_of_ble_eq_true rfl) (by decide) (by decide) (fun v ν hp => ?_)
  obtain ⟨rfl, rfl, hN2, hb3⟩ := QEl hp
  show J _ _ _ _ 5 _ ([.long (fX10_bit v1), .ref v0]) _ _ _ _
  refine J.aload_n (pc := 5) dX5_needed_5 rfl 0 rfl ?_
  refine J.fL (pc := 6) dX5_needed_6 fl_RX5_15 k0 (okN hN2 k0 (by decide)) rfl ?_
  obtain ⟨r5, e4, h⟩ := bnd h
  refine J.callV (Y := mX5_needed) (Z := mX5_flood) (pc := 9) (st := []) (k2 := 0) (n2 := 0) dX5_needed_9 ml_RX5_54 mo_X5_flood mv_X5_flood rfl (tX5_flood d e4 hN2 k0) k0 (okN hN2 k0 (by decide)).1 (okN hN2 k0 (by decide)).2 cq_5 (by decide) rfl rfl (Nat.le_of_ble_eq_true rfl) (by decide) (by decide) (fun v ν hp => ?_) (fun i ν hp => nrm hp.1)
  obtain ⟨rfl, rfl, hN6, hb7⟩ := QEl hp
  show J _ _ _ _ 12 _ ([.long r5]) _ _ _ _
  refine J.iload_n (pc := 12) dX5_needed_12 rfl 2 rfl ?_
  refine J.callSN (Y := mX5_needed) (Z := mX10_bit) (pc := 13) (st := [.long r5]) (k2 := 0) (n2 := 0) dX5_needed_13 ml_RX5_40 mo_X10_bit ms_X10_bit rfl (tX10_bit (d + 1) v2 μ hN6 ) (fun i ν hp => nrm hp.1) rfl rfl (Nat.le_of_ble_eq_true rfl) (by decide) (by decide) (fun v ν hp => ?_)
  obtain ⟨rfl, rfl, hN9, hb10⟩ := QEl hp
  show J _ _ _ _ 16 _ ([.long (fX10_bit v2), .long r5]) _ _ _ _
  refine J.land (pc := 16) dX5_needed_16 ?_
  refine J.lconst (pc := 17) dX5_needed_17 lc_0 ?_
  rcases ifc h with ⟨hc, h⟩ | ⟨hc, h⟩
  · refine J.mne (pc := 18) (tgt := 24) dX5_needed_18 dX5_needed_19 (by decide) (fun _ => ?_) (fun q => absurd hc q)
    refine J.iconst (pc := 22) dX5_needed_22 ic_0 ?_
    cases h
    exact J.iret (pc := 23) dX5_needed_23 rfl ⟨rfl, rfl, hN9, trivial⟩
  · refine J.mne (pc := 18) (tgt := 24) dX5_needed_18 dX5_needed_19 (by decide) (fun q => absurd q hc) (fun _ => ?_)
    refine J.iconst (pc := 24) dX5_needed_24 ic_0 ?_
    refine J.istore_n (pc := 25) ([(3, .int (0 : Int32)), (0, .ref v0), (1, .int v1), (2, .int v2)]) dX5_needed_25 rfl (Nat.le_of_ble_eq_true rfl) rfl ?_
    refine J.aload_n (pc := 26) dX5_needed_26 rfl 1 rfl ?_
    refine J.fL (pc := 27) dX5_needed_27 fl_RX5_15 k0 (okN hN9 k0 (by decide)) rfl ?_
    refine J.iload_n (pc := 30) dX5_needed_30 rfl 2 rfl ?_
    refine J.callSN (Y := mX5_needed) (Z := mX10_bit) (pc := 31) (st := [.long (μ.2.2.1 v0 1)]) (k2 := 0) (n2 := 0) dX5_needed_31 ml_RX5_40 mo_X10_bit ms_X10_bit rfl (tX10_bit (d + 1) v1 μ hN9 ) (fun i ν hp => nrm hp.1) rfl rfl (Nat.le_of_ble_eq_true rfl) (by decide) (by decide) (fun v ν hp => ?_)
    obtain ⟨rfl, rfl, hN12, hb13⟩ := QEl hp
    show J _ _ _ _ 34 _ ([.long (fX10_bit v1), .long (μ.2.2.1 v0 1)]) _ _ _ _
    refine J.ldc2 (pc := 34) dX5_needed_34 kl_RX5_48 ?_
    refine J.lxor (pc := 37) dX5_needed_37 ?_
    refine J.land (pc := 38) dX5_needed_38 ?_
    refine J.iload_n (pc := 39) dX5_needed_39 rfl 3 rfl ?_
    refine J.callSN (Y := mX5_needed) (Z := mX10_bit) (pc := 40) (st := [.long ((μ.2.2.1 v0 1) &&& ((fX10_bit v1) ^^^ (-1 : Int64)))]) (k2 := 0) (n2 := 0) dX5_needed_40 ml_RX5_40 mo_X10_bit ms_X10_bit rfl (tX10_bit (d + 1) v2 μ hN12 ) (fun i ν hp => nrm hp.1) rfl rfl (Nat.le_of_ble_eq_true rfl) (by decide) (by decide) (fun v ν hp => ?_)
    obtain ⟨rfl, rfl, hN15, hb16⟩ := QEl hp
    show J _ _ _ _ 43 _ ([.long (fX10_bit v2), .long ((μ.2.2.1 v0 1) &&& ((fX10_bit v1) ^^^ (-1 : Int64)))]) _ _ _ _
    refine J.ldc2 (pc := 43) dX5_needed_43 kl_RX5_48 ?_
    refine J.lxor (pc := 46) dX5_needed_46 ?_
    refine J.land (pc := 47) dX5_needed_47 ?_
    refine J.lstore (pc := 48) ([(4, .long (((μ.2.2.1 v0 1) &&& ((fX10_bit v1) ^^^ (-1 : Int64))) &&& ((fX10_bit v2) ^^^ (-1 : Int64)))), (3, .int (0 : Int32)), (0, .ref v0), (1, .int v1), (2, .int v2)]) dX5_needed_48 (Nat.le_of_ble_eq_true rfl) rfl ?_
    refine J.iconst (pc := 50) dX5_needed_50 ic_0 ?_
    refine J.istore (pc := 51) ([(6, .int (0 : Int32)), (4, .long (((μ.2.2.1 v0 1) &&& ((fX10_bit v1) ^^^ (-1 : Int64))) &&& ((fX10_bit v2) ^^^ (-1 : Int64)))), (3, .int (0 : Int32)), (0, .ref v0), (1, .int v1), (2, .int v2)]) dX5_needed_51 (Nat.le_of_ble_eq_true rfl) rfl ?_
    refine J.pick [3, 4, 5, 2, 1, 0] rfl ?_
    exact (tX5_needed_53 d hN fuel) v0 v1 v2 (0 : Int32) (((μ.2.2.1 v0 1) &&& ((fX10_bit v1) ^^^ (-1 : Int64))) &&& ((fX10_bit v2) ^^^ (-1 : Int64))) (0 : Int32) h k0
def fX10_way (v0 : Nat) (v1 : Int32) (v2 : Int32) (v3 : Int32) (μ : Mem) : Option ((Int32 ⊕ Nat) × Mem) :=
  (fX10_inside v0 v1 μ).bind fun
  | .inl r2 =>
    (fX10_inside v0 v2 μ).bind fun
    | .inl r6 =>
      (fX10_needWhat v0 v3 (4 : Int32)).bind fun
      | .inl _ =>
        if v3 = (0 : Int32) then
          (fX10_here v0 μ).bind fun (a14, μ13) =>
          (fX5_far a14 r2 r6 μ13).bind fun (r19, μ18) =>
          some (.inl r19, μ18)
        else
        if v3 = (1 : Int32) then
          (fX10_here v0 μ).bind fun (a24, μ23) =>
          (fX5_far a24 r2 r6 μ23).bind fun (r29, μ28) =>
          if 0 < r29 then
            (gR μ28 v0 15 15).bind fun a32 =>
            (fX5_stepOf a32 r2 r29 μ28).bind fun r36 =>
            some (.inl (fX10_outside r36), μ28)
          else
            some (.inl (-1 : Int32), μ28)
        else
        if v3 = (2 : Int32) then
          (fX10_here v0 μ).bind fun (a44, μ43) =>
          (fX5_fewestToClear a44 r2 r6 μ43).bind fun r48 =>
          some (.inl r48, μ43)
        else
        (fX10_here v0 μ).bind fun (a53, μ52) =>
        (fX5_needed a53 r2 r6 μ52).bind fun r57 =>
        some (.inl r57, μ52)
      | .inr i60 =>
        some (.inr i60, μ)
    | .inr i61 =>
      some (.inr i61, μ)
  | .inr i62 =>
    some (.inr i62, μ)
set_option maxHeartbeats 4000000 in
theorem tX10_way {ω : Wd} {l : Launch} (d : Nat) {v0 : Nat} {v1 : Int32} {v2 : Int32} {v3 : Int32} {μ : Mem} {res : (Int32 ⊕ Nat) × Mem} (h : fX10_way v0 v1 v2 v3 μ = some res) (hN : μ.1 = NN) (k0 : (kd v0).1 = 20) : Ct ω l mX10_way (d + 9) [.ref v0, .int v1, .int v2, .int v3] μ 3 18 (PE (oI res.1) res.2 True) := by
  refine Ct.of pn_RX10 (Nat.le_of_ble_eq_true rfl) ?_
  show J ω l mX10_way (d + 9) 0 [(0, .ref v0), (1, .int v1), (2, .int v2), (3, .int v3)] [] μ 3 18 _
  unfold fX10_way at h
  refine J.aload_n (pc := 0) dX10_way_0 rfl 0 rfl ?_
  refine J.iload_n (pc := 1) dX10_way_1 rfl 1 rfl ?_
  obtain ⟨q, e1, h⟩ := bnd h
  rcases q with r2 | i62
  · try dsimp only at h
    refine J.callV (Y := mX10_way) (Z := mX10_inside) (pc := 2) (st := []) (k2 := 2) (n2 := 12) dX10_way_2 ml_RX10_233 mo_X10_inside mv_X10_inside rfl (tX10_inside d e1 hN k0) k0 (okN hN k0 (by decide)).1 (okN hN k0 (by decide)).2 cq_10 (by decide) rfl rfl (Nat.le_of_ble_eq_true rfl) (by decide) (by decide) (fun v ν hp => ?_) (fun i ν hp => nrm hp.1)
    obtain ⟨rfl, rfl, hN3, hb4⟩ := QEl hp
    show J _ _ _ _ 5 _ ([.int r2]) _ _ _ _
    refine J.istore (pc := 5) ([(4, .int r2), (0, .ref v0), (1, .int v1), (2, .int v2), (3, .int v3)]) dX10_way_5 (Nat.le_of_ble_eq_true rfl) rfl ?_
    refine J.aload_n (pc := 7) dX10_way_7 rfl 1 rfl ?_
    refine J.iload_n (pc := 8) dX10_way_8 rfl 3 rfl ?_
    obtain ⟨q, e5, h⟩ := bnd h
    rcases q with r6 | i61
    · try dsimp only at h
      refine J.callV (Y := mX10_way) (Z := mX10_inside) (pc := 9) (st := []) (k2 := 1) (n2 := 6) dX10_way_9 ml_RX10_233 mo_X10_inside mv_X10_inside rfl (tX10_inside d e5 hN3 k0) k0 (okN hN3 k0 (by decide)).1 (okN hN3 k0 (by decide)).2 cq_10 (by decide) rfl rfl (Nat.le_of_ble_eq_true rfl) (by decide) (by decide) (fun v ν hp => ?_) (fun i ν hp => nrm hp.1)
      obtain ⟨rfl, rfl, hN7, hb8⟩ := QEl hp
      show J _ _ _ _ 12 _ ([.int r6]) _ _ _ _
      refine J.istore (pc := 12) ([(5, .int r6), (4, .int r2), (0, .ref v0), (1, .int v1), (2, .int v2), (3, .int v3)]) dX10_way_12 (Nat.le_of_ble_eq_true rfl) rfl ?_
      refine J.aload_n (pc := 14) dX10_way_14 rfl 2 rfl ?_
      refine J.iload_n (pc := 15) dX10_way_15 rfl 5 rfl ?_
      refine J.iconst (pc := 16) dX10_way_16 ic_4 ?_
      obtain ⟨q, e9, h⟩ := bnd h
      rcases q with u | i60
      · try dsimp only at h
        refine J.callV (Y := mX10_way) (Z := mX10_needWhat) (pc := 17) (st := []) (k2 := 0) (n2 := 0) dX10_way_17 ml_RX10_140 mo_X10_needWhat mv_X10_needWhat rfl (tX10_needWhat d e9 hN7 k0) k0 (okN hN7 k0 (by decide)).1 (okN hN7 k0 (by decide)).2 cq_10 (by decide) rfl rfl (Nat.le_of_ble_eq_true rfl) (by decide) (by decide) (fun v ν hp => ?_) (fun i ν hp => nrm hp.1)
        obtain ⟨rfl, rfl, hN10, hb11⟩ := QEl hp
        show J _ _ _ _ 20 _ ([]) _ _ _ _
        refine J.iload_n (pc := 20) dX10_way_20 rfl 5 rfl ?_
        rcases ifc h with ⟨hc, h⟩ | ⟨ns63, h⟩
        · refine J.tableIn (pc := 21) (off := 27) (tgt := 48) dX10_way_21 (by rw [hc]; decide) (by rw [hc]; decide) (by rw [hc]; decide) (by decide) ?_
          refine J.aload_n (pc := 48) dX10_way_48 rfl 2 rfl ?_
          obtain ⟨⟨a14, μ13⟩, e12, h⟩ := bnd h
          try dsimp only at h
          refine J.callV (Y := mX10_way) (Z := mX10_here) (pc := 49) (st := []) (k2 := 0) (n2 := 0) dX10_way_49 ml_RX10_153 mo_X10_here mv_X10_here rfl (tX10_here (d + 7) e12 hN10 k0) k0 (okN hN10 k0 (by decide)).1 (okN hN10 k0 (by decide)).2 cq_10 (by decide) rfl rfl (Nat.le_of_ble_eq_true rfl) (by decide) (by decide) (fun v ν hp => ?_) (fun i ν hp => nrm hp.1)
          obtain ⟨rfl, rfl, hN15, hb16⟩ := QEl hp
          show J _ _ _ _ 52 _ ([.ref a14]) _ _ _ _
          refine J.iload (pc := 52) dX10_way_52 1 rfl ?_
          refine J.iload (pc := 54) dX10_way_54 0 rfl ?_
          obtain ⟨⟨r19, μ18⟩, e17, h⟩ := bnd h
          try dsimp only at h
          refine J.callV (Y := mX10_way) (Z := mX5_far) (pc := 56) (st := []) (k2 := 0) (n2 := 0) dX10_way_56 ml_RX10_226 mo_X5_far mv_X5_far rfl (tX5_far (d + 7) e17 hN15 hb16) hb16 (okN hN15 hb16 (by decide)).1 (okN hN15 hb16 (by decide)).2 cq_5 (by decide) rfl rfl (Nat.le_of_ble_eq_true rfl) (by decide) (by decide) (fun v ν hp => ?_) (fun i ν hp => nrm hp.1)
          obtain ⟨rfl, rfl, hN20, hb21⟩ := QEl hp
          show J _ _ _ _ 59 _ ([.int r19]) _ _ _ _
          cases h
          exact J.iret (pc := 59) dX10_way_59 rfl ⟨rfl, rfl, hN20, trivial⟩
        rcases ifc h with ⟨hc, h⟩ | ⟨ns64, h⟩
        · refine J.tableIn (pc := 21) (off := 39) (tgt := 60) dX10_way_21 (by rw [hc]; decide) (by rw [hc]; decide) (by rw [hc]; decide) (by decide) ?_
          refine J.aload_n (pc := 60) dX10_way_60 rfl 2 rfl ?_
          obtain ⟨⟨a24, μ23⟩, e22, h⟩ := bnd h
          try dsimp only at h
          refine J.callV (Y := mX10_way) (Z := mX10_here) (pc := 61) (st := []) (k2 := 0) (n2 := 0) dX10_way_61 ml_RX10_153 mo_X10_here mv_X10_here rfl (tX10_here (d + 7) e22 hN10 k0) k0 (okN hN10 k0 (by decide)).1 (okN hN10 k0 (by decide)).2 cq_10 (by decide) rfl rfl (Nat.le_of_ble_eq_true rfl) (by decide) (by decide) (fun v ν hp => ?_) (fun i ν hp => nrm hp.1)
          obtain ⟨rfl, rfl, hN25, hb26⟩ := QEl hp
          show J _ _ _ _ 64 _ ([.ref a24]) _ _ _ _
          refine J.iload (pc := 64) dX10_way_64 1 rfl ?_
          refine J.iload (pc := 66) dX10_way_66 0 rfl ?_
          obtain ⟨⟨r29, μ28⟩, e27, h⟩ := bnd h
          try dsimp only at h
          refine J.callV (Y := mX10_way) (Z := mX5_far) (pc := 68) (st := []) (k2 := 0) (n2 := 0) dX10_way_68 ml_RX10_226 mo_X5_far mv_X5_far rfl (tX5_far (d + 7) e27 hN25 hb26) hb26 (okN hN25 hb26 (by decide)).1 (okN hN25 hb26 (by decide)).2 cq_5 (by decide) rfl rfl (Nat.le_of_ble_eq_true rfl) (by decide) (by decide) (fun v ν hp => ?_) (fun i ν hp => nrm hp.1)
          obtain ⟨rfl, rfl, hN30, hb31⟩ := QEl hp
          show J _ _ _ _ 71 _ ([.int r29]) _ _ _ _
          refine J.istore (pc := 71) ([(6, .int r29), (5, .int r6), (4, .int r2), (0, .ref v0), (1, .int v1), (2, .int v2), (3, .int v3)]) dX10_way_71 (Nat.le_of_ble_eq_true rfl) rfl ?_
          refine J.iload (pc := 73) dX10_way_73 0 rfl ?_
          rcases ifc h with ⟨hc, h⟩ | ⟨hc, h⟩
          · refine J.zle (pc := 75) (tgt := 95) dX10_way_75 (by decide) (fun _ => ?_) (fun q => absurd hc q)
            refine J.aload_n (pc := 78) dX10_way_78 rfl 3 rfl ?_
            obtain ⟨a32, e33, h⟩ := bnd h
            have k34 : (kd a32).1 = 15 := gR_k e33
            refine J.fR (pc := 79) dX10_way_79 fl_RX10_86 k0 (okN hN30 k0 (by decide)) rfl e33 ?_
            refine J.iload (pc := 82) dX10_way_82 2 rfl ?_
            refine J.iload (pc := 84) dX10_way_84 0 rfl ?_
            obtain ⟨r36, e35, h⟩ := bnd h
            refine J.callV (Y := mX10_way) (Z := mX5_stepOf) (pc := 86) (st := []) (k2 := 0) (n2 := 0) dX10_way_86 ml_RX10_290 mo_X5_stepOf mv_X5_stepOf rfl (tX5_stepOf (d + 6) e35 hN30 k34) k34 (okN hN30 k34 (by decide)).1 (okN hN30 k34 (by decide)).2 cq_5 (by decide) rfl rfl (Nat.le_of_ble_eq_true rfl) (by decide) (by decide) (fun v ν hp => ?_) (fun i ν hp => nrm hp.1)
            obtain ⟨rfl, rfl, hN37, hb38⟩ := QEl hp
            show J _ _ _ _ 89 _ ([.int r36]) _ _ _ _
            refine J.callS (Y := mX10_way) (Z := mX10_outside) (pc := 89) (st := []) (k2 := 0) (n2 := 0) dX10_way_89 ml_RX10_214 mo_X10_outside ms_X10_outside rfl (tX10_outside (d + 8) r36 μ28 hN37 ) rfl rfl (Nat.le_of_ble_eq_true rfl) (by decide) (by decide) (fun v ν hp => ?_) (fun i ν hp => nrm hp.1)
            obtain ⟨rfl, rfl, hN40, hb41⟩ := QEl hp
            show J _ _ _ _ 92 _ ([.int (fX10_outside r36)]) _ _ _ _
            refine J.goto (pc := 92) (tgt := 96) dX10_way_92 (by decide) ?_
            cases h
            exact J.iret (pc := 96) dX10_way_96 rfl ⟨rfl, rfl, hN40, trivial⟩
          · refine J.zle (pc := 75) (tgt := 95) dX10_way_75 (by decide) (fun q => absurd q hc) (fun _ => ?_)
            refine J.iconst (pc := 95) dX10_way_95 ic_m1 ?_
            cases h
            exact J.iret (pc := 96) dX10_way_96 rfl ⟨rfl, rfl, hN30, trivial⟩
        rcases ifc h with ⟨hc, h⟩ | ⟨ns65, h⟩
        · refine J.tableIn (pc := 21) (off := 76) (tgt := 97) dX10_way_21 (by rw [hc]; decide) (by rw [hc]; decide) (by rw [hc]; decide) (by decide) ?_
          refine J.aload_n (pc := 97) dX10_way_97 rfl 2 rfl ?_
          obtain ⟨⟨a44, μ43⟩, e42, h⟩ := bnd h
          try dsimp only at h
          refine J.callV (Y := mX10_way) (Z := mX10_here) (pc := 98) (st := []) (k2 := 0) (n2 := 0) dX10_way_98 ml_RX10_153 mo_X10_here mv_X10_here rfl (tX10_here (d + 7) e42 hN10 k0) k0 (okN hN10 k0 (by decide)).1 (okN hN10 k0 (by decide)).2 cq_10 (by decide) rfl rfl (Nat.le_of_ble_eq_true rfl) (by decide) (by decide) (fun v ν hp => ?_) (fun i ν hp => nrm hp.1)
          obtain ⟨rfl, rfl, hN45, hb46⟩ := QEl hp
          show J _ _ _ _ 101 _ ([.ref a44]) _ _ _ _
          refine J.iload (pc := 101) dX10_way_101 1 rfl ?_
          refine J.iload (pc := 103) dX10_way_103 0 rfl ?_
          obtain ⟨r48, e47, h⟩ := bnd h
          refine J.callV (Y := mX10_way) (Z := mX5_fewestToClear) (pc := 105) (st := []) (k2 := 0) (n2 := 0) dX10_way_105 ml_RX10_293 mo_X5_fewestToClear mv_X5_fewestToClear rfl (tX5_fewestToClear (d + 6) e47 hN45 hb46) hb46 (okN hN45 hb46 (by decide)).1 (okN hN45 hb46 (by decide)).2 cq_5 (by decide) rfl rfl (Nat.le_of_ble_eq_true rfl) (by decide) (by decide) (fun v ν hp => ?_) (fun i ν hp => nrm hp.1)
          obtain ⟨rfl, rfl, hN49, hb50⟩ := QEl hp
          show J _ _ _ _ 108 _ ([.int r48]) _ _ _ _
          cases h
          exact J.iret (pc := 108) dX10_way_108 rfl ⟨rfl, rfl, hN49, trivial⟩
        refine J.tableOut (pc := 21) (tgt := 109) dX10_way_21 (sw_out (vs := [(0 : Int32), (1 : Int32), (2 : Int32)]) (List.forall_mem_cons.mpr ⟨ns63, (List.forall_mem_cons.mpr ⟨ns64, (List.forall_mem_cons.mpr ⟨ns65, (fun _ q => nomatch q)⟩)⟩)⟩) (sw_hv (by decide))) (by decide) ?_
        refine J.aload_n (pc := 109) dX10_way_109 rfl 2 rfl ?_
        obtain ⟨⟨a53, μ52⟩, e51, h⟩ := bnd h
        try dsimp only at h
        refine J.callV (Y := mX10_way) (Z := mX10_here) (pc := 110) (st := []) (k2 := 0) (n2 := 0) dX10_way_110 ml_RX10_153 mo_X10_here mv_X10_here rfl (tX10_here (d + 7) e51 hN10 k0) k0 (okN hN10 k0 (by decide)).1 (okN hN10 k0 (by decide)).2 cq_10 (by decide) rfl rfl (Nat.le_of_ble_eq_true rfl) (by decide) (by decide) (fun v ν hp => ?_) (fun i ν hp => nrm hp.1)
        obtain ⟨rfl, rfl, hN54, hb55⟩ := QEl hp
        show J _ _ _ _ 113 _ ([.ref a53]) _ _ _ _
        refine J.iload (pc := 113) dX10_way_113 1 rfl ?_
        refine J.iload (pc := 115) dX10_way_115 0 rfl ?_
        obtain ⟨r57, e56, h⟩ := bnd h
        refine J.callV (Y := mX10_way) (Z := mX5_needed) (pc := 117) (st := []) (k2 := 0) (n2 := 0) dX10_way_117 ml_RX10_296 mo_X5_needed mv_X5_needed rfl (tX5_needed (d + 6) e56 hN54 hb55) hb55 (okN hN54 hb55 (by decide)).1 (okN hN54 hb55 (by decide)).2 cq_5 (by decide) rfl rfl (Nat.le_of_ble_eq_true rfl) (by decide) (by decide) (fun v ν hp => ?_) (fun i ν hp => nrm hp.1)
        obtain ⟨rfl, rfl, hN58, hb59⟩ := QEl hp
        show J _ _ _ _ 120 _ ([.int r57]) _ _ _ _
        cases h
        exact J.iret (pc := 120) dX10_way_120 rfl ⟨rfl, rfl, hN58, trivial⟩
      · try dsimp only at h
        refine J.callV (Y := mX10_way) (Z := mX10_needWhat) (pc := 17) (st := []) (k2 := 0) (n2 := 0) dX10_way_17 ml_RX10_140 mo_X10_needWhat mv_X10_needWhat rfl (tX10_needWhat d e9 hN7 k0) k0 (okN hN7 k0 (by decide)).1 (okN hN7 k0 (by decide)).2 cq_10 (by decide) rfl rfl (Nat.le_of_ble_eq_true rfl) (by decide) (by decide) (fun v ν hp => nlm hp.1) (fun i ν hp => ?_)
        obtain ⟨rfl, rfl, hN9, -⟩ := QEr hp
        cases h
        exact JX.out rfl ⟨rfl, rfl, hN9, trivial⟩
    · try dsimp only at h
      refine J.callV (Y := mX10_way) (Z := mX10_inside) (pc := 9) (st := []) (k2 := 1) (n2 := 6) dX10_way_9 ml_RX10_233 mo_X10_inside mv_X10_inside rfl (tX10_inside d e5 hN3 k0) k0 (okN hN3 k0 (by decide)).1 (okN hN3 k0 (by decide)).2 cq_10 (by decide) rfl rfl (Nat.le_of_ble_eq_true rfl) (by decide) (by decide) (fun v ν hp => nlm hp.1) (fun i ν hp => ?_)
      obtain ⟨rfl, rfl, hN9, -⟩ := QEr hp
      cases h
      exact JX.out rfl ⟨rfl, rfl, hN9, trivial⟩
  · try dsimp only at h
    refine J.callV (Y := mX10_way) (Z := mX10_inside) (pc := 2) (st := []) (k2 := 2) (n2 := 12) dX10_way_2 ml_RX10_233 mo_X10_inside mv_X10_inside rfl (tX10_inside d e1 hN k0) k0 (okN hN k0 (by decide)).1 (okN hN k0 (by decide)).2 cq_10 (by decide) rfl rfl (Nat.le_of_ble_eq_true rfl) (by decide) (by decide) (fun v ν hp => nlm hp.1) (fun i ν hp => ?_)
    obtain ⟨rfl, rfl, hN9, -⟩ := QEr hp
    cases h
    exact JX.out rfl ⟨rfl, rfl, hN9, trivial⟩
def fL_way (v0 : Nat) (v1 : Int32) (v2 : Int32) (v3 : Int32) (v4 : Nat) (μ : Mem) : Option (Int32 × Mem) :=
  (fX10_way v0 v1 v2 v3 μ).bind fun
  | (.inl r3, μ2) =>
    (stL μ2 v4 (0 : Int32) (r3.toInt64)).bind fun μ6 =>
    some ((0 : Int32), μ6)
  | (.inr i9, μ2) =>
    if i9 = 0 then some ((1 : Int32), μ2) else
    none
set_option maxHeartbeats 4000000 in
theorem tL_way {ω : Wd} {l : Launch} (d : Nat) {v0 : Nat} {v1 : Int32} {v2 : Int32} {v3 : Int32} {v4 : Nat} {μ : Mem} {res : Int32 × Mem} (h : fL_way v0 v1 v2 v3 v4 μ = some res) (hN : μ.1 = NN) (k0 : (kd v0).1 = 20) (k4 : (kd v4).1 = 1) : Ct ω l mL_way (d + 10) [.ref v0, .int v1, .int v2, .int v3, .ref v4] μ 3 18 (PE (.inl (some (.int res.1))) res.2 True) := by
  refine Ct.of pn_RL (Nat.le_of_ble_eq_true rfl) ?_
  show J ω l mL_way (d + 10) 0 [(0, .ref v0), (1, .int v1), (2, .int v2), (3, .int v3), (4, .ref v4)] [] μ 3 18 _
  unfold fL_way at h
  refine J.aload (pc := 0) dL_way_0 4 rfl ?_
  refine J.iconst (pc := 2) dL_way_2 ic_0 ?_
  refine J.aload_n (pc := 3) dL_way_3 rfl 0 rfl ?_
  refine J.iload_n (pc := 4) dL_way_4 rfl 1 rfl ?_
  refine J.iload_n (pc := 5) dL_way_5 rfl 2 rfl ?_
  refine J.iload_n (pc := 6) dL_way_6 rfl 3 rfl ?_
  obtain ⟨⟨q, μ2⟩, e1, h⟩ := bnd h
  rcases q with r3 | i9
  · try dsimp only at h
    refine J.callV (Y := mL_way) (Z := mX10_way) (pc := 7) (st := [.int (0 : Int32), .ref v4]) (k2 := 0) (n2 := 0) dL_way_7 ml_RL_59 mo_X10_way mv_X10_way rfl (tX10_way d e1 hN k0) k0 (okN hN k0 (by decide)).1 (okN hN k0 (by decide)).2 cq_10 (by decide) rfl rfl (Nat.le_of_ble_eq_true rfl) (by decide) (by decide) (fun v ν hp => ?_) (fun i ν hp => nrm hp.1)
    obtain ⟨rfl, rfl, hN4, hb5⟩ := QEl hp
    show J _ _ _ _ 10 _ ([.int r3, .int (0 : Int32), .ref v4]) _ _ _ _
    refine J.i2l (pc := 10) dL_way_10 ?_
    obtain ⟨μ6, e7, h⟩ := bnd h
    have hN8 : μ6.1 = NN := stL_N e7 hN4
    refine J.wL (pc := 11) dL_way_11 k4 (okN hN4 k4 (by decide)) e7 ?_
    refine J.goto (pc := 12) (tgt := 19) dL_way_12 (by decide) ?_
    refine J.iconst (pc := 19) dL_way_19 ic_0 ?_
    cases h
    exact J.iret (pc := 20) dL_way_20 rfl ⟨rfl, rfl, hN8, trivial⟩
  · try dsimp only at h
    refine J.callV (Y := mL_way) (Z := mX10_way) (pc := 7) (st := [.int (0 : Int32), .ref v4]) (k2 := 0) (n2 := 0) dL_way_7 ml_RL_59 mo_X10_way mv_X10_way rfl (tX10_way d e1 hN k0) k0 (okN hN k0 (by decide)).1 (okN hN k0 (by decide)).2 cq_10 (by decide) rfl rfl (Nat.le_of_ble_eq_true rfl) (by decide) (by decide) (fun v ν hp => nlm hp.1) (fun i ν hp => ?_)
    obtain ⟨rfl, rfl, hN9, -⟩ := QEr hp
    rcases ifc h with ⟨hc, h⟩ | ⟨hc, h⟩
    · subst hc
      cases h
      exact JX.catch1 (i := 0) (by decide) rfl rfl (Nat.le_of_ble_eq_true rfl) (Nat.le_of_ble_eq_true rfl) (Or.inl ⟨5, Nat.le_of_ble_eq_true rfl, rfl, dL_way_15⟩) dL_way_17 ic_1 dL_way_18 rfl ⟨rfl, rfl, hN9, trivial⟩
    cases h
