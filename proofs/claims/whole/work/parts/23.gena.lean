def fX11_standAt_5 (μ : Mem) : Nat → Nat → Int32 → Int32 → Int32 → Int32 → Option (Int32)
  | 0, _, _, _, _, _ => none
  | n + 1, v0, v1, v2, v3, v4 =>
    if v4 < (μ.2.1 v0 2) then
      (gR μ v0 34 0).bind fun a1 =>
      (ldI μ a1 ((v1 + (55 : Int32)) + v4)).bind fun x4 =>
      if x4 = v2 then
        (fX11_standAt_5 μ n) v0 v1 v2 (v3 + (1 : Int32)) (v4 + (1 : Int32))
      else
        (fX11_standAt_5 μ n) v0 v1 v2 (v3 + (0 : Int32)) (v4 + (1 : Int32))
    else
      some v3
set_option maxHeartbeats 4000000 in
theorem tX11_standAt_5 {ω : Wd} {l : Launch} (d : Nat) {μ : Mem} (hN : μ.1 = NN) {res : Int32} : ∀ n : Nat, ∀ (v0 : Nat) (v1 : Int32) (v2 : Int32) (v3 : Int32) (v4 : Int32), fX11_standAt_5 μ n v0 v1 v2 v3 v4 = some res → (kd v0).1 = 21 → J ω l mX11_standAt d 5 [(0, .ref v0), (1, .int v1), (2, .int v2), (3, .int v3), (4, .int v4)] [] μ 0 0 (PE (.inl (some (.int res))) μ True) := by
  intro n
  induction n with
  | zero =>
    intro v0 v1 v2 v3 v4 h k0
    have h9 : (none : Option (Int32)) = some res := h
    cases h9
  | succ n ih =>
    intro v0 v1 v2 v3 v4 h k0
    unfold fX11_standAt_5 at h
    refine J.iload (pc := 5) dX11_standAt_5 4 rfl ?_
    refine J.aload_n (pc := 7) dX11_standAt_7 rfl 0 rfl ?_
    refine J.fI (pc := 8) dX11_standAt_8 fl_RX11_276 k0 (okN hN k0 (by decide)) (Or.inl rfl) ?_
    rcases ifc h with ⟨hc, h⟩ | ⟨hc, h⟩
    · refine J.cge (pc := 11) (tgt := 44) dX11_standAt_11 (by decide) (fun _ => ?_) (fun q => absurd hc q)
      refine J.iload_n (pc := 14) dX11_standAt_14 rfl 3 rfl ?_
      refine J.aload_n (pc := 15) dX11_standAt_15 rfl 0 rfl ?_
      obtain ⟨a1, e2, h⟩ := bnd h
      have k3 : (kd a1).1 = 0 := gR_k e2
      refine J.fR (pc := 16) dX11_standAt_16 fl_RX11_48 k0 (okN hN k0 (by decide)) rfl e2 ?_
      refine J.iload_n (pc := 19) dX11_standAt_19 rfl 1 rfl ?_
      refine J.bipush (pc := 20) dX11_standAt_20 ib_55 ?_
      refine J.iadd (pc := 22) dX11_standAt_22 ?_
      refine J.iload (pc := 23) dX11_standAt_23 4 rfl ?_
      refine J.iadd (pc := 25) dX11_standAt_25 ?_
      obtain ⟨x4, e5, h⟩ := bnd h
      refine J.aI (pc := 26) dX11_standAt_26 k3 (okN hN k3 (by decide)) e5 ?_
      refine J.iload_n (pc := 27) dX11_standAt_27 rfl 2 rfl ?_
      rcases ifc h with ⟨hc, h⟩ | ⟨hc, h⟩
      · refine J.cne (pc := 28) (tgt := 35) dX11_standAt_28 (by decide) (fun _ => ?_) (fun q => absurd hc q)
        refine J.iconst (pc := 31) dX11_standAt_31 ic_1 ?_
        refine J.goto (pc := 32) (tgt := 36) dX11_standAt_32 (by decide) ?_
        refine J.iadd (pc := 36) dX11_standAt_36 ?_
        refine J.istore_n (pc := 37) ([(3, .int (v3 + (1 : Int32))), (0, .ref v0), (1, .int v1), (2, .int v2), (4, .int v4)]) dX11_standAt_37 rfl (Nat.le_of_ble_eq_true rfl) rfl ?_
        refine J.iinc (pc := 38) (j := 4) ([(4, .int (v4 + (1 : Int32))), (3, .int (v3 + (1 : Int32))), (0, .ref v0), (1, .int v1), (2, .int v2)]) dX11_standAt_38 rfl (iincv ic_1) (Nat.le_of_ble_eq_true rfl) rfl ?_
        refine J.goto (pc := 41) (tgt := 5) dX11_standAt_41 (by decide) ?_
        refine J.pick [2, 3, 4, 1, 0] rfl ?_
        exact ih v0 v1 v2 (v3 + (1 : Int32)) (v4 + (1 : Int32)) h k0
      · refine J.cne (pc := 28) (tgt := 35) dX11_standAt_28 (by decide) (fun q => absurd q hc) (fun _ => ?_)
        refine J.iconst (pc := 35) dX11_standAt_35 ic_0 ?_
        refine J.iadd (pc := 36) dX11_standAt_36 ?_
        refine J.istore_n (pc := 37) ([(3, .int (v3 + (0 : Int32))), (0, .ref v0), (1, .int v1), (2, .int v2), (4, .int v4)]) dX11_standAt_37 rfl (Nat.le_of_ble_eq_true rfl) rfl ?_
        refine J.iinc (pc := 38) (j := 4) ([(4, .int (v4 + (1 : Int32))), (3, .int (v3 + (0 : Int32))), (0, .ref v0), (1, .int v1), (2, .int v2)]) dX11_standAt_38 rfl (iincv ic_1) (Nat.le_of_ble_eq_true rfl) rfl ?_
        refine J.goto (pc := 41) (tgt := 5) dX11_standAt_41 (by decide) ?_
        refine J.pick [2, 3, 4, 1, 0] rfl ?_
        exact ih v0 v1 v2 (v3 + (0 : Int32)) (v4 + (1 : Int32)) h k0
    · refine J.cge (pc := 11) (tgt := 44) dX11_standAt_11 (by decide) (fun q => absurd q hc) (fun _ => ?_)
      refine J.iload_n (pc := 44) dX11_standAt_44 rfl 3 rfl ?_
      cases h
      exact J.iret (pc := 45) dX11_standAt_45 rfl ⟨rfl, rfl, hN, trivial⟩
def fX11_standAt (v0 : Nat) (v1 : Int32) (v2 : Int32) (μ : Mem) : Option (Int32) :=
  (fX11_standAt_5 μ fuel) v0 v1 v2 (0 : Int32) (0 : Int32)
set_option maxHeartbeats 4000000 in
theorem tX11_standAt {ω : Wd} {l : Launch} (d : Nat) {v0 : Nat} {v1 : Int32} {v2 : Int32} {μ : Mem} {res : Int32} (h : fX11_standAt v0 v1 v2 μ = some res) (hN : μ.1 = NN) (k0 : (kd v0).1 = 21) : Ct ω l mX11_standAt d [.ref v0, .int v1, .int v2] μ 0 0 (PE (.inl (some (.int res))) μ True) := by
  refine Ct.of pn_RX11 (Nat.le_of_ble_eq_true rfl) ?_
  show J ω l mX11_standAt d 0 [(0, .ref v0), (1, .int v1), (2, .int v2)] [] μ 0 0 _
  unfold fX11_standAt at h
  refine J.iconst (pc := 0) dX11_standAt_0 ic_0 ?_
  refine J.istore_n (pc := 1) ([(3, .int (0 : Int32)), (0, .ref v0), (1, .int v1), (2, .int v2)]) dX11_standAt_1 rfl (Nat.le_of_ble_eq_true rfl) rfl ?_
  refine J.iconst (pc := 2) dX11_standAt_2 ic_0 ?_
  refine J.istore (pc := 3) ([(4, .int (0 : Int32)), (3, .int (0 : Int32)), (0, .ref v0), (1, .int v1), (2, .int v2)]) dX11_standAt_3 (Nat.le_of_ble_eq_true rfl) rfl ?_
  refine J.pick [2, 3, 4, 1, 0] rfl ?_
  exact (tX11_standAt_5 d hN fuel) v0 v1 v2 (0 : Int32) (0 : Int32) h k0
def fX11_fadesBy (v0 : Nat) (v1 : Int32) (v2 : Int32) (μ : Mem) : Option (Int32 × Mem) :=
  if (μ.2.1 v0 4) = (-1 : Int32) then
    (gR μ v0 34 0).bind fun a1 =>
    (ldI μ a1 (v1 + (0 : Int32))).bind fun x4 =>
    if (x4 - x4 / (5 : Int32) * (5 : Int32)) = (4 : Int32) then
      some ((1 : Int32), μ)
    else
      some ((0 : Int32), μ)
  else
    (gR μ v0 37 0).bind fun a6 =>
    (gR μ v0 34 0).bind fun a9 =>
    (ldI μ a9 ((v1 + (1 : Int32)) + v2)).bind fun x12 =>
    (stI μ a6 (6 : Int32) x12).bind fun μ14 =>
    (gR μ14 v0 37 0).bind fun a17 =>
    (stI μ14 a17 (7 : Int32) (v2 - v2 / (8 : Int32) * (8 : Int32))).bind fun μ20 =>
    (gR μ20 v0 37 0).bind fun a23 =>
    (stI μ20 a23 (8 : Int32) (v2 / (8 : Int32))).bind fun μ26 =>
    (gR μ26 v0 37 0).bind fun a29 =>
    (fX11_standAt v0 v1 v2 μ26).bind fun r33 =>
    (stI μ26 a29 (4 : Int32) r33).bind fun μ36 =>
    (gR μ36 v0 37 0).bind fun a39 =>
    (gR μ36 v0 34 0).bind fun a42 =>
    (ldI μ36 a42 (v1 + (0 : Int32))).bind fun x45 =>
    (stI μ36 a39 (5 : Int32) x45).bind fun μ47 =>
    (fX11_reckons v0 (μ47.2.1 v0 4) μ47).bind fun (r52, μ51) =>
    some (r52, μ51)
set_option maxHeartbeats 4000000 in
theorem tX11_fadesBy {ω : Wd} {l : Launch} (d : Nat) {v0 : Nat} {v1 : Int32} {v2 : Int32} {μ : Mem} {res : Int32 × Mem} (h : fX11_fadesBy v0 v1 v2 μ = some res) (hN : μ.1 = NN) (k0 : (kd v0).1 = 21) : Ct ω l mX11_fadesBy (d + 2) [.ref v0, .int v1, .int v2] μ 0 0 (PE (.inl (some (.int res.1))) res.2 True) := by
  refine Ct.of pn_RX11 (Nat.le_of_ble_eq_true rfl) ?_
  show J ω l mX11_fadesBy (d + 2) 0 [(0, .ref v0), (1, .int v1), (2, .int v2)] [] μ 0 0 _
  unfold fX11_fadesBy at h
  refine J.aload_n (pc := 0) dX11_fadesBy_0 rfl 0 rfl ?_
  refine J.fI (pc := 1) dX11_fadesBy_1 fl_RX11_13 k0 (okN hN k0 (by decide)) (Or.inl rfl) ?_
  refine J.iconst (pc := 4) dX11_fadesBy_4 ic_m1 ?_
  rcases ifc h with ⟨hc, h⟩ | ⟨hc, h⟩
  · refine J.cne (pc := 5) (tgt := 28) dX11_fadesBy_5 (by decide) (fun _ => ?_) (fun q => absurd hc q)
    refine J.aload_n (pc := 8) dX11_fadesBy_8 rfl 0 rfl ?_
    obtain ⟨a1, e2, h⟩ := bnd h
    have k3 : (kd a1).1 = 0 := gR_k e2
    refine J.fR (pc := 9) dX11_fadesBy_9 fl_RX11_48 k0 (okN hN k0 (by decide)) rfl e2 ?_
    refine J.iload_n (pc := 12) dX11_fadesBy_12 rfl 1 rfl ?_
    refine J.iconst (pc := 13) dX11_fadesBy_13 ic_0 ?_
    refine J.iadd (pc := 14) dX11_fadesBy_14 ?_
    obtain ⟨x4, e5, h⟩ := bnd h
    refine J.aI (pc := 15) dX11_fadesBy_15 k3 (okN hN k3 (by decide)) e5 ?_
    refine J.iconst (pc := 16) dX11_fadesBy_16 ic_5 ?_
    refine J.irem (pc := 17) dX11_fadesBy_17 (by decide) ?_
    refine J.iconst (pc := 18) dX11_fadesBy_18 ic_4 ?_
    rcases ifc h with ⟨hc, h⟩ | ⟨hc, h⟩
    · refine J.cne (pc := 19) (tgt := 26) dX11_fadesBy_19 (by decide) (fun _ => ?_) (fun q => absurd hc q)
      refine J.iconst (pc := 22) dX11_fadesBy_22 ic_1 ?_
      refine J.goto (pc := 23) (tgt := 27) dX11_fadesBy_23 (by decide) ?_
      cases h
      exact J.iret (pc := 27) dX11_fadesBy_27 rfl ⟨rfl, rfl, hN, trivial⟩
    · refine J.cne (pc := 19) (tgt := 26) dX11_fadesBy_19 (by decide) (fun q => absurd q hc) (fun _ => ?_)
      refine J.iconst (pc := 26) dX11_fadesBy_26 ic_0 ?_
      cases h
      exact J.iret (pc := 27) dX11_fadesBy_27 rfl ⟨rfl, rfl, hN, trivial⟩
  · refine J.cne (pc := 5) (tgt := 28) dX11_fadesBy_5 (by decide) (fun q => absurd q hc) (fun _ => ?_)
    refine J.aload_n (pc := 28) dX11_fadesBy_28 rfl 0 rfl ?_
    obtain ⟨a6, e7, h⟩ := bnd h
    have k8 : (kd a6).1 = 0 := gR_k e7
    refine J.fR (pc := 29) dX11_fadesBy_29 fl_RX11_54 k0 (okN hN k0 (by decide)) rfl e7 ?_
    refine J.bipush (pc := 32) dX11_fadesBy_32 ib_6 ?_
    refine J.aload_n (pc := 34) dX11_fadesBy_34 rfl 0 rfl ?_
    obtain ⟨a9, e10, h⟩ := bnd h
    have k11 : (kd a9).1 = 0 := gR_k e10
    refine J.fR (pc := 35) dX11_fadesBy_35 fl_RX11_48 k0 (okN hN k0 (by decide)) rfl e10 ?_
    refine J.iload_n (pc := 38) dX11_fadesBy_38 rfl 1 rfl ?_
    refine J.iconst (pc := 39) dX11_fadesBy_39 ic_1 ?_
    refine J.iadd (pc := 40) dX11_fadesBy_40 ?_
    refine J.iload_n (pc := 41) dX11_fadesBy_41 rfl 2 rfl ?_
    refine J.iadd (pc := 42) dX11_fadesBy_42 ?_
    obtain ⟨x12, e13, h⟩ := bnd h
    refine J.aI (pc := 43) dX11_fadesBy_43 k11 (okN hN k11 (by decide)) e13 ?_
    obtain ⟨μ14, e15, h⟩ := bnd h
    have hN16 : μ14.1 = NN := stI_N e15 hN
    refine J.wI (pc := 44) dX11_fadesBy_44 k8 (okN hN k8 (by decide)) e15 ?_
    refine J.aload_n (pc := 45) dX11_fadesBy_45 rfl 0 rfl ?_
    obtain ⟨a17, e18, h⟩ := bnd h
    have k19 : (kd a17).1 = 0 := gR_k e18
    refine J.fR (pc := 46) dX11_fadesBy_46 fl_RX11_54 k0 (okN hN16 k0 (by decide)) rfl e18 ?_
    refine J.bipush (pc := 49) dX11_fadesBy_49 ib_7 ?_
    refine J.iload_n (pc := 51) dX11_fadesBy_51 rfl 2 rfl ?_
    refine J.bipush (pc := 52) dX11_fadesBy_52 ib_8 ?_
    refine J.irem (pc := 54) dX11_fadesBy_54 (by decide) ?_
    obtain ⟨μ20, e21, h⟩ := bnd h
    have hN22 : μ20.1 = NN := stI_N e21 hN16
    refine J.wI (pc := 55) dX11_fadesBy_55 k19 (okN hN16 k19 (by decide)) e21 ?_
    refine J.aload_n (pc := 56) dX11_fadesBy_56 rfl 0 rfl ?_
    obtain ⟨a23, e24, h⟩ := bnd h
    have k25 : (kd a23).1 = 0 := gR_k e24
    refine J.fR (pc := 57) dX11_fadesBy_57 fl_RX11_54 k0 (okN hN22 k0 (by decide)) rfl e24 ?_
    refine J.bipush (pc := 60) dX11_fadesBy_60 ib_8 ?_
    refine J.iload_n (pc := 62) dX11_fadesBy_62 rfl 2 rfl ?_
    refine J.bipush (pc := 63) dX11_fadesBy_63 ib_8 ?_
    refine J.idiv (pc := 65) dX11_fadesBy_65 (by decide) ?_
    obtain ⟨μ26, e27, h⟩ := bnd h
    have hN28 : μ26.1 = NN := stI_N e27 hN22
    refine J.wI (pc := 66) dX11_fadesBy_66 k25 (okN hN22 k25 (by decide)) e27 ?_
    refine J.aload_n (pc := 67) dX11_fadesBy_67 rfl 0 rfl ?_
    obtain ⟨a29, e30, h⟩ := bnd h
    have k31 : (kd a29).1 = 0 := gR_k e30
    refine J.fR (pc := 68) dX11_fadesBy_68 fl_RX11_54 k0 (okN hN28 k0 (by decide)) rfl e30 ?_
    refine J.iconst (pc := 71) dX11_fadesBy_71 ic_4 ?_
    refine J.aload_n (pc := 72) dX11_fadesBy_72 rfl 0 rfl ?_
    refine J.iload_n (pc := 73) dX11_fadesBy_73 rfl 1 rfl ?_
    refine J.iload_n (pc := 74) dX11_fadesBy_74 rfl 2 rfl ?_
    obtain ⟨r33, e32, h⟩ := bnd h
    refine J.callV (Y := mX11_fadesBy) (Z := mX11_standAt) (pc := 75) (st := [.int (4 : Int32), .ref a29]) (k2 := 0) (n2 := 0) dX11_fadesBy_75 ml_RX11_304 mo_X11_standAt mv_X11_standAt rfl (tX11_standAt (d + 1) e32 hN28 k0) k0 (okN hN28 k0 (by decide)).1 (okN hN28 k0 (by decide)).2 cq_11 (by decide) rfl rfl (Nat.le_of_ble_eq_true rfl) (by decide) (by decide) (fun v ν hp => ?_) (fun i ν hp => nrm hp.1)
    obtain ⟨rfl, rfl, hN34, hb35⟩ := QEl hp
    show J _ _ _ _ 78 _ ([.int r33, .int (4 : Int32), .ref a29]) _ _ _ _
    obtain ⟨μ36, e37, h⟩ := bnd h
    have hN38 : μ36.1 = NN := stI_N e37 hN34
    refine J.wI (pc := 78) dX11_fadesBy_78 k31 (okN hN34 k31 (by decide)) e37 ?_
    refine J.aload_n (pc := 79) dX11_fadesBy_79 rfl 0 rfl ?_
    obtain ⟨a39, e40, h⟩ := bnd h
    have k41 : (kd a39).1 = 0 := gR_k e40
    refine J.fR (pc := 80) dX11_fadesBy_80 fl_RX11_54 k0 (okN hN38 k0 (by decide)) rfl e40 ?_
    refine J.iconst (pc := 83) dX11_fadesBy_83 ic_5 ?_
    refine J.aload_n (pc := 84) dX11_fadesBy_84 rfl 0 rfl ?_
    obtain ⟨a42, e43, h⟩ := bnd h
    have k44 : (kd a42).1 = 0 := gR_k e43
    refine J.fR (pc := 85) dX11_fadesBy_85 fl_RX11_48 k0 (okN hN38 k0 (by decide)) rfl e43 ?_
    refine J.iload_n (pc := 88) dX11_fadesBy_88 rfl 1 rfl ?_
    refine J.iconst (pc := 89) dX11_fadesBy_89 ic_0 ?_
    refine J.iadd (pc := 90) dX11_fadesBy_90 ?_
    obtain ⟨x45, e46, h⟩ := bnd h
    refine J.aI (pc := 91) dX11_fadesBy_91 k44 (okN hN38 k44 (by decide)) e46 ?_
    obtain ⟨μ47, e48, h⟩ := bnd h
    have hN49 : μ47.1 = NN := stI_N e48 hN38
    refine J.wI (pc := 92) dX11_fadesBy_92 k41 (okN hN38 k41 (by decide)) e48 ?_
    refine J.aload_n (pc := 93) dX11_fadesBy_93 rfl 0 rfl ?_
    refine J.aload_n (pc := 94) dX11_fadesBy_94 rfl 0 rfl ?_
    refine J.fI (pc := 95) dX11_fadesBy_95 fl_RX11_13 k0 (okN hN49 k0 (by decide)) (Or.inl rfl) ?_
    obtain ⟨⟨r52, μ51⟩, e50, h⟩ := bnd h
    try dsimp only at h
    refine J.callV (Y := mX11_fadesBy) (Z := mX11_reckons) (pc := 98) (st := []) (k2 := 0) (n2 := 0) dX11_fadesBy_98 ml_RX11_307 mo_X11_reckons mv_X11_reckons rfl (tX11_reckons d e50 hN49 k0) k0 (okN hN49 k0 (by decide)).1 (okN hN49 k0 (by decide)).2 cq_11 (by decide) rfl rfl (Nat.le_of_ble_eq_true rfl) (by decide) (by decide) (fun v ν hp => ?_) (fun i ν hp => nrm hp.1)
    obtain ⟨rfl, rfl, hN53, hb54⟩ := QEl hp
    show J _ _ _ _ 101 _ ([.int r52]) _ _ _ _
    cases h
    exact J.iret (pc := 101) dX11_fadesBy_101 rfl ⟨rfl, rfl, hN53, trivial⟩
def fX11_isThere (v0 : Nat) (v1 : Int32) (μ : Mem) : Option (Int32) :=
  if v1 < 0 then
    some (0 : Int32)
  else
    if (v1 / (8 : Int32)) < (μ.2.1 v0 1) then
      (gR μ v0 5 0).bind fun a1 =>
      (ldI μ a1 (v1 / (8 : Int32))).bind fun x4 =>
      if (v1 - v1 / (8 : Int32) * (8 : Int32)) < x4 then
        some (1 : Int32)
      else
        some (0 : Int32)
    else
      some (0 : Int32)
set_option maxHeartbeats 4000000 in
theorem tX11_isThere {ω : Wd} {l : Launch} (d : Nat) {v0 : Nat} {v1 : Int32} {μ : Mem} {res : Int32} (h : fX11_isThere v0 v1 μ = some res) (hN : μ.1 = NN) (k0 : (kd v0).1 = 21) : Ct ω l mX11_isThere d [.ref v0, .int v1] μ 0 0 (PE (.inl (some (.int res))) μ (isB res)) := by
  refine Ct.of pn_RX11 (Nat.le_of_ble_eq_true rfl) ?_
  show J ω l mX11_isThere d 0 [(0, .ref v0), (1, .int v1)] [] μ 0 0 _
  unfold fX11_isThere at h
  refine J.iload_n (pc := 0) dX11_isThere_0 rfl 1 rfl ?_
  rcases ifc h with ⟨hc, h⟩ | ⟨hc, h⟩
  · refine J.zlt (pc := 1) (tgt := 35) dX11_isThere_1 (by decide) (fun _ => ?_) (fun q => absurd hc q)
    refine J.iconst (pc := 35) dX11_isThere_35 ic_0 ?_
    cases h
    exact J.zret (pc := 36) dX11_isThere_36 rfl (narB (Or.inl rfl)) ⟨rfl, rfl, hN, (Or.inl rfl)⟩
  · refine J.zlt (pc := 1) (tgt := 35) dX11_isThere_1 (by decide) (fun q => absurd q hc) (fun _ => ?_)
    refine J.iload_n (pc := 4) dX11_isThere_4 rfl 1 rfl ?_
    refine J.bipush (pc := 5) dX11_isThere_5 ib_8 ?_
    refine J.idiv (pc := 7) dX11_isThere_7 (by decide) ?_
    refine J.aload_n (pc := 8) dX11_isThere_8 rfl 0 rfl ?_
    refine J.fI (pc := 9) dX11_isThere_9 fl_RX11_273 k0 (okN hN k0 (by decide)) (Or.inl rfl) ?_
    rcases ifc h with ⟨hc, h⟩ | ⟨hc, h⟩
    · refine J.cge (pc := 12) (tgt := 35) dX11_isThere_12 (by decide) (fun _ => ?_) (fun q => absurd hc q)
      refine J.iload_n (pc := 15) dX11_isThere_15 rfl 1 rfl ?_
      refine J.bipush (pc := 16) dX11_isThere_16 ib_8 ?_
      refine J.irem (pc := 18) dX11_isThere_18 (by decide) ?_
      refine J.aload_n (pc := 19) dX11_isThere_19 rfl 0 rfl ?_
      obtain ⟨a1, e2, h⟩ := bnd h
      have k3 : (kd a1).1 = 0 := gR_k e2
      refine J.fR (pc := 20) dX11_isThere_20 fl_RX11_16 k0 (okN hN k0 (by decide)) rfl e2 ?_
      refine J.iload_n (pc := 23) dX11_isThere_23 rfl 1 rfl ?_
      refine J.bipush (pc := 24) dX11_isThere_24 ib_8 ?_
      refine J.idiv (pc := 26) dX11_isThere_26 (by decide) ?_
      obtain ⟨x4, e5, h⟩ := bnd h
      refine J.aI (pc := 27) dX11_isThere_27 k3 (okN hN k3 (by decide)) e5 ?_
      rcases ifc h with ⟨hc, h⟩ | ⟨hc, h⟩
      · refine J.cge (pc := 28) (tgt := 35) dX11_isThere_28 (by decide) (fun _ => ?_) (fun q => absurd hc q)
        refine J.iconst (pc := 31) dX11_isThere_31 ic_1 ?_
        refine J.goto (pc := 32) (tgt := 36) dX11_isThere_32 (by decide) ?_
        cases h
        exact J.zret (pc := 36) dX11_isThere_36 rfl (narB (Or.inr rfl)) ⟨rfl, rfl, hN, (Or.inr rfl)⟩
      · refine J.cge (pc := 28) (tgt := 35) dX11_isThere_28 (by decide) (fun q => absurd q hc) (fun _ => ?_)
        refine J.iconst (pc := 35) dX11_isThere_35 ic_0 ?_
        cases h
        exact J.zret (pc := 36) dX11_isThere_36 rfl (narB (Or.inl rfl)) ⟨rfl, rfl, hN, (Or.inl rfl)⟩
    · refine J.cge (pc := 12) (tgt := 35) dX11_isThere_12 (by decide) (fun q => absurd q hc) (fun _ => ?_)
      refine J.iconst (pc := 35) dX11_isThere_35 ic_0 ?_
      cases h
      exact J.zret (pc := 36) dX11_isThere_36 rfl (narB (Or.inl rfl)) ⟨rfl, rfl, hN, (Or.inl rfl)⟩
def fX11_lesser (v0 : Int32) (v1 : Int32) : Int32 :=
  if v0 < v1 then
    v0
  else
    v1
set_option maxHeartbeats 4000000 in
theorem tX11_lesser {ω : Wd} {l : Launch} (d : Nat) (v0 : Int32) (v1 : Int32) (μ : Mem) (hN : μ.1 = NN) : Ct ω l mX11_lesser d [.int v0, .int v1] μ 0 0 (PE (.inl (some (.int (fX11_lesser v0 v1)))) μ True) := by
  refine Ct.of pn_RX11 (Nat.le_of_ble_eq_true rfl) ?_
  show J ω l mX11_lesser d 0 [(0, .int v0), (1, .int v1)] [] μ 0 0 _
  generalize h : fX11_lesser v0 v1 = res
  unfold fX11_lesser at h
  refine J.iload_n (pc := 0) dX11_lesser_0 rfl 0 rfl ?_
  refine J.iload_n (pc := 1) dX11_lesser_1 rfl 1 rfl ?_
  rcases ifc h with ⟨hc, h⟩ | ⟨hc, h⟩
  · refine J.cge (pc := 2) (tgt := 9) dX11_lesser_2 (by decide) (fun _ => ?_) (fun q => absurd hc q)
    refine J.iload_n (pc := 5) dX11_lesser_5 rfl 0 rfl ?_
    refine J.goto (pc := 6) (tgt := 10) dX11_lesser_6 (by decide) ?_
    cases h
    exact J.iret (pc := 10) dX11_lesser_10 rfl ⟨rfl, rfl, hN, trivial⟩
  · refine J.cge (pc := 2) (tgt := 9) dX11_lesser_2 (by decide) (fun q => absurd q hc) (fun _ => ?_)
    refine J.iload_n (pc := 9) dX11_lesser_9 rfl 1 rfl ?_
    cases h
    exact J.iret (pc := 10) dX11_lesser_10 rfl ⟨rfl, rfl, hN, trivial⟩
def fX11_isGoing (v0 : Nat) (v1 : Int32) (v2 : Int32) (v3 : Int32) (μ : Mem) : Option (Int32 × Mem) :=
  if (μ.2.1 v0 3) = (-1 : Int32) then
    some ((1 : Int32), μ)
  else
    (gR μ v0 37 0).bind fun a1 =>
    (gR μ v0 34 0).bind fun a4 =>
    (ldI μ a4 ((v1 + (73 : Int32)) + v2)).bind fun x7 =>
    (stI μ a1 (0 : Int32) x7).bind fun μ9 =>
    (gR μ9 v0 37 0).bind fun a12 =>
    (stI μ9 a12 (1 : Int32) v3).bind fun μ15 =>
    (gR μ15 v0 37 0).bind fun a18 =>
    (gR μ15 v0 39 0).bind fun a21 =>
    (gR μ15 v0 34 0).bind fun a24 =>
    (ldI μ15 a24 ((v1 + (55 : Int32)) + v2)).bind fun x27 =>
    (ldI μ15 a21 x27).bind fun x29 =>
    (stI μ15 a18 (2 : Int32) x29).bind fun μ31 =>
    (gR μ31 v0 37 0).bind fun a34 =>
    (gR μ31 v0 34 0).bind fun a37 =>
    (ldI μ31 a37 ((v1 + (67 : Int32)) + v2)).bind fun x40 =>
    (stI μ31 a34 (3 : Int32) x40).bind fun μ42 =>
    (gR μ42 v0 37 0).bind fun a45 =>
    (gR μ42 v0 34 0).bind fun a48 =>
    (ldI μ42 a48 ((v1 + (55 : Int32)) + v2)).bind fun x51 =>
    (fX11_standAt v0 v1 x51 μ42).bind fun r54 =>
    (stI μ42 a45 (4 : Int32) (r54 - (1 : Int32))).bind fun μ57 =>
    (gR μ57 v0 37 0).bind fun a60 =>
    (gR μ57 v0 34 0).bind fun a63 =>
    (ldI μ57 a63 (v1 + (0 : Int32))).bind fun x66 =>
    (stI μ57 a60 (5 : Int32) x66).bind fun μ68 =>
    (fX11_reckons v0 (μ68.2.1 v0 3) μ68).bind fun (r73, μ72) =>
    if 0 < r73 then
      some ((1 : Int32), μ72)
    else
      some ((0 : Int32), μ72)
set_option maxHeartbeats 4000000 in
theorem tX11_isGoing {ω : Wd} {l : Launch} (d : Nat) {v0 : Nat} {v1 : Int32} {v2 : Int32} {v3 : Int32} {μ : Mem} {res : Int32 × Mem} (h : fX11_isGoing v0 v1 v2 v3 μ = some res) (hN : μ.1 = NN) (k0 : (kd v0).1 = 21) : Ct ω l mX11_isGoing (d + 2) [.ref v0, .int v1, .int v2, .int v3] μ 0 0 (PE (.inl (some (.int res.1))) res.2 (isB res.1)) := by
  refine Ct.of pn_RX11 (Nat.le_of_ble_eq_true rfl) ?_
  show J ω l mX11_isGoing (d + 2) 0 [(0, .ref v0), (1, .int v1), (2, .int v2), (3, .int v3)] [] μ 0 0 _
  unfold fX11_isGoing at h
  refine J.aload_n (pc := 0) dX11_isGoing_0 rfl 0 rfl ?_
  refine J.fI (pc := 1) dX11_isGoing_1 fl_RX11_9 k0 (okN hN k0 (by decide)) (Or.inl rfl) ?_
  refine J.iconst (pc := 4) dX11_isGoing_4 ic_m1 ?_
  rcases ifc h with ⟨hc, h⟩ | ⟨hc, h⟩
  · refine J.cne (pc := 5) (tgt := 10) dX11_isGoing_5 (by decide) (fun _ => ?_) (fun q => absurd hc q)
    refine J.iconst (pc := 8) dX11_isGoing_8 ic_1 ?_
    cases h
    exact J.zret (pc := 9) dX11_isGoing_9 rfl (narB (Or.inr rfl)) ⟨rfl, rfl, hN, (Or.inr rfl)⟩
  · refine J.cne (pc := 5) (tgt := 10) dX11_isGoing_5 (by decide) (fun q => absurd q hc) (fun _ => ?_)
    refine J.aload_n (pc := 10) dX11_isGoing_10 rfl 0 rfl ?_
    obtain ⟨a1, e2, h⟩ := bnd h
    have k3 : (kd a1).1 = 0 := gR_k e2
    refine J.fR (pc := 11) dX11_isGoing_11 fl_RX11_54 k0 (okN hN k0 (by decide)) rfl e2 ?_
    refine J.iconst (pc := 14) dX11_isGoing_14 ic_0 ?_
    refine J.aload_n (pc := 15) dX11_isGoing_15 rfl 0 rfl ?_
    obtain ⟨a4, e5, h⟩ := bnd h
    have k6 : (kd a4).1 = 0 := gR_k e5
    refine J.fR (pc := 16) dX11_isGoing_16 fl_RX11_48 k0 (okN hN k0 (by decide)) rfl e5 ?_
    refine J.iload_n (pc := 19) dX11_isGoing_19 rfl 1 rfl ?_
    refine J.bipush (pc := 20) dX11_isGoing_20 ib_73 ?_
    refine J.iadd (pc := 22) dX11_isGoing_22 ?_
    refine J.iload_n (pc := 23) dX11_isGoing_23 rfl 2 rfl ?_
    refine J.iadd (pc := 24) dX11_isGoing_24 ?_
    obtain ⟨x7, e8, h⟩ := bnd h
    refine J.aI (pc := 25) dX11_isGoing_25 k6 (okN hN k6 (by decide)) e8 ?_
    obtain ⟨μ9, e10, h⟩ := bnd h
    have hN11 : μ9.1 = NN := stI_N e10 hN
    refine J.wI (pc := 26) dX11_isGoing_26 k3 (okN hN k3 (by decide)) e10 ?_
    refine J.aload_n (pc := 27) dX11_isGoing_27 rfl 0 rfl ?_
    obtain ⟨a12, e13, h⟩ := bnd h
    have k14 : (kd a12).1 = 0 := gR_k e13
    refine J.fR (pc := 28) dX11_isGoing_28 fl_RX11_54 k0 (okN hN11 k0 (by decide)) rfl e13 ?_
    refine J.iconst (pc := 31) dX11_isGoing_31 ic_1 ?_
    refine J.iload_n (pc := 32) dX11_isGoing_32 rfl 3 rfl ?_
    obtain ⟨μ15, e16, h⟩ := bnd h
    have hN17 : μ15.1 = NN := stI_N e16 hN11
    refine J.wI (pc := 33) dX11_isGoing_33 k14 (okN hN11 k14 (by decide)) e16 ?_
    refine J.aload_n (pc := 34) dX11_isGoing_34 rfl 0 rfl ?_
    obtain ⟨a18, e19, h⟩ := bnd h
    have k20 : (kd a18).1 = 0 := gR_k e19
    refine J.fR (pc := 35) dX11_isGoing_35 fl_RX11_54 k0 (okN hN17 k0 (by decide)) rfl e19 ?_
    refine J.iconst (pc := 38) dX11_isGoing_38 ic_2 ?_
    refine J.aload_n (pc := 39) dX11_isGoing_39 rfl 0 rfl ?_
    obtain ⟨a21, e22, h⟩ := bnd h
    have k23 : (kd a21).1 = 0 := gR_k e22
    refine J.fR (pc := 40) dX11_isGoing_40 fl_RX11_60 k0 (okN hN17 k0 (by decide)) rfl e22 ?_
    refine J.aload_n (pc := 43) dX11_isGoing_43 rfl 0 rfl ?_
    obtain ⟨a24, e25, h⟩ := bnd h
    have k26 : (kd a24).1 = 0 := gR_k e25
    refine J.fR (pc := 44) dX11_isGoing_44 fl_RX11_48 k0 (okN hN17 k0 (by decide)) rfl e25 ?_
    refine J.iload_n (pc := 47) dX11_isGoing_47 rfl 1 rfl ?_
    refine J.bipush (pc := 48) dX11_isGoing_48 ib_55 ?_
    refine J.iadd (pc := 50) dX11_isGoing_50 ?_
    refine J.iload_n (pc := 51) dX11_isGoing_51 rfl 2 rfl ?_
    refine J.iadd (pc := 52) dX11_isGoing_52 ?_
    obtain ⟨x27, e28, h⟩ := bnd h
    refine J.aI (pc := 53) dX11_isGoing_53 k26 (okN hN17 k26 (by decide)) e28 ?_
    obtain ⟨x29, e30, h⟩ := bnd h
    refine J.aI (pc := 54) dX11_isGoing_54 k23 (okN hN17 k23 (by decide)) e30 ?_
    obtain ⟨μ31, e32, h⟩ := bnd h
    have hN33 : μ31.1 = NN := stI_N e32 hN17
    refine J.wI (pc := 55) dX11_isGoing_55 k20 (okN hN17 k20 (by decide)) e32 ?_
    refine J.aload_n (pc := 56) dX11_isGoing_56 rfl 0 rfl ?_
    obtain ⟨a34, e35, h⟩ := bnd h
    have k36 : (kd a34).1 = 0 := gR_k e35
    refine J.fR (pc := 57) dX11_isGoing_57 fl_RX11_54 k0 (okN hN33 k0 (by decide)) rfl e35 ?_
    refine J.iconst (pc := 60) dX11_isGoing_60 ic_3 ?_
    refine J.aload_n (pc := 61) dX11_isGoing_61 rfl 0 rfl ?_
    obtain ⟨a37, e38, h⟩ := bnd h
    have k39 : (kd a37).1 = 0 := gR_k e38
    refine J.fR (pc := 62) dX11_isGoing_62 fl_RX11_48 k0 (okN hN33 k0 (by decide)) rfl e38 ?_
    refine J.iload_n (pc := 65) dX11_isGoing_65 rfl 1 rfl ?_
    refine J.bipush (pc := 66) dX11_isGoing_66 ib_67 ?_
    refine J.iadd (pc := 68) dX11_isGoing_68 ?_
    refine J.iload_n (pc := 69) dX11_isGoing_69 rfl 2 rfl ?_
    refine J.iadd (pc := 70) dX11_isGoing_70 ?_
    obtain ⟨x40, e41, h⟩ := bnd h
    refine J.aI (pc := 71) dX11_isGoing_71 k39 (okN hN33 k39 (by decide)) e41 ?_
    obtain ⟨μ42, e43, h⟩ := bnd h
    have hN44 : μ42.1 = NN := stI_N e43 hN33
    refine J.wI (pc := 72) dX11_isGoing_72 k36 (okN hN33 k36 (by decide)) e43 ?_
    refine J.aload_n (pc := 73) dX11_isGoing_73 rfl 0 rfl ?_
    obtain ⟨a45, e46, h⟩ := bnd h
    have k47 : (kd a45).1 = 0 := gR_k e46
    refine J.fR (pc := 74) dX11_isGoing_74 fl_RX11_54 k0 (okN hN44 k0 (by decide)) rfl e46 ?_
    refine J.iconst (pc := 77) dX11_isGoing_77 ic_4 ?_
    refine J.aload_n (pc := 78) dX11_isGoing_78 rfl 0 rfl ?_
    refine J.iload_n (pc := 79) dX11_isGoing_79 rfl 1 rfl ?_
    refine J.aload_n (pc := 80) dX11_isGoing_80 rfl 0 rfl ?_
    obtain ⟨a48, e49, h⟩ := bnd h
    have k50 : (kd a48).1 = 0 := gR_k e49
    refine J.fR (pc := 81) dX11_isGoing_81 fl_RX11_48 k0 (okN hN44 k0 (by decide)) rfl e49 ?_
    refine J.iload_n (pc := 84) dX11_isGoing_84 rfl 1 rfl ?_
    refine J.bipush (pc := 85) dX11_isGoing_85 ib_55 ?_
    refine J.iadd (pc := 87) dX11_isGoing_87 ?_
    refine J.iload_n (pc := 88) dX11_isGoing_88 rfl 2 rfl ?_
    refine J.iadd (pc := 89) dX11_isGoing_89 ?_
    obtain ⟨x51, e52, h⟩ := bnd h
    refine J.aI (pc := 90) dX11_isGoing_90 k50 (okN hN44 k50 (by decide)) e52 ?_
    obtain ⟨r54, e53, h⟩ := bnd h
    refine J.callV (Y := mX11_isGoing) (Z := mX11_standAt) (pc := 91) (st := [.int (4 : Int32), .ref a45]) (k2 := 0) (n2 := 0) dX11_isGoing_91 ml_RX11_304 mo_X11_standAt mv_X11_standAt rfl (tX11_standAt (d + 1) e53 hN44 k0) k0 (okN hN44 k0 (by decide)).1 (okN hN44 k0 (by decide)).2 cq_11 (by decide) rfl rfl (Nat.le_of_ble_eq_true rfl) (by decide) (by decide) (fun v ν hp => ?_) (fun i ν hp => nrm hp.1)
    obtain ⟨rfl, rfl, hN55, hb56⟩ := QEl hp
    show J _ _ _ _ 94 _ ([.int r54, .int (4 : Int32), .ref a45]) _ _ _ _
    refine J.iconst (pc := 94) dX11_isGoing_94 ic_1 ?_
    refine J.isub (pc := 95) dX11_isGoing_95 ?_
    obtain ⟨μ57, e58, h⟩ := bnd h
    have hN59 : μ57.1 = NN := stI_N e58 hN55
    refine J.wI (pc := 96) dX11_isGoing_96 k47 (okN hN55 k47 (by decide)) e58 ?_
    refine J.aload_n (pc := 97) dX11_isGoing_97 rfl 0 rfl ?_
    obtain ⟨a60, e61, h⟩ := bnd h
    have k62 : (kd a60).1 = 0 := gR_k e61
    refine J.fR (pc := 98) dX11_isGoing_98 fl_RX11_54 k0 (okN hN59 k0 (by decide)) rfl e61 ?_
    refine J.iconst (pc := 101) dX11_isGoing_101 ic_5 ?_
    refine J.aload_n (pc := 102) dX11_isGoing_102 rfl 0 rfl ?_
    obtain ⟨a63, e64, h⟩ := bnd h
    have k65 : (kd a63).1 = 0 := gR_k e64
    refine J.fR (pc := 103) dX11_isGoing_103 fl_RX11_48 k0 (okN hN59 k0 (by decide)) rfl e64 ?_
    refine J.iload_n (pc := 106) dX11_isGoing_106 rfl 1 rfl ?_
    refine J.iconst (pc := 107) dX11_isGoing_107 ic_0 ?_
    refine J.iadd (pc := 108) dX11_isGoing_108 ?_
    obtain ⟨x66, e67, h⟩ := bnd h
    refine J.aI (pc := 109) dX11_isGoing_109 k65 (okN hN59 k65 (by decide)) e67 ?_
    obtain ⟨μ68, e69, h⟩ := bnd h
    have hN70 : μ68.1 = NN := stI_N e69 hN59
    refine J.wI (pc := 110) dX11_isGoing_110 k62 (okN hN59 k62 (by decide)) e69 ?_
    refine J.aload_n (pc := 111) dX11_isGoing_111 rfl 0 rfl ?_
    refine J.aload_n (pc := 112) dX11_isGoing_112 rfl 0 rfl ?_
    refine J.fI (pc := 113) dX11_isGoing_113 fl_RX11_9 k0 (okN hN70 k0 (by decide)) (Or.inl rfl) ?_
    obtain ⟨⟨r73, μ72⟩, e71, h⟩ := bnd h
    try dsimp only at h
    refine J.callV (Y := mX11_isGoing) (Z := mX11_reckons) (pc := 116) (st := []) (k2 := 0) (n2 := 0) dX11_isGoing_116 ml_RX11_307 mo_X11_reckons mv_X11_reckons rfl (tX11_reckons d e71 hN70 k0) k0 (okN hN70 k0 (by decide)).1 (okN hN70 k0 (by decide)).2 cq_11 (by decide) rfl rfl (Nat.le_of_ble_eq_true rfl) (by decide) (by decide) (fun v ν hp => ?_) (fun i ν hp => nrm hp.1)
    obtain ⟨rfl, rfl, hN74, hb75⟩ := QEl hp
    show J _ _ _ _ 119 _ ([.int r73]) _ _ _ _
    rcases ifc h with ⟨hc, h⟩ | ⟨hc, h⟩
    · refine J.zle (pc := 119) (tgt := 126) dX11_isGoing_119 (by decide) (fun _ => ?_) (fun q => absurd hc q)
      refine J.iconst (pc := 122) dX11_isGoing_122 ic_1 ?_
      refine J.goto (pc := 123) (tgt := 127) dX11_isGoing_123 (by decide) ?_
      cases h
      exact J.zret (pc := 127) dX11_isGoing_127 rfl (narB (Or.inr rfl)) ⟨rfl, rfl, hN74, (Or.inr rfl)⟩
    · refine J.zle (pc := 119) (tgt := 126) dX11_isGoing_119 (by decide) (fun q => absurd q hc) (fun _ => ?_)
      refine J.iconst (pc := 126) dX11_isGoing_126 ic_0 ?_
      cases h
      exact J.zret (pc := 127) dX11_isGoing_127 rfl (narB (Or.inl rfl)) ⟨rfl, rfl, hN74, (Or.inl rfl)⟩
def fX11_beside (v0 : Nat) (v1 : Int32) (v2 : Int32) (v3 : Int32) (μ : Mem) : Option (Int32) :=
  if v3 = 0 then
    if (v2 - v2 / (8 : Int32) * (8 : Int32)) = 0 then
      some (-1 : Int32)
    else
      some (v2 - (1 : Int32))
  else
    if v3 = (1 : Int32) then
      (gR μ v0 5 0).bind fun a1 =>
      (ldI μ a1 (v2 / (8 : Int32))).bind fun x4 =>
      if ((v2 - v2 / (8 : Int32) * (8 : Int32)) + (1 : Int32)) = x4 then
        some (-1 : Int32)
      else
        some (v2 + (1 : Int32))
    else
      if v3 = (2 : Int32) then
        if 0 < (v2 / (8 : Int32)) then
          (gR μ v0 34 0).bind fun a6 =>
          (ldI μ a6 (((v1 + (49 : Int32)) + (v2 / (8 : Int32))) - (1 : Int32))).bind fun x9 =>
          if ((x9 >>> ((v2 - v2 / (8 : Int32) * (8 : Int32)) &&& 31)) &&& (1 : Int32)) = (1 : Int32) then
            some (v2 - (8 : Int32))
          else
            some (-1 : Int32)
        else
          some (-1 : Int32)
      else
        if ((v2 / (8 : Int32)) + (1 : Int32)) < (μ.2.1 v0 1) then
          (gR μ v0 34 0).bind fun a11 =>
          (ldI μ a11 ((v1 + (49 : Int32)) + (v2 / (8 : Int32)))).bind fun x14 =>
          if ((x14 >>> ((v2 - v2 / (8 : Int32) * (8 : Int32)) &&& 31)) &&& (1 : Int32)) = (1 : Int32) then
            some (v2 + (8 : Int32))
          else
            some (-1 : Int32)
        else
          some (-1 : Int32)
set_option maxHeartbeats 4000000 in
theorem tX11_beside {ω : Wd} {l : Launch} (d : Nat) {v0 : Nat} {v1 : Int32} {v2 : Int32} {v3 : Int32} {μ : Mem} {res : Int32} (h : fX11_beside v0 v1 v2 v3 μ = some res) (hN : μ.1 = NN) (k0 : (kd v0).1 = 21) : Ct ω l mX11_beside d [.ref v0, .int v1, .int v2, .int v3] μ 0 0 (PE (.inl (some (.int res))) μ True) := by
  refine Ct.of pn_RX11 (Nat.le_of_ble_eq_true rfl) ?_
  show J ω l mX11_beside d 0 [(0, .ref v0), (1, .int v1), (2, .int v2), (3, .int v3)] [] μ 0 0 _
  unfold fX11_beside at h
  refine J.iload_n (pc := 0) dX11_beside_0 rfl 2 rfl ?_
  refine J.bipush (pc := 1) dX11_beside_1 ib_8 ?_
  refine J.idiv (pc := 3) dX11_beside_3 (by decide) ?_
  refine J.istore (pc := 4) ([(4, .int (v2 / (8 : Int32))), (0, .ref v0), (1, .int v1), (2, .int v2), (3, .int v3)]) dX11_beside_4 (Nat.le_of_ble_eq_true rfl) rfl ?_
  refine J.iload_n (pc := 6) dX11_beside_6 rfl 3 rfl ?_
  refine J.bipush (pc := 7) dX11_beside_7 ib_8 ?_
  refine J.irem (pc := 9) dX11_beside_9 (by decide) ?_
  refine J.istore (pc := 10) ([(5, .int (v2 - v2 / (8 : Int32) * (8 : Int32))), (4, .int (v2 / (8 : Int32))), (0, .ref v0), (1, .int v1), (2, .int v2), (3, .int v3)]) dX11_beside_10 (Nat.le_of_ble_eq_true rfl) rfl ?_
  refine J.iload_n (pc := 12) dX11_beside_12 rfl 5 rfl ?_
  rcases ifc h with ⟨hc, h⟩ | ⟨hc, h⟩
  · refine J.zne (pc := 13) (tgt := 29) dX11_beside_13 (by decide) (fun _ => ?_) (fun q => absurd hc q)
    refine J.iload (pc := 16) dX11_beside_16 0 rfl ?_
    rcases ifc h with ⟨hc, h⟩ | ⟨hc, h⟩
    · refine J.zne (pc := 18) (tgt := 25) dX11_beside_18 (by decide) (fun _ => ?_) (fun q => absurd hc q)
      refine J.iconst (pc := 21) dX11_beside_21 ic_m1 ?_
      refine J.goto (pc := 22) (tgt := 28) dX11_beside_22 (by decide) ?_
      cases h
      exact J.iret (pc := 28) dX11_beside_28 rfl ⟨rfl, rfl, hN, trivial⟩
    · refine J.zne (pc := 18) (tgt := 25) dX11_beside_18 (by decide) (fun q => absurd q hc) (fun _ => ?_)
      refine J.iload_n (pc := 25) dX11_beside_25 rfl 4 rfl ?_
      refine J.iconst (pc := 26) dX11_beside_26 ic_1 ?_
      refine J.isub (pc := 27) dX11_beside_27 ?_
      cases h
      exact J.iret (pc := 28) dX11_beside_28 rfl ⟨rfl, rfl, hN, trivial⟩
  · refine J.zne (pc := 13) (tgt := 29) dX11_beside_13 (by decide) (fun q => absurd q hc) (fun _ => ?_)
    refine J.iload_n (pc := 29) dX11_beside_29 rfl 5 rfl ?_
    refine J.iconst (pc := 30) dX11_beside_30 ic_1 ?_
    rcases ifc h with ⟨hc, h⟩ | ⟨hc, h⟩
    · refine J.cne (pc := 31) (tgt := 56) dX11_beside_31 (by decide) (fun _ => ?_) (fun q => absurd hc q)
      refine J.iload (pc := 34) dX11_beside_34 0 rfl ?_
      refine J.iconst (pc := 36) dX11_beside_36 ic_1 ?_
      refine J.iadd (pc := 37) dX11_beside_37 ?_
      refine J.aload_n (pc := 38) dX11_beside_38 rfl 2 rfl ?_
      obtain ⟨a1, e2, h⟩ := bnd h
      have k3 : (kd a1).1 = 0 := gR_k e2
      refine J.fR (pc := 39) dX11_beside_39 fl_RX11_16 k0 (okN hN k0 (by decide)) rfl e2 ?_
      refine J.iload (pc := 42) dX11_beside_42 1 rfl ?_
      obtain ⟨x4, e5, h⟩ := bnd h
      refine J.aI (pc := 44) dX11_beside_44 k3 (okN hN k3 (by decide)) e5 ?_
      rcases ifc h with ⟨hc, h⟩ | ⟨hc, h⟩
      · refine J.cne (pc := 45) (tgt := 52) dX11_beside_45 (by decide) (fun _ => ?_) (fun q => absurd hc q)
        refine J.iconst (pc := 48) dX11_beside_48 ic_m1 ?_
        refine J.goto (pc := 49) (tgt := 55) dX11_beside_49 (by decide) ?_
        cases h
        exact J.iret (pc := 55) dX11_beside_55 rfl ⟨rfl, rfl, hN, trivial⟩
      · refine J.cne (pc := 45) (tgt := 52) dX11_beside_45 (by decide) (fun q => absurd q hc) (fun _ => ?_)
        refine J.iload_n (pc := 52) dX11_beside_52 rfl 4 rfl ?_
        refine J.iconst (pc := 53) dX11_beside_53 ic_1 ?_
        refine J.iadd (pc := 54) dX11_beside_54 ?_
        cases h
        exact J.iret (pc := 55) dX11_beside_55 rfl ⟨rfl, rfl, hN, trivial⟩
    · refine J.cne (pc := 31) (tgt := 56) dX11_beside_31 (by decide) (fun q => absurd q hc) (fun _ => ?_)
      refine J.iload_n (pc := 56) dX11_beside_56 rfl 5 rfl ?_
      refine J.iconst (pc := 57) dX11_beside_57 ic_2 ?_
      rcases ifc h with ⟨hc, h⟩ | ⟨hc, h⟩
      · refine J.cne (pc := 58) (tgt := 98) dX11_beside_58 (by decide) (fun _ => ?_) (fun q => absurd hc q)
        refine J.iload (pc := 61) dX11_beside_61 1 rfl ?_
        rcases ifc h with ⟨hc, h⟩ | ⟨hc, h⟩
        · refine J.zle (pc := 63) (tgt := 96) dX11_beside_63 (by decide) (fun _ => ?_) (fun q => absurd hc q)
          refine J.aload_n (pc := 66) dX11_beside_66 rfl 2 rfl ?_
          obtain ⟨a6, e7, h⟩ := bnd h
          have k8 : (kd a6).1 = 0 := gR_k e7
          refine J.fR (pc := 67) dX11_beside_67 fl_RX11_48 k0 (okN hN k0 (by decide)) rfl e7 ?_
          refine J.iload_n (pc := 70) dX11_beside_70 rfl 3 rfl ?_
          refine J.bipush (pc := 71) dX11_beside_71 ib_49 ?_
          refine J.iadd (pc := 73) dX11_beside_73 ?_
          refine J.iload (pc := 74) dX11_beside_74 1 rfl ?_
          refine J.iadd (pc := 76) dX11_beside_76 ?_
          refine J.iconst (pc := 77) dX11_beside_77 ic_1 ?_
          refine J.isub (pc := 78) dX11_beside_78 ?_
          obtain ⟨x9, e10, h⟩ := bnd h
          refine J.aI (pc := 79) dX11_beside_79 k8 (okN hN k8 (by decide)) e10 ?_
          refine J.iload (pc := 80) dX11_beside_80 0 rfl ?_
          refine J.ishr (pc := 82) dX11_beside_82 ?_
          refine J.iconst (pc := 83) dX11_beside_83 ic_1 ?_
          refine J.iand (pc := 84) dX11_beside_84 ?_
          refine J.iconst (pc := 85) dX11_beside_85 ic_1 ?_
          rcases ifc h with ⟨hc, h⟩ | ⟨hc, h⟩
          · refine J.cne (pc := 86) (tgt := 96) dX11_beside_86 (by decide) (fun _ => ?_) (fun q => absurd hc q)
            refine J.iload_n (pc := 89) dX11_beside_89 rfl 4 rfl ?_
            refine J.bipush (pc := 90) dX11_beside_90 ib_8 ?_
            refine J.isub (pc := 92) dX11_beside_92 ?_
            refine J.goto (pc := 93) (tgt := 97) dX11_beside_93 (by decide) ?_
            cases h
            exact J.iret (pc := 97) dX11_beside_97 rfl ⟨rfl, rfl, hN, trivial⟩
          · refine J.cne (pc := 86) (tgt := 96) dX11_beside_86 (by decide) (fun q => absurd q hc) (fun _ => ?_)
            refine J.iconst (pc := 96) dX11_beside_96 ic_m1 ?_
            cases h
            exact J.iret (pc := 97) dX11_beside_97 rfl ⟨rfl, rfl, hN, trivial⟩
        · refine J.zle (pc := 63) (tgt := 96) dX11_beside_63 (by decide) (fun q => absurd q hc) (fun _ => ?_)
          refine J.iconst (pc := 96) dX11_beside_96 ic_m1 ?_
          cases h
          exact J.iret (pc := 97) dX11_beside_97 rfl ⟨rfl, rfl, hN, trivial⟩
      · refine J.cne (pc := 58) (tgt := 98) dX11_beside_58 (by decide) (fun q => absurd q hc) (fun _ => ?_)
        refine J.iload (pc := 98) dX11_beside_98 1 rfl ?_
        refine J.iconst (pc := 100) dX11_beside_100 ic_1 ?_
        refine J.iadd (pc := 101) dX11_beside_101 ?_
        refine J.aload_n (pc := 102) dX11_beside_102 rfl 2 rfl ?_
        refine J.fI (pc := 103) dX11_beside_103 fl_RX11_273 k0 (okN hN k0 (by decide)) (Or.inl rfl) ?_
        rcases ifc h with ⟨hc, h⟩ | ⟨hc, h⟩
        · refine J.cge (pc := 106) (tgt := 137) dX11_beside_106 (by decide) (fun _ => ?_) (fun q => absurd hc q)
          refine J.aload_n (pc := 109) dX11_beside_109 rfl 2 rfl ?_
          obtain ⟨a11, e12, h⟩ := bnd h
          have k13 : (kd a11).1 = 0 := gR_k e12
          refine J.fR (pc := 110) dX11_beside_110 fl_RX11_48 k0 (okN hN k0 (by decide)) rfl e12 ?_
          refine J.iload_n (pc := 113) dX11_beside_113 rfl 3 rfl ?_
          refine J.bipush (pc := 114) dX11_beside_114 ib_49 ?_
          refine J.iadd (pc := 116) dX11_beside_116 ?_
          refine J.iload (pc := 117) dX11_beside_117 1 rfl ?_
          refine J.iadd (pc := 119) dX11_beside_119 ?_
          obtain ⟨x14, e15, h⟩ := bnd h
          refine J.aI (pc := 120) dX11_beside_120 k13 (okN hN k13 (by decide)) e15 ?_
          refine J.iload (pc := 121) dX11_beside_121 0 rfl ?_
          refine J.ishr (pc := 123) dX11_beside_123 ?_
          refine J.iconst (pc := 124) dX11_beside_124 ic_1 ?_
          refine J.iand (pc := 125) dX11_beside_125 ?_
          refine J.iconst (pc := 126) dX11_beside_126 ic_1 ?_
          rcases ifc h with ⟨hc, h⟩ | ⟨hc, h⟩
          · refine J.cne (pc := 127) (tgt := 137) dX11_beside_127 (by decide) (fun _ => ?_) (fun q => absurd hc q)
            refine J.iload_n (pc := 130) dX11_beside_130 rfl 4 rfl ?_
            refine J.bipush (pc := 131) dX11_beside_131 ib_8 ?_
            refine J.iadd (pc := 133) dX11_beside_133 ?_
            refine J.goto (pc := 134) (tgt := 138) dX11_beside_134 (by decide) ?_
            cases h
            exact J.iret (pc := 138) dX11_beside_138 rfl ⟨rfl, rfl, hN, trivial⟩
          · refine J.cne (pc := 127) (tgt := 137) dX11_beside_127 (by decide) (fun q => absurd q hc) (fun _ => ?_)
            refine J.iconst (pc := 137) dX11_beside_137 ic_m1 ?_
            cases h
            exact J.iret (pc := 138) dX11_beside_138 rfl ⟨rfl, rfl, hN, trivial⟩
        · refine J.cge (pc := 106) (tgt := 137) dX11_beside_106 (by decide) (fun q => absurd q hc) (fun _ => ?_)
          refine J.iconst (pc := 137) dX11_beside_137 ic_m1 ?_
          cases h
          exact J.iret (pc := 138) dX11_beside_138 rfl ⟨rfl, rfl, hN, trivial⟩
def fX11_isWhite (v0 : Nat) (v1 : Int32) (v2 : Int32) (μ : Mem) : Option (Int32) :=
  (gR μ v0 34 0).bind fun a1 =>
  (ldI μ a1 ((v1 + (1 : Int32)) + v2)).bind fun x4 =>
  if x4 = 0 then
    some (1 : Int32)
  else
    some (0 : Int32)
set_option maxHeartbeats 4000000 in
theorem tX11_isWhite {ω : Wd} {l : Launch} (d : Nat) {v0 : Nat} {v1 : Int32} {v2 : Int32} {μ : Mem} {res : Int32} (h : fX11_isWhite v0 v1 v2 μ = some res) (hN : μ.1 = NN) (k0 : (kd v0).1 = 21) : Ct ω l mX11_isWhite d [.ref v0, .int v1, .int v2] μ 0 0 (PE (.inl (some (.int res))) μ (isB res)) := by
  refine Ct.of pn_RX11 (Nat.le_of_ble_eq_true rfl) ?_
  show J ω l mX11_isWhite d 0 [(0, .ref v0), (1, .int v1), (2, .int v2)] [] μ 0 0 _
  unfold fX11_isWhite at h
  refine J.aload_n (pc := 0) dX11_isWhite_0 rfl 0 rfl ?_
  obtain ⟨a1, e2, h⟩ := bnd h
  have k3 : (kd a1).1 = 0 := gR_k e2
  refine J.fR (pc := 1) dX11_isWhite_1 fl_RX11_48 k0 (okN hN k0 (by decide)) rfl e2 ?_
  refine J.iload_n (pc := 4) dX11_isWhite_4 rfl 1 rfl ?_
  refine J.iconst (pc := 5) dX11_isWhite_5 ic_1 ?_
  refine J.iadd (pc := 6) dX11_isWhite_6 ?_
  refine J.iload_n (pc := 7) dX11_isWhite_7 rfl 2 rfl ?_
  refine J.iadd (pc := 8) dX11_isWhite_8 ?_
  obtain ⟨x4, e5, h⟩ := bnd h
  refine J.aI (pc := 9) dX11_isWhite_9 k3 (okN hN k3 (by decide)) e5 ?_
  rcases ifc h with ⟨hc, h⟩ | ⟨hc, h⟩
  · refine J.zne (pc := 10) (tgt := 17) dX11_isWhite_10 (by decide) (fun _ => ?_) (fun q => absurd hc q)
    refine J.iconst (pc := 13) dX11_isWhite_13 ic_1 ?_
    refine J.goto (pc := 14) (tgt := 18) dX11_isWhite_14 (by decide) ?_
    cases h
    exact J.zret (pc := 18) dX11_isWhite_18 rfl (narB (Or.inr rfl)) ⟨rfl, rfl, hN, (Or.inr rfl)⟩
  · refine J.zne (pc := 10) (tgt := 17) dX11_isWhite_10 (by decide) (fun q => absurd q hc) (fun _ => ?_)
    refine J.iconst (pc := 17) dX11_isWhite_17 ic_0 ?_
    cases h
    exact J.zret (pc := 18) dX11_isWhite_18 rfl (narB (Or.inl rfl)) ⟨rfl, rfl, hN, (Or.inl rfl)⟩
def fX11_laysFar_74  (K54 : Nat → Int32 → Int32 → Int32 → Mem → Option (Mem)) : Nat → Nat → Int32 → Int32 → Int32 → Int32 → Int32 → Mem → Option (Mem)
  | 0, _, _, _, _, _, _, _ => none
  | n + 1, v0, v1, v3, v4, v5, v6, μ =>
    if v6 < (4 : Int32) then
      (fX11_beside v0 v1 v5 v6 μ).bind fun r2 =>
      if r2 = (-1 : Int32) then
        (fX11_laysFar_74 K54 n) v0 v1 v3 v4 v5 (v6 + (1 : Int32)) μ
      else
        (gR μ v0 39 0).bind fun a5 =>
        (ldI μ a5 r2).bind fun x8 =>
        if x8 < (9999 : Int32) then
          (fX11_laysFar_74 K54 n) v0 v1 v3 v4 v5 (v6 + (1 : Int32)) μ
        else
          (gR μ v0 39 0).bind fun a10 =>
          (gR μ v0 39 0).bind fun a13 =>
          (ldI μ a13 v5).bind fun x16 =>
          (stI μ a10 r2 (x16 + (1 : Int32))).bind fun μ18 =>
          (fX11_isWhite v0 v1 r2 μ18).bind fun r22 =>
          if r22 = 0 then
            (fX11_laysFar_74 K54 n) v0 v1 v3 v4 v5 (v6 + (1 : Int32)) μ18
          else
            if r2 = (μ18.2.1 v0 41) then
              (fX11_laysFar_74 K54 n) v0 v1 v3 v4 v5 (v6 + (1 : Int32)) μ18
            else
              (gR μ18 v0 40 0).bind fun a25 =>
              (stI μ18 a25 v4 r2).bind fun μ28 =>
              (fX11_laysFar_74 K54 n) v0 v1 v3 (v4 + (1 : Int32)) v5 (v6 + (1 : Int32)) μ28
    else
      K54 v0 v1 v3 v4 μ
set_option maxHeartbeats 4000000 in
theorem tX11_laysFar_74 {ω : Wd} {l : Launch} (d : Nat) {res : Mem} (K54 : Nat → Int32 → Int32 → Int32 → Mem → Option (Mem)) (hK54 : ∀ (v0 : Nat) (v1 : Int32) (v3 : Int32) (v4 : Int32) (μ : Mem), K54 v0 v1 v3 v4 μ = some res → μ.1 = NN → (kd v0).1 = 21 → J ω l mX11_laysFar (d + 1) 54 [(0, .ref v0), (1, .int v1), (3, .int v3), (4, .int v4)] [] μ 0 0 (PE (.inl none) res True)) : ∀ n : Nat, ∀ (v0 : Nat) (v1 : Int32) (v3 : Int32) (v4 : Int32) (v5 : Int32) (v6 : Int32) (μ : Mem), fX11_laysFar_74 K54 n v0 v1 v3 v4 v5 v6 μ = some res → μ.1 = NN → (kd v0).1 = 21 → J ω l mX11_laysFar (d + 1) 74 [(0, .ref v0), (1, .int v1), (3, .int v3), (4, .int v4), (5, .int v5), (6, .int v6)] [] μ 0 0 (PE (.inl none) res True) := by
  intro n
  induction n with
  | zero =>
    intro v0 v1 v3 v4 v5 v6 μ h hN k0
    have h9 : (none : Option (Mem)) = some res := h
    cases h9
  | succ n ih =>
    intro v0 v1 v3 v4 v5 v6 μ h hN k0
    unfold fX11_laysFar_74 at h
    refine J.iload (pc := 74) dX11_laysFar_74 5 rfl ?_
    refine J.iconst (pc := 76) dX11_laysFar_76 ic_4 ?_
    rcases ifc h with ⟨hc, h⟩ | ⟨hc, h⟩
    · refine J.cge (pc := 77) (tgt := 169) dX11_laysFar_77 (by decide) (fun _ => ?_) (fun q => absurd hc q)
      refine J.aload_n (pc := 80) dX11_laysFar_80 rfl 0 rfl ?_
      refine J.iload_n (pc := 81) dX11_laysFar_81 rfl 1 rfl ?_
      refine J.iload (pc := 82) dX11_laysFar_82 4 rfl ?_
      refine J.iload (pc := 84) dX11_laysFar_84 5 rfl ?_
      obtain ⟨r2, e1, h⟩ := bnd h
      refine J.callV (Y := mX11_laysFar) (Z := mX11_beside) (pc := 86) (st := []) (k2 := 0) (n2 := 0) dX11_laysFar_86 ml_RX11_301 mo_X11_beside mv_X11_beside rfl (tX11_beside d e1 hN k0) k0 (okN hN k0 (by decide)).1 (okN hN k0 (by decide)).2 cq_11 (by decide) rfl rfl (Nat.le_of_ble_eq_true rfl) (by decide) (by decide) (fun v ν hp => ?_) (fun i ν hp => nrm hp.1)
      obtain ⟨rfl, rfl, hN3, hb4⟩ := QEl hp
      show J _ _ _ _ 89 _ ([.int r2]) _ _ _ _
      refine J.istore (pc := 89) ([(7, .int r2), (0, .ref v0), (1, .int v1), (3, .int v3), (4, .int v4), (5, .int v5), (6, .int v6)]) dX11_laysFar_89 (Nat.le_of_ble_eq_true rfl) rfl ?_
      refine J.iload (pc := 91) dX11_laysFar_91 0 rfl ?_
      refine J.iconst (pc := 93) dX11_laysFar_93 ic_m1 ?_
      rcases ifc h with ⟨hc, h⟩ | ⟨hc, h⟩
      · refine J.ceq (pc := 94) (tgt := 163) dX11_laysFar_94 (by decide) (fun _ => ?_) (fun q => absurd hc q)
        refine J.iinc (pc := 163) (j := 6) ([(6, .int (v6 + (1 : Int32))), (7, .int r2), (0, .ref v0), (1, .int v1), (3, .int v3), (4, .int v4), (5, .int v5)]) dX11_laysFar_163 rfl (iincv ic_1) (Nat.le_of_ble_eq_true rfl) rfl ?_
        refine J.goto (pc := 166) (tgt := 74) dX11_laysFar_166 (by decide) ?_
        refine J.pick [2, 3, 4, 5, 6, 0] rfl ?_
        exact ih v0 v1 v3 v4 v5 (v6 + (1 : Int32)) μ h hN3 k0
      · refine J.ceq (pc := 94) (tgt := 163) dX11_laysFar_94 (by decide) (fun q => absurd q hc) (fun _ => ?_)
        refine J.aload_n (pc := 97) dX11_laysFar_97 rfl 1 rfl ?_
        obtain ⟨a5, e6, h⟩ := bnd h
        have k7 : (kd a5).1 = 0 := gR_k e6
        refine J.fR (pc := 98) dX11_laysFar_98 fl_RX11_60 k0 (okN hN3 k0 (by decide)) rfl e6 ?_
        refine J.iload (pc := 101) dX11_laysFar_101 0 rfl ?_
        obtain ⟨x8, e9, h⟩ := bnd h
        refine J.aI (pc := 103) dX11_laysFar_103 k7 (okN hN3 k7 (by decide)) e9 ?_
        refine J.sipush (pc := 104) dX11_laysFar_104 is_9999 ?_
        rcases ifc h with ⟨hc, h⟩ | ⟨hc, h⟩
        · refine J.cge (pc := 107) (tgt := 113) dX11_laysFar_107 (by decide) (fun _ => ?_) (fun q => absurd hc q)
          refine J.goto (pc := 110) (tgt := 163) dX11_laysFar_110 (by decide) ?_
          refine J.iinc (pc := 163) (j := 6) ([(6, .int (v6 + (1 : Int32))), (7, .int r2), (0, .ref v0), (1, .int v1), (3, .int v3), (4, .int v4), (5, .int v5)]) dX11_laysFar_163 rfl (iincv ic_1) (Nat.le_of_ble_eq_true rfl) rfl ?_
          refine J.goto (pc := 166) (tgt := 74) dX11_laysFar_166 (by decide) ?_
          refine J.pick [2, 3, 4, 5, 6, 0] rfl ?_
          exact ih v0 v1 v3 v4 v5 (v6 + (1 : Int32)) μ h hN3 k0
        · refine J.cge (pc := 107) (tgt := 113) dX11_laysFar_107 (by decide) (fun q => absurd q hc) (fun _ => ?_)
          refine J.aload_n (pc := 113) dX11_laysFar_113 rfl 1 rfl ?_
          obtain ⟨a10, e11, h⟩ := bnd h
          have k12 : (kd a10).1 = 0 := gR_k e11
          refine J.fR (pc := 114) dX11_laysFar_114 fl_RX11_60 k0 (okN hN3 k0 (by decide)) rfl e11 ?_
          refine J.iload (pc := 117) dX11_laysFar_117 0 rfl ?_
          refine J.aload_n (pc := 119) dX11_laysFar_119 rfl 1 rfl ?_
          obtain ⟨a13, e14, h⟩ := bnd h
          have k15 : (kd a13).1 = 0 := gR_k e14
          refine J.fR (pc := 120) dX11_laysFar_120 fl_RX11_60 k0 (okN hN3 k0 (by decide)) rfl e14 ?_
          refine J.iload (pc := 123) dX11_laysFar_123 5 rfl ?_
          obtain ⟨x16, e17, h⟩ := bnd h
          refine J.aI (pc := 125) dX11_laysFar_125 k15 (okN hN3 k15 (by decide)) e17 ?_
          refine J.iconst (pc := 126) dX11_laysFar_126 ic_1 ?_
          refine J.iadd (pc := 127) dX11_laysFar_127 ?_
          obtain ⟨μ18, e19, h⟩ := bnd h
          have hN20 : μ18.1 = NN := stI_N e19 hN3
          refine J.wI (pc := 128) dX11_laysFar_128 k12 (okN hN3 k12 (by decide)) e19 ?_
          refine J.aload_n (pc := 129) dX11_laysFar_129 rfl 1 rfl ?_
          refine J.iload_n (pc := 130) dX11_laysFar_130 rfl 2 rfl ?_
          refine J.iload (pc := 131) dX11_laysFar_131 0 rfl ?_
          obtain ⟨r22, e21, h⟩ := bnd h
          refine J.callV (Y := mX11_laysFar) (Z := mX11_isWhite) (pc := 133) (st := []) (k2 := 0) (n2 := 0) dX11_laysFar_133 ml_RX11_297 mo_X11_isWhite mv_X11_isWhite rfl (tX11_isWhite d e21 hN20 k0) k0 (okN hN20 k0 (by decide)).1 (okN hN20 k0 (by decide)).2 cq_11 (by decide) rfl rfl (Nat.le_of_ble_eq_true rfl) (by decide) (by decide) (fun v ν hp => ?_) (fun i ν hp => nrm hp.1)
          obtain ⟨rfl, rfl, hN23, hb24⟩ := QEl hp
          show J _ _ _ _ 136 _ ([.int r22]) _ _ _ _
          rcases ifc h with ⟨hc, h⟩ | ⟨hc, h⟩
          · refine J.zeq (pc := 136) (tgt := 163) dX11_laysFar_136 (by decide) (fun _ => ?_) (fun q => absurd hc q)
            refine J.iinc (pc := 163) (j := 6) ([(6, .int (v6 + (1 : Int32))), (7, .int r2), (0, .ref v0), (1, .int v1), (3, .int v3), (4, .int v4), (5, .int v5)]) dX11_laysFar_163 rfl (iincv ic_1) (Nat.le_of_ble_eq_true rfl) rfl ?_
            refine J.goto (pc := 166) (tgt := 74) dX11_laysFar_166 (by decide) ?_
            refine J.pick [2, 3, 4, 5, 6, 0] rfl ?_
            exact ih v0 v1 v3 v4 v5 (v6 + (1 : Int32)) μ18 h hN23 k0
          · refine J.zeq (pc := 136) (tgt := 163) dX11_laysFar_136 (by decide) (fun q => absurd q hc) (fun _ => ?_)
            refine J.iload (pc := 139) dX11_laysFar_139 0 rfl ?_
            refine J.aload_n (pc := 141) dX11_laysFar_141 rfl 1 rfl ?_
            refine J.fI (pc := 142) dX11_laysFar_142 fl_RX11_66 k0 (okN hN23 k0 (by decide)) (Or.inl rfl) ?_
            rcases ifc h with ⟨hc, h⟩ | ⟨hc, h⟩
            · refine J.cne (pc := 145) (tgt := 151) dX11_laysFar_145 (by decide) (fun _ => ?_) (fun q => absurd hc q)
              refine J.goto (pc := 148) (tgt := 163) dX11_laysFar_148 (by decide) ?_
              refine J.iinc (pc := 163) (j := 6) ([(6, .int (v6 + (1 : Int32))), (7, .int r2), (0, .ref v0), (1, .int v1), (3, .int v3), (4, .int v4), (5, .int v5)]) dX11_laysFar_163 rfl (iincv ic_1) (Nat.le_of_ble_eq_true rfl) rfl ?_
              refine J.goto (pc := 166) (tgt := 74) dX11_laysFar_166 (by decide) ?_
              refine J.pick [2, 3, 4, 5, 6, 0] rfl ?_
              exact ih v0 v1 v3 v4 v5 (v6 + (1 : Int32)) μ18 h hN23 k0
            · refine J.cne (pc := 145) (tgt := 151) dX11_laysFar_145 (by decide) (fun q => absurd q hc) (fun _ => ?_)
              refine J.aload_n (pc := 151) dX11_laysFar_151 rfl 1 rfl ?_
              obtain ⟨a25, e26, h⟩ := bnd h
              have k27 : (kd a25).1 = 0 := gR_k e26
              refine J.fR (pc := 152) dX11_laysFar_152 fl_RX11_63 k0 (okN hN23 k0 (by decide)) rfl e26 ?_
              refine J.iload (pc := 155) dX11_laysFar_155 4 rfl ?_
              refine J.iload (pc := 157) dX11_laysFar_157 0 rfl ?_
              obtain ⟨μ28, e29, h⟩ := bnd h
              have hN30 : μ28.1 = NN := stI_N e29 hN23
              refine J.wI (pc := 159) dX11_laysFar_159 k27 (okN hN23 k27 (by decide)) e29 ?_
              refine J.iinc (pc := 160) (j := 4) ([(4, .int (v4 + (1 : Int32))), (7, .int r2), (0, .ref v0), (1, .int v1), (3, .int v3), (5, .int v5), (6, .int v6)]) dX11_laysFar_160 rfl (iincv ic_1) (Nat.le_of_ble_eq_true rfl) rfl ?_
              refine J.iinc (pc := 163) (j := 6) ([(6, .int (v6 + (1 : Int32))), (4, .int (v4 + (1 : Int32))), (7, .int r2), (0, .ref v0), (1, .int v1), (3, .int v3), (5, .int v5)]) dX11_laysFar_163 rfl (iincv ic_1) (Nat.le_of_ble_eq_true rfl) rfl ?_
              refine J.goto (pc := 166) (tgt := 74) dX11_laysFar_166 (by decide) ?_
              refine J.pick [3, 4, 5, 1, 6, 0] rfl ?_
              exact ih v0 v1 v3 (v4 + (1 : Int32)) v5 (v6 + (1 : Int32)) μ28 h hN30 k0
    · refine J.cge (pc := 77) (tgt := 169) dX11_laysFar_77 (by decide) (fun q => absurd q hc) (fun _ => ?_)
      refine J.goto (pc := 169) (tgt := 54) dX11_laysFar_169 (by decide) ?_
      refine J.pick [0, 1, 2, 3] rfl ?_
      exact hK54 v0 v1 v3 v4 μ h hN k0
def fX11_laysFar_54  : Nat → Nat → Int32 → Int32 → Int32 → Mem → Option (Mem)
  | 0, _, _, _, _, _ => none
  | n + 1, v0, v1, v3, v4, μ =>
    if v3 < v4 then
      (gR μ v0 40 0).bind fun a1 =>
      (ldI μ a1 v3).bind fun x4 =>
      (fX11_laysFar_74 (fX11_laysFar_54 n) fuel) v0 v1 (v3 + (1 : Int32)) v4 x4 (0 : Int32) μ
    else
      some μ
set_option maxHeartbeats 4000000 in
theorem tX11_laysFar_54 {ω : Wd} {l : Launch} (d : Nat) {res : Mem} : ∀ n : Nat, ∀ (v0 : Nat) (v1 : Int32) (v3 : Int32) (v4 : Int32) (μ : Mem), fX11_laysFar_54 n v0 v1 v3 v4 μ = some res → μ.1 = NN → (kd v0).1 = 21 → J ω l mX11_laysFar (d + 1) 54 [(0, .ref v0), (1, .int v1), (3, .int v3), (4, .int v4)] [] μ 0 0 (PE (.inl none) res True) := by
  intro n
  induction n with
  | zero =>
    intro v0 v1 v3 v4 μ h hN k0
    have h9 : (none : Option (Mem)) = some res := h
    cases h9
  | succ n ih =>
    intro v0 v1 v3 v4 μ h hN k0
    unfold fX11_laysFar_54 at h
    refine J.iload_n (pc := 54) dX11_laysFar_54 rfl 2 rfl ?_
    refine J.iload (pc := 55) dX11_laysFar_55 3 rfl ?_
    rcases ifc h with ⟨hc, h⟩ | ⟨hc, h⟩
    · refine J.cge (pc := 57) (tgt := 172) dX11_laysFar_57 (by decide) (fun _ => ?_) (fun q => absurd hc q)
      refine J.aload_n (pc := 60) dX11_laysFar_60 rfl 0 rfl ?_
      obtain ⟨a1, e2, h⟩ := bnd h
      have k3 : (kd a1).1 = 0 := gR_k e2
      refine J.fR (pc := 61) dX11_laysFar_61 fl_RX11_63 k0 (okN hN k0 (by decide)) rfl e2 ?_
      refine J.iload_n (pc := 64) dX11_laysFar_64 rfl 2 rfl ?_
      obtain ⟨x4, e5, h⟩ := bnd h
      refine J.aI (pc := 65) dX11_laysFar_65 k3 (okN hN k3 (by decide)) e5 ?_
      refine J.istore (pc := 66) ([(5, .int x4), (0, .ref v0), (1, .int v1), (3, .int v3), (4, .int v4)]) dX11_laysFar_66 (Nat.le_of_ble_eq_true rfl) rfl ?_
      refine J.iinc (pc := 68) (j := 3) ([(3, .int (v3 + (1 : Int32))), (5, .int x4), (0, .ref v0), (1, .int v1), (4, .int v4)]) dX11_laysFar_68 rfl (iincv ic_1) (Nat.le_of_ble_eq_true rfl) rfl ?_
      refine J.iconst (pc := 71) dX11_laysFar_71 ic_0 ?_
      refine J.istore (pc := 72) ([(6, .int (0 : Int32)), (3, .int (v3 + (1 : Int32))), (5, .int x4), (0, .ref v0), (1, .int v1), (4, .int v4)]) dX11_laysFar_72 (Nat.le_of_ble_eq_true rfl) rfl ?_
      refine J.pick [3, 4, 1, 5, 2, 0] rfl ?_
      exact (tX11_laysFar_74 d (fX11_laysFar_54 n) ih fuel) v0 v1 (v3 + (1 : Int32)) v4 x4 (0 : Int32) μ h hN k0
    · refine J.cge (pc := 57) (tgt := 172) dX11_laysFar_57 (by decide) (fun q => absurd q hc) (fun _ => ?_)
      cases h
      exact J.vret (pc := 172) dX11_laysFar_172 rfl ⟨rfl, rfl, hN, trivial⟩
def fX11_laysFar_2  : Nat → Nat → Int32 → Int32 → Int32 → Mem → Option (Mem)
  | 0, _, _, _, _, _ => none
  | n + 1, v0, v1, v2, v3, μ =>
    if v3 < (48 : Int32) then
      (gR μ v0 39 0).bind fun a1 =>
      (stI μ a1 v3 (9999 : Int32)).bind fun μ4 =>
      (fX11_laysFar_2 n) v0 v1 v2 (v3 + (1 : Int32)) μ4
    else
      (gR μ v0 39 0).bind fun a7 =>
      (stI μ a7 v2 (0 : Int32)).bind fun μ10 =>
      (fX11_isWhite v0 v1 v2 μ10).bind fun r14 =>
      if r14 = 0 then
        (fX11_laysFar_54 fuel) v0 v1 (0 : Int32) (0 : Int32) μ10
      else
        (gR μ10 v0 40 0).bind fun a17 =>
        (stI μ10 a17 (0 : Int32) v2).bind fun μ20 =>
        (fX11_laysFar_54 fuel) v0 v1 (0 : Int32) (1 : Int32) μ20
set_option maxHeartbeats 4000000 in
theorem tX11_laysFar_2 {ω : Wd} {l : Launch} (d : Nat) {res : Mem} : ∀ n : Nat, ∀ (v0 : Nat) (v1 : Int32) (v2 : Int32) (v3 : Int32) (μ : Mem), fX11_laysFar_2 n v0 v1 v2 v3 μ = some res → μ.1 = NN → (kd v0).1 = 21 → J ω l mX11_laysFar (d + 1) 2 [(0, .ref v0), (1, .int v1), (2, .int v2), (3, .int v3)] [] μ 0 0 (PE (.inl none) res True) := by
  intro n
  induction n with
  | zero =>
    intro v0 v1 v2 v3 μ h hN k0
    have h9 : (none : Option (Mem)) = some res := h
    cases h9
  | succ n ih =>
    intro v0 v1 v2 v3 μ h hN k0
    unfold fX11_laysFar_2 at h
    refine J.iload_n (pc := 2) dX11_laysFar_2 rfl 3 rfl ?_
    refine J.bipush (pc := 3) dX11_laysFar_3 ib_48 ?_
    rcases ifc h with ⟨hc, h⟩ | ⟨hc, h⟩
    · refine J.cge (pc := 5) (tgt := 23) dX11_laysFar_5 (by decide) (fun _ => ?_) (fun q => absurd hc q)
      refine J.aload_n (pc := 8) dX11_laysFar_8 rfl 0 rfl ?_
      obtain ⟨a1, e2, h⟩ := bnd h
      have k3 : (kd a1).1 = 0 := gR_k e2
      refine J.fR (pc := 9) dX11_laysFar_9 fl_RX11_60 k0 (okN hN k0 (by decide)) rfl e2 ?_
      refine J.iload_n (pc := 12) dX11_laysFar_12 rfl 3 rfl ?_
      refine J.sipush (pc := 13) dX11_laysFar_13 is_9999 ?_
      obtain ⟨μ4, e5, h⟩ := bnd h
      have hN6 : μ4.1 = NN := stI_N e5 hN
      refine J.wI (pc := 16) dX11_laysFar_16 k3 (okN hN k3 (by decide)) e5 ?_
      refine J.iinc (pc := 17) (j := 3) ([(3, .int (v3 + (1 : Int32))), (0, .ref v0), (1, .int v1), (2, .int v2)]) dX11_laysFar_17 rfl (iincv ic_1) (Nat.le_of_ble_eq_true rfl) rfl ?_
      refine J.goto (pc := 20) (tgt := 2) dX11_laysFar_20 (by decide) ?_
      refine J.pick [1, 2, 3, 0] rfl ?_
      exact ih v0 v1 v2 (v3 + (1 : Int32)) μ4 h hN6 k0
    · refine J.cge (pc := 5) (tgt := 23) dX11_laysFar_5 (by decide) (fun q => absurd q hc) (fun _ => ?_)
      refine J.aload_n (pc := 23) dX11_laysFar_23 rfl 0 rfl ?_
      obtain ⟨a7, e8, h⟩ := bnd h
      have k9 : (kd a7).1 = 0 := gR_k e8
      refine J.fR (pc := 24) dX11_laysFar_24 fl_RX11_60 k0 (okN hN k0 (by decide)) rfl e8 ?_
      refine J.iload_n (pc := 27) dX11_laysFar_27 rfl 2 rfl ?_
      refine J.iconst (pc := 28) dX11_laysFar_28 ic_0 ?_
      obtain ⟨μ10, e11, h⟩ := bnd h
      have hN12 : μ10.1 = NN := stI_N e11 hN
      refine J.wI (pc := 29) dX11_laysFar_29 k9 (okN hN k9 (by decide)) e11 ?_
      refine J.iconst (pc := 30) dX11_laysFar_30 ic_0 ?_
      refine J.istore_n (pc := 31) ([(3, .int (0 : Int32)), (0, .ref v0), (1, .int v1), (2, .int v2)]) dX11_laysFar_31 rfl (Nat.le_of_ble_eq_true rfl) rfl ?_
      refine J.iconst (pc := 32) dX11_laysFar_32 ic_0 ?_
      refine J.istore (pc := 33) ([(4, .int (0 : Int32)), (3, .int (0 : Int32)), (0, .ref v0), (1, .int v1), (2, .int v2)]) dX11_laysFar_33 (Nat.le_of_ble_eq_true rfl) rfl ?_
      refine J.aload_n (pc := 35) dX11_laysFar_35 rfl 2 rfl ?_
      refine J.iload_n (pc := 36) dX11_laysFar_36 rfl 3 rfl ?_
      refine J.iload_n (pc := 37) dX11_laysFar_37 rfl 4 rfl ?_
      obtain ⟨r14, e13, h⟩ := bnd h
      refine J.callV (Y := mX11_laysFar) (Z := mX11_isWhite) (pc := 38) (st := []) (k2 := 0) (n2 := 0) dX11_laysFar_38 ml_RX11_297 mo_X11_isWhite mv_X11_isWhite rfl (tX11_isWhite d e13 hN12 k0) k0 (okN hN12 k0 (by decide)).1 (okN hN12 k0 (by decide)).2 cq_11 (by decide) rfl rfl (Nat.le_of_ble_eq_true rfl) (by decide) (by decide) (fun v ν hp => ?_) (fun i ν hp => nrm hp.1)
      obtain ⟨rfl, rfl, hN15, hb16⟩ := QEl hp
      show J _ _ _ _ 41 _ ([.int r14]) _ _ _ _
      rcases ifc h with ⟨hc, h⟩ | ⟨hc, h⟩
      · refine J.zeq (pc := 41) (tgt := 54) dX11_laysFar_41 (by decide) (fun _ => ?_) (fun q => absurd hc q)
        refine J.pick [2, 3, 1, 0] rfl ?_
        exact (tX11_laysFar_54 d fuel) v0 v1 (0 : Int32) (0 : Int32) μ10 h hN15 k0
      · refine J.zeq (pc := 41) (tgt := 54) dX11_laysFar_41 (by decide) (fun q => absurd q hc) (fun _ => ?_)
        refine J.aload_n (pc := 44) dX11_laysFar_44 rfl 2 rfl ?_
        obtain ⟨a17, e18, h⟩ := bnd h
        have k19 : (kd a17).1 = 0 := gR_k e18
        refine J.fR (pc := 45) dX11_laysFar_45 fl_RX11_63 k0 (okN hN15 k0 (by decide)) rfl e18 ?_
        refine J.iconst (pc := 48) dX11_laysFar_48 ic_0 ?_
        refine J.iload_n (pc := 49) dX11_laysFar_49 rfl 4 rfl ?_
        obtain ⟨μ20, e21, h⟩ := bnd h
        have hN22 : μ20.1 = NN := stI_N e21 hN15
        refine J.wI (pc := 50) dX11_laysFar_50 k19 (okN hN15 k19 (by decide)) e21 ?_
        refine J.iconst (pc := 51) dX11_laysFar_51 ic_1 ?_
        refine J.istore (pc := 52) ([(4, .int (1 : Int32)), (3, .int (0 : Int32)), (0, .ref v0), (1, .int v1), (2, .int v2)]) dX11_laysFar_52 (Nat.le_of_ble_eq_true rfl) rfl ?_
        refine J.pick [2, 3, 1, 0] rfl ?_
        exact (tX11_laysFar_54 d fuel) v0 v1 (0 : Int32) (1 : Int32) μ20 h hN22 k0
def fX11_laysFar (v0 : Nat) (v1 : Int32) (v2 : Int32) (μ : Mem) : Option (Mem) :=
  (fX11_laysFar_2 fuel) v0 v1 v2 (0 : Int32) μ
set_option maxHeartbeats 4000000 in
theorem tX11_laysFar {ω : Wd} {l : Launch} (d : Nat) {v0 : Nat} {v1 : Int32} {v2 : Int32} {μ : Mem} {res : Mem} (h : fX11_laysFar v0 v1 v2 μ = some res) (hN : μ.1 = NN) (k0 : (kd v0).1 = 21) : Ct ω l mX11_laysFar (d + 1) [.ref v0, .int v1, .int v2] μ 0 0 (PE (.inl none) res True) := by
  refine Ct.of pn_RX11 (Nat.le_of_ble_eq_true rfl) ?_
  show J ω l mX11_laysFar (d + 1) 0 [(0, .ref v0), (1, .int v1), (2, .int v2)] [] μ 0 0 _
  unfold fX11_laysFar at h
  refine J.iconst (pc := 0) dX11_laysFar_0 ic_0 ?_
  refine J.istore_n (pc := 1) ([(3, .int (0 : Int32)), (0, .ref v0), (1, .int v1), (2, .int v2)]) dX11_laysFar_1 rfl (Nat.le_of_ble_eq_true rfl) rfl ?_
  refine J.pick [1, 2, 3, 0] rfl ?_
  exact (tX11_laysFar_2 d fuel) v0 v1 v2 (0 : Int32) μ h hN k0
