def fX7_isTold (v0 : Nat) (μ : Mem) : Int32 :=
  if 0 < (μ.2.1 v0 1) then
    (1 : Int32)
  else
    (0 : Int32)
set_option maxHeartbeats 4000000 in
theorem tX7_isTold {ω : Wd} {l : Launch} (d : Nat) (v0 : Nat) (μ : Mem) (hN : μ.1 = NN) (k0 : (kd v0).1 = 17) : Ct ω l mX7_isTold d [.ref v0] μ 0 0 (PE (.inl (some (.int (fX7_isTold v0 μ)))) μ (isB (fX7_isTold v0 μ))) := by
  refine Ct.of pn_RX7 (Nat.le_of_ble_eq_true rfl) ?_
  show J ω l mX7_isTold d 0 [(0, .ref v0)] [] μ 0 0 _
  generalize h : fX7_isTold v0 μ = res
  unfold fX7_isTold at h
  refine J.aload_n (pc := 0) dX7_isTold_0 rfl 0 rfl ?_
  refine J.fI (pc := 1) dX7_isTold_1 fl_RX7_15 k0 (okN hN k0 (by decide)) (Or.inl rfl) ?_
  rcases ifc h with ⟨hc, h⟩ | ⟨hc, h⟩
  · refine J.zle (pc := 4) (tgt := 11) dX7_isTold_4 (by decide) (fun _ => ?_) (fun q => absurd hc q)
    refine J.iconst (pc := 7) dX7_isTold_7 ic_1 ?_
    refine J.goto (pc := 8) (tgt := 12) dX7_isTold_8 (by decide) ?_
    cases h
    exact J.zret (pc := 12) dX7_isTold_12 rfl (narB (Or.inr rfl)) ⟨rfl, rfl, hN, (Or.inr rfl)⟩
  · refine J.zle (pc := 4) (tgt := 11) dX7_isTold_4 (by decide) (fun q => absurd q hc) (fun _ => ?_)
    refine J.iconst (pc := 11) dX7_isTold_11 ic_0 ?_
    cases h
    exact J.zret (pc := 12) dX7_isTold_12 rfl (narB (Or.inl rfl)) ⟨rfl, rfl, hN, (Or.inl rfl)⟩
def fX9_crowd_4 (μ : Mem) : Nat → Nat → Int32 → Int32 → Int32 → Option (Int32)
  | 0, _, _, _, _ => none
  | n + 1, v0, v1, v2, v3 =>
    if v3 < (6 : Int32) then
      if v1 = (-1 : Int32) then
        (fX9_crowd_4 μ n) v0 v1 v2 (v3 + (1 : Int32))
      else
        (gR μ v0 4 0).bind fun a1 =>
        (ldI μ a1 v3).bind fun x4 =>
        if x4 = v1 then
          (fX9_crowd_4 μ n) v0 v1 (v2 + (1 : Int32)) (v3 + (1 : Int32))
        else
          (fX9_crowd_4 μ n) v0 v1 v2 (v3 + (1 : Int32))
    else
      some v2
set_option maxHeartbeats 4000000 in
theorem tX9_crowd_4 {ω : Wd} {l : Launch} (d : Nat) {μ : Mem} (hN : μ.1 = NN) {res : Int32} : ∀ n : Nat, ∀ (v0 : Nat) (v1 : Int32) (v2 : Int32) (v3 : Int32), fX9_crowd_4 μ n v0 v1 v2 v3 = some res → (kd v0).1 = 19 → J ω l mX9_crowd d 4 [(0, .ref v0), (1, .int v1), (2, .int v2), (3, .int v3)] [] μ 0 0 (PE (.inl (some (.int res))) μ True) := by
  intro n
  induction n with
  | zero =>
    intro v0 v1 v2 v3 h k0
    have h9 : (none : Option (Int32)) = some res := h
    cases h9
  | succ n ih =>
    intro v0 v1 v2 v3 h k0
    unfold fX9_crowd_4 at h
    refine J.iload_n (pc := 4) dX9_crowd_4 rfl 3 rfl ?_
    refine J.bipush (pc := 5) dX9_crowd_5 ib_6 ?_
    rcases ifc h with ⟨hc, h⟩ | ⟨hc, h⟩
    · refine J.cge (pc := 7) (tgt := 34) dX9_crowd_7 (by decide) (fun _ => ?_) (fun q => absurd hc q)
      refine J.iload_n (pc := 10) dX9_crowd_10 rfl 1 rfl ?_
      refine J.iconst (pc := 11) dX9_crowd_11 ic_m1 ?_
      rcases ifc h with ⟨hc, h⟩ | ⟨hc, h⟩
      · refine J.ceq (pc := 12) (tgt := 28) dX9_crowd_12 (by decide) (fun _ => ?_) (fun q => absurd hc q)
        refine J.iinc (pc := 28) (j := 3) ([(3, .int (v3 + (1 : Int32))), (0, .ref v0), (1, .int v1), (2, .int v2)]) dX9_crowd_28 rfl (iincv ic_1) (Nat.le_of_ble_eq_true rfl) rfl ?_
        refine J.goto (pc := 31) (tgt := 4) dX9_crowd_31 (by decide) ?_
        refine J.pick [1, 2, 3, 0] rfl ?_
        exact ih v0 v1 v2 (v3 + (1 : Int32)) h k0
      · refine J.ceq (pc := 12) (tgt := 28) dX9_crowd_12 (by decide) (fun q => absurd q hc) (fun _ => ?_)
        refine J.aload_n (pc := 15) dX9_crowd_15 rfl 0 rfl ?_
        obtain ⟨a1, e2, h⟩ := bnd h
        have k3 : (kd a1).1 = 0 := gR_k e2
        refine J.fR (pc := 16) dX9_crowd_16 fl_RX9_26 k0 (okN hN k0 (by decide)) rfl e2 ?_
        refine J.iload_n (pc := 19) dX9_crowd_19 rfl 3 rfl ?_
        obtain ⟨x4, e5, h⟩ := bnd h
        refine J.aI (pc := 20) dX9_crowd_20 k3 (okN hN k3 (by decide)) e5 ?_
        refine J.iload_n (pc := 21) dX9_crowd_21 rfl 1 rfl ?_
        rcases ifc h with ⟨hc, h⟩ | ⟨hc, h⟩
        · refine J.cne (pc := 22) (tgt := 28) dX9_crowd_22 (by decide) (fun _ => ?_) (fun q => absurd hc q)
          refine J.iinc (pc := 25) (j := 2) ([(2, .int (v2 + (1 : Int32))), (0, .ref v0), (1, .int v1), (3, .int v3)]) dX9_crowd_25 rfl (iincv ic_1) (Nat.le_of_ble_eq_true rfl) rfl ?_
          refine J.iinc (pc := 28) (j := 3) ([(3, .int (v3 + (1 : Int32))), (2, .int (v2 + (1 : Int32))), (0, .ref v0), (1, .int v1)]) dX9_crowd_28 rfl (iincv ic_1) (Nat.le_of_ble_eq_true rfl) rfl ?_
          refine J.goto (pc := 31) (tgt := 4) dX9_crowd_31 (by decide) ?_
          refine J.pick [2, 3, 1, 0] rfl ?_
          exact ih v0 v1 (v2 + (1 : Int32)) (v3 + (1 : Int32)) h k0
        · refine J.cne (pc := 22) (tgt := 28) dX9_crowd_22 (by decide) (fun q => absurd q hc) (fun _ => ?_)
          refine J.iinc (pc := 28) (j := 3) ([(3, .int (v3 + (1 : Int32))), (0, .ref v0), (1, .int v1), (2, .int v2)]) dX9_crowd_28 rfl (iincv ic_1) (Nat.le_of_ble_eq_true rfl) rfl ?_
          refine J.goto (pc := 31) (tgt := 4) dX9_crowd_31 (by decide) ?_
          refine J.pick [1, 2, 3, 0] rfl ?_
          exact ih v0 v1 v2 (v3 + (1 : Int32)) h k0
    · refine J.cge (pc := 7) (tgt := 34) dX9_crowd_7 (by decide) (fun q => absurd q hc) (fun _ => ?_)
      refine J.iload_n (pc := 34) dX9_crowd_34 rfl 2 rfl ?_
      cases h
      exact J.iret (pc := 35) dX9_crowd_35 rfl ⟨rfl, rfl, hN, trivial⟩
def fX9_crowd (v0 : Nat) (v1 : Int32) (μ : Mem) : Option (Int32) :=
  (fX9_crowd_4 μ fuel) v0 v1 (0 : Int32) (0 : Int32)
set_option maxHeartbeats 4000000 in
theorem tX9_crowd {ω : Wd} {l : Launch} (d : Nat) {v0 : Nat} {v1 : Int32} {μ : Mem} {res : Int32} (h : fX9_crowd v0 v1 μ = some res) (hN : μ.1 = NN) (k0 : (kd v0).1 = 19) : Ct ω l mX9_crowd d [.ref v0, .int v1] μ 0 0 (PE (.inl (some (.int res))) μ True) := by
  refine Ct.of pn_RX9 (Nat.le_of_ble_eq_true rfl) ?_
  show J ω l mX9_crowd d 0 [(0, .ref v0), (1, .int v1)] [] μ 0 0 _
  unfold fX9_crowd at h
  refine J.iconst (pc := 0) dX9_crowd_0 ic_0 ?_
  refine J.istore_n (pc := 1) ([(2, .int (0 : Int32)), (0, .ref v0), (1, .int v1)]) dX9_crowd_1 rfl (Nat.le_of_ble_eq_true rfl) rfl ?_
  refine J.iconst (pc := 2) dX9_crowd_2 ic_0 ?_
  refine J.istore_n (pc := 3) ([(3, .int (0 : Int32)), (2, .int (0 : Int32)), (0, .ref v0), (1, .int v1)]) dX9_crowd_3 rfl (Nat.le_of_ble_eq_true rfl) rfl ?_
  refine J.pick [2, 3, 1, 0] rfl ?_
  exact (tX9_crowd_4 d hN fuel) v0 v1 (0 : Int32) (0 : Int32) h k0
def fX2_fadesBy (v0 : Nat) (v1 : Int32) (μ : Mem) : Option (Int32 × Mem) :=
  (gR μ v0 7 11).bind fun a1 =>
  (gR μ a1 6 17).bind fun a4 =>
  if (fX7_isTold a4 μ) = 0 then
    (gR μ v0 0 19).bind fun a10 =>
    if ((μ.2.1 a10 0) - (μ.2.1 a10 0) / (5 : Int32) * (5 : Int32)) = (4 : Int32) then
      some ((1 : Int32), μ)
    else
      some ((0 : Int32), μ)
  else
    (gR μ v0 6 0).bind fun a13 =>
    (gR μ v0 0 19).bind fun a16 =>
    (gR μ a16 3 0).bind fun a19 =>
    (ldI μ a19 v1).bind fun x22 =>
    (stI μ a13 (0 : Int32) x22).bind fun μ24 =>
    (gR μ24 v0 6 0).bind fun a27 =>
    (stI μ24 a27 (1 : Int32) (v1 - v1 / (8 : Int32) * (8 : Int32))).bind fun μ30 =>
    (gR μ30 v0 6 0).bind fun a33 =>
    (stI μ30 a33 (2 : Int32) (v1 / (8 : Int32))).bind fun μ36 =>
    (gR μ36 v0 6 0).bind fun a39 =>
    (gR μ36 v0 0 19).bind fun a42 =>
    (fX9_crowd a42 v1 μ36).bind fun r46 =>
    (stI μ36 a39 (3 : Int32) r46).bind fun μ49 =>
    (gR μ49 v0 6 0).bind fun a52 =>
    (gR μ49 v0 0 19).bind fun a55 =>
    (stI μ49 a52 (4 : Int32) (μ49.2.1 a55 0)).bind fun μ58 =>
    (gR μ58 v0 7 11).bind fun a61 =>
    (gR μ58 a61 6 17).bind fun a64 =>
    (gR μ58 v0 6 0).bind fun a67 =>
    (fX7_evaluate a64 a67 μ58).bind fun (r72, μ71) =>
    some (r72, μ71)
set_option maxHeartbeats 4000000 in
theorem tX2_fadesBy {ω : Wd} {l : Launch} (d : Nat) {v0 : Nat} {v1 : Int32} {μ : Mem} {res : Int32 × Mem} (h : fX2_fadesBy v0 v1 μ = some res) (hN : μ.1 = NN) (k0 : (kd v0).1 = 12) : Ct ω l mX2_fadesBy (d + 2) [.ref v0, .int v1] μ 0 0 (PE (.inl (some (.int res.1))) res.2 True) := by
  refine Ct.of pn_RX2 (Nat.le_of_ble_eq_true rfl) ?_
  show J ω l mX2_fadesBy (d + 2) 0 [(0, .ref v0), (1, .int v1)] [] μ 0 0 _
  unfold fX2_fadesBy at h
  refine J.aload_n (pc := 0) dX2_fadesBy_0 rfl 0 rfl ?_
  obtain ⟨a1, e2, h⟩ := bnd h
  have k3 : (kd a1).1 = 11 := gR_k e2
  refine J.fR (pc := 1) dX2_fadesBy_1 fl_RX2_42 k0 (okN hN k0 (by decide)) rfl e2 ?_
  obtain ⟨a4, e5, h⟩ := bnd h
  have k6 : (kd a4).1 = 17 := gR_k e5
  refine J.fR (pc := 4) dX2_fadesBy_4 fl_RX2_129 k3 (okN hN k3 (by decide)) rfl e5 ?_
  refine J.callV (Y := mX2_fadesBy) (Z := mX7_isTold) (pc := 7) (st := []) (k2 := 0) (n2 := 0) dX2_fadesBy_7 ml_RX2_94 mo_X7_isTold mv_X7_isTold rfl (tX7_isTold (d + 1) a4 μ hN k6) k6 (okN hN k6 (by decide)).1 (okN hN k6 (by decide)).2 cq_7 (by decide) rfl rfl (Nat.le_of_ble_eq_true rfl) (by decide) (by decide) (fun v ν hp => ?_) (fun i ν hp => nrm hp.1)
  obtain ⟨rfl, rfl, hN8, hb9⟩ := QEl hp
  show J _ _ _ _ 10 _ ([.int (fX7_isTold a4 μ)]) _ _ _ _
  rcases ifc h with ⟨hc, h⟩ | ⟨hc, h⟩
  · refine J.zne (pc := 10) (tgt := 32) dX2_fadesBy_10 (by decide) (fun _ => ?_) (fun q => absurd hc q)
    refine J.aload_n (pc := 13) dX2_fadesBy_13 rfl 0 rfl ?_
    obtain ⟨a10, e11, h⟩ := bnd h
    have k12 : (kd a10).1 = 19 := gR_k e11
    refine J.fR (pc := 14) dX2_fadesBy_14 fl_RX2_12 k0 (okN hN8 k0 (by decide)) rfl e11 ?_
    refine J.fI (pc := 17) dX2_fadesBy_17 fl_RX2_76 k12 (okN hN8 k12 (by decide)) (Or.inl rfl) ?_
    refine J.iconst (pc := 20) dX2_fadesBy_20 ic_5 ?_
    refine J.irem (pc := 21) dX2_fadesBy_21 (by decide) ?_
    refine J.iconst (pc := 22) dX2_fadesBy_22 ic_4 ?_
    rcases ifc h with ⟨hc, h⟩ | ⟨hc, h⟩
    · refine J.cne (pc := 23) (tgt := 30) dX2_fadesBy_23 (by decide) (fun _ => ?_) (fun q => absurd hc q)
      refine J.iconst (pc := 26) dX2_fadesBy_26 ic_1 ?_
      refine J.goto (pc := 27) (tgt := 31) dX2_fadesBy_27 (by decide) ?_
      cases h
      exact J.iret (pc := 31) dX2_fadesBy_31 rfl ⟨rfl, rfl, hN8, trivial⟩
    · refine J.cne (pc := 23) (tgt := 30) dX2_fadesBy_23 (by decide) (fun q => absurd q hc) (fun _ => ?_)
      refine J.iconst (pc := 30) dX2_fadesBy_30 ic_0 ?_
      cases h
      exact J.iret (pc := 31) dX2_fadesBy_31 rfl ⟨rfl, rfl, hN8, trivial⟩
  · refine J.zne (pc := 10) (tgt := 32) dX2_fadesBy_10 (by decide) (fun q => absurd q hc) (fun _ => ?_)
    refine J.aload_n (pc := 32) dX2_fadesBy_32 rfl 0 rfl ?_
    obtain ⟨a13, e14, h⟩ := bnd h
    have k15 : (kd a13).1 = 0 := gR_k e14
    refine J.fR (pc := 33) dX2_fadesBy_33 fl_RX2_39 k0 (okN hN8 k0 (by decide)) rfl e14 ?_
    refine J.iconst (pc := 36) dX2_fadesBy_36 ic_0 ?_
    refine J.aload_n (pc := 37) dX2_fadesBy_37 rfl 0 rfl ?_
    obtain ⟨a16, e17, h⟩ := bnd h
    have k18 : (kd a16).1 = 19 := gR_k e17
    refine J.fR (pc := 38) dX2_fadesBy_38 fl_RX2_12 k0 (okN hN8 k0 (by decide)) rfl e17 ?_
    obtain ⟨a19, e20, h⟩ := bnd h
    have k21 : (kd a19).1 = 0 := gR_k e20
    refine J.fR (pc := 41) dX2_fadesBy_41 fl_RX2_116 k18 (okN hN8 k18 (by decide)) rfl e20 ?_
    refine J.iload_n (pc := 44) dX2_fadesBy_44 rfl 1 rfl ?_
    obtain ⟨x22, e23, h⟩ := bnd h
    refine J.aI (pc := 45) dX2_fadesBy_45 k21 (okN hN8 k21 (by decide)) e23 ?_
    obtain ⟨μ24, e25, h⟩ := bnd h
    have hN26 : μ24.1 = NN := stI_N e25 hN8
    refine J.wI (pc := 46) dX2_fadesBy_46 k15 (okN hN8 k15 (by decide)) e25 ?_
    refine J.aload_n (pc := 47) dX2_fadesBy_47 rfl 0 rfl ?_
    obtain ⟨a27, e28, h⟩ := bnd h
    have k29 : (kd a27).1 = 0 := gR_k e28
    refine J.fR (pc := 48) dX2_fadesBy_48 fl_RX2_39 k0 (okN hN26 k0 (by decide)) rfl e28 ?_
    refine J.iconst (pc := 51) dX2_fadesBy_51 ic_1 ?_
    refine J.iload_n (pc := 52) dX2_fadesBy_52 rfl 1 rfl ?_
    refine J.bipush (pc := 53) dX2_fadesBy_53 ib_8 ?_
    refine J.irem (pc := 55) dX2_fadesBy_55 (by decide) ?_
    obtain ⟨μ30, e31, h⟩ := bnd h
    have hN32 : μ30.1 = NN := stI_N e31 hN26
    refine J.wI (pc := 56) dX2_fadesBy_56 k29 (okN hN26 k29 (by decide)) e31 ?_
    refine J.aload_n (pc := 57) dX2_fadesBy_57 rfl 0 rfl ?_
    obtain ⟨a33, e34, h⟩ := bnd h
    have k35 : (kd a33).1 = 0 := gR_k e34
    refine J.fR (pc := 58) dX2_fadesBy_58 fl_RX2_39 k0 (okN hN32 k0 (by decide)) rfl e34 ?_
    refine J.iconst (pc := 61) dX2_fadesBy_61 ic_2 ?_
    refine J.iload_n (pc := 62) dX2_fadesBy_62 rfl 1 rfl ?_
    refine J.bipush (pc := 63) dX2_fadesBy_63 ib_8 ?_
    refine J.idiv (pc := 65) dX2_fadesBy_65 (by decide) ?_
    obtain ⟨μ36, e37, h⟩ := bnd h
    have hN38 : μ36.1 = NN := stI_N e37 hN32
    refine J.wI (pc := 66) dX2_fadesBy_66 k35 (okN hN32 k35 (by decide)) e37 ?_
    refine J.aload_n (pc := 67) dX2_fadesBy_67 rfl 0 rfl ?_
    obtain ⟨a39, e40, h⟩ := bnd h
    have k41 : (kd a39).1 = 0 := gR_k e40
    refine J.fR (pc := 68) dX2_fadesBy_68 fl_RX2_39 k0 (okN hN38 k0 (by decide)) rfl e40 ?_
    refine J.iconst (pc := 71) dX2_fadesBy_71 ic_3 ?_
    refine J.aload_n (pc := 72) dX2_fadesBy_72 rfl 0 rfl ?_
    obtain ⟨a42, e43, h⟩ := bnd h
    have k44 : (kd a42).1 = 19 := gR_k e43
    refine J.fR (pc := 73) dX2_fadesBy_73 fl_RX2_12 k0 (okN hN38 k0 (by decide)) rfl e43 ?_
    refine J.iload_n (pc := 76) dX2_fadesBy_76 rfl 1 rfl ?_
    obtain ⟨r46, e45, h⟩ := bnd h
    refine J.callV (Y := mX2_fadesBy) (Z := mX9_crowd) (pc := 77) (st := [.int (3 : Int32), .ref a39]) (k2 := 0) (n2 := 0) dX2_fadesBy_77 ml_RX2_132 mo_X9_crowd mv_X9_crowd rfl (tX9_crowd (d + 1) e45 hN38 k44) k44 (okN hN38 k44 (by decide)).1 (okN hN38 k44 (by decide)).2 cq_9 (by decide) rfl rfl (Nat.le_of_ble_eq_true rfl) (by decide) (by decide) (fun v ν hp => ?_) (fun i ν hp => nrm hp.1)
    obtain ⟨rfl, rfl, hN47, hb48⟩ := QEl hp
    show J _ _ _ _ 80 _ ([.int r46, .int (3 : Int32), .ref a39]) _ _ _ _
    obtain ⟨μ49, e50, h⟩ := bnd h
    have hN51 : μ49.1 = NN := stI_N e50 hN47
    refine J.wI (pc := 80) dX2_fadesBy_80 k41 (okN hN47 k41 (by decide)) e50 ?_
    refine J.aload_n (pc := 81) dX2_fadesBy_81 rfl 0 rfl ?_
    obtain ⟨a52, e53, h⟩ := bnd h
    have k54 : (kd a52).1 = 0 := gR_k e53
    refine J.fR (pc := 82) dX2_fadesBy_82 fl_RX2_39 k0 (okN hN51 k0 (by decide)) rfl e53 ?_
    refine J.iconst (pc := 85) dX2_fadesBy_85 ic_4 ?_
    refine J.aload_n (pc := 86) dX2_fadesBy_86 rfl 0 rfl ?_
    obtain ⟨a55, e56, h⟩ := bnd h
    have k57 : (kd a55).1 = 19 := gR_k e56
    refine J.fR (pc := 87) dX2_fadesBy_87 fl_RX2_12 k0 (okN hN51 k0 (by decide)) rfl e56 ?_
    refine J.fI (pc := 90) dX2_fadesBy_90 fl_RX2_76 k57 (okN hN51 k57 (by decide)) (Or.inl rfl) ?_
    obtain ⟨μ58, e59, h⟩ := bnd h
    have hN60 : μ58.1 = NN := stI_N e59 hN51
    refine J.wI (pc := 93) dX2_fadesBy_93 k54 (okN hN51 k54 (by decide)) e59 ?_
    refine J.aload_n (pc := 94) dX2_fadesBy_94 rfl 0 rfl ?_
    obtain ⟨a61, e62, h⟩ := bnd h
    have k63 : (kd a61).1 = 11 := gR_k e62
    refine J.fR (pc := 95) dX2_fadesBy_95 fl_RX2_42 k0 (okN hN60 k0 (by decide)) rfl e62 ?_
    obtain ⟨a64, e65, h⟩ := bnd h
    have k66 : (kd a64).1 = 17 := gR_k e65
    refine J.fR (pc := 98) dX2_fadesBy_98 fl_RX2_129 k63 (okN hN60 k63 (by decide)) rfl e65 ?_
    refine J.aload_n (pc := 101) dX2_fadesBy_101 rfl 0 rfl ?_
    obtain ⟨a67, e68, h⟩ := bnd h
    have k69 : (kd a67).1 = 0 := gR_k e68
    refine J.fR (pc := 102) dX2_fadesBy_102 fl_RX2_39 k0 (okN hN60 k0 (by decide)) rfl e68 ?_
    obtain ⟨⟨r72, μ71⟩, e70, h⟩ := bnd h
    try dsimp only at h
    refine J.callV (Y := mX2_fadesBy) (Z := mX7_evaluate) (pc := 105) (st := []) (k2 := 0) (n2 := 0) dX2_fadesBy_105 ml_RX2_107 mo_X7_evaluate mv_X7_evaluate rfl (tX7_evaluate d e70 hN60 k66 k69) k66 (okN hN60 k66 (by decide)).1 (okN hN60 k66 (by decide)).2 cq_7 (by decide) rfl rfl (Nat.le_of_ble_eq_true rfl) (by decide) (by decide) (fun v ν hp => ?_) (fun i ν hp => nrm hp.1)
    obtain ⟨rfl, rfl, hN73, hb74⟩ := QEl hp
    show J _ _ _ _ 108 _ ([.int r72]) _ _ _ _
    cases h
    exact J.iret (pc := 108) dX2_fadesBy_108 rfl ⟨rfl, rfl, hN73, trivial⟩
def fX10_bit (v0 : Int32) : Int64 :=
  ((1 : Int64) <<< (v0.toInt64 &&& 63))
set_option maxHeartbeats 4000000 in
theorem tX10_bit {ω : Wd} {l : Launch} (d : Nat) (v0 : Int32) (μ : Mem) (hN : μ.1 = NN) : Ct ω l mX10_bit d [.int v0] μ 0 0 (PE (.inl (some (.long (fX10_bit v0)))) μ True) := by
  refine Ct.of pn_RX10 (Nat.le_of_ble_eq_true rfl) ?_
  show J ω l mX10_bit d 0 [(0, .int v0)] [] μ 0 0 _
  generalize h : fX10_bit v0 = res
  unfold fX10_bit at h
  refine J.lconst (pc := 0) dX10_bit_0 lc_1 ?_
  refine J.iload_n (pc := 1) dX10_bit_1 rfl 0 rfl ?_
  refine J.lshl (pc := 2) dX10_bit_2 ?_
  cases h
  exact J.lret (pc := 3) dX10_bit_3 rfl ⟨rfl, rfl, hN, trivial⟩
def fX9_setInk (v0 : Nat) (v1 : Int32) (v2 : Int32) (μ : Mem) : Option (Mem) :=
  (gR μ v0 3 0).bind fun a1 =>
  (stI μ a1 v1 v2).bind fun μ4 =>
  if v2 = 0 then
    (some (sL μ4 v0 1 ((μ4.2.2.1 v0 1) ||| (fX10_bit v1)))).bind fun μ10 =>
    some μ10
  else
    (some (sL μ4 v0 1 ((μ4.2.2.1 v0 1) &&& ((fX10_bit v1) ^^^ (-1 : Int64))))).bind fun μ16 =>
    some μ16
set_option maxHeartbeats 4000000 in
theorem tX9_setInk {ω : Wd} {l : Launch} (d : Nat) {v0 : Nat} {v1 : Int32} {v2 : Int32} {μ : Mem} {res : Mem} (h : fX9_setInk v0 v1 v2 μ = some res) (hN : μ.1 = NN) (k0 : (kd v0).1 = 19) : Ct ω l mX9_setInk (d + 1) [.ref v0, .int v1, .int v2] μ 0 0 (PE (.inl none) res True) := by
  refine Ct.of pn_RX9 (Nat.le_of_ble_eq_true rfl) ?_
  show J ω l mX9_setInk (d + 1) 0 [(0, .ref v0), (1, .int v1), (2, .int v2)] [] μ 0 0 _
  unfold fX9_setInk at h
  refine J.aload_n (pc := 0) dX9_setInk_0 rfl 0 rfl ?_
  obtain ⟨a1, e2, h⟩ := bnd h
  have k3 : (kd a1).1 = 0 := gR_k e2
  refine J.fR (pc := 1) dX9_setInk_1 fl_RX9_22 k0 (okN hN k0 (by decide)) rfl e2 ?_
  refine J.iload_n (pc := 4) dX9_setInk_4 rfl 1 rfl ?_
  refine J.iload_n (pc := 5) dX9_setInk_5 rfl 2 rfl ?_
  obtain ⟨μ4, e5, h⟩ := bnd h
  have hN6 : μ4.1 = NN := stI_N e5 hN
  refine J.wI (pc := 6) dX9_setInk_6 k3 (okN hN k3 (by decide)) e5 ?_
  refine J.aload_n (pc := 7) dX9_setInk_7 rfl 0 rfl ?_
  refine J.iload_n (pc := 8) dX9_setInk_8 rfl 2 rfl ?_
  rcases ifc h with ⟨hc, h⟩ | ⟨hc, h⟩
  · refine J.zne (pc := 9) (tgt := 24) dX9_setInk_9 (by decide) (fun _ => ?_) (fun q => absurd hc q)
    refine J.aload_n (pc := 12) dX9_setInk_12 rfl 0 rfl ?_
    refine J.fL (pc := 13) dX9_setInk_13 fl_RX9_15 k0 (okN hN6 k0 (by decide)) rfl ?_
    refine J.iload_n (pc := 16) dX9_setInk_16 rfl 1 rfl ?_
    refine J.callSN (Y := mX9_setInk) (Z := mX10_bit) (pc := 17) (st := [.long (μ4.2.2.1 v0 1), .ref v0]) (k2 := 0) (n2 := 0) dX9_setInk_17 ml_RX9_44 mo_X10_bit ms_X10_bit rfl (tX10_bit d v1 μ4 hN6 ) (fun i ν hp => nrm hp.1) rfl rfl (Nat.le_of_ble_eq_true rfl) (by decide) (by decide) (fun v ν hp => ?_)
    obtain ⟨rfl, rfl, hN8, hb9⟩ := QEl hp
    show J _ _ _ _ 20 _ ([.long (fX10_bit v1), .long (μ4.2.2.1 v0 1), .ref v0]) _ _ _ _
    refine J.lor (pc := 20) dX9_setInk_20 ?_
    refine J.goto (pc := 21) (tgt := 37) dX9_setInk_21 (by decide) ?_
    obtain ⟨μ10, e11, h⟩ := bnd h
    have hN12 : μ10.1 = NN := smN e11 hN8
    refine J.qL (pc := 37) dX9_setInk_37 fl_RX9_15 k0 (okN hN8 k0 (by decide)) rfl rfl e11 ?_
    cases h
    exact J.vret (pc := 40) dX9_setInk_40 rfl ⟨rfl, rfl, hN12, trivial⟩
  · refine J.zne (pc := 9) (tgt := 24) dX9_setInk_9 (by decide) (fun q => absurd q hc) (fun _ => ?_)
    refine J.aload_n (pc := 24) dX9_setInk_24 rfl 0 rfl ?_
    refine J.fL (pc := 25) dX9_setInk_25 fl_RX9_15 k0 (okN hN6 k0 (by decide)) rfl ?_
    refine J.iload_n (pc := 28) dX9_setInk_28 rfl 1 rfl ?_
    refine J.callSN (Y := mX9_setInk) (Z := mX10_bit) (pc := 29) (st := [.long (μ4.2.2.1 v0 1), .ref v0]) (k2 := 0) (n2 := 0) dX9_setInk_29 ml_RX9_44 mo_X10_bit ms_X10_bit rfl (tX10_bit d v1 μ4 hN6 ) (fun i ν hp => nrm hp.1) rfl rfl (Nat.le_of_ble_eq_true rfl) (by decide) (by decide) (fun v ν hp => ?_)
    obtain ⟨rfl, rfl, hN14, hb15⟩ := QEl hp
    show J _ _ _ _ 32 _ ([.long (fX10_bit v1), .long (μ4.2.2.1 v0 1), .ref v0]) _ _ _ _
    refine J.ldc2 (pc := 32) dX9_setInk_32 kl_RX9_48 ?_
    refine J.lxor (pc := 35) dX9_setInk_35 ?_
    refine J.land (pc := 36) dX9_setInk_36 ?_
    obtain ⟨μ16, e17, h⟩ := bnd h
    have hN18 : μ16.1 = NN := smN e17 hN14
    refine J.qL (pc := 37) dX9_setInk_37 fl_RX9_15 k0 (okN hN14 k0 (by decide)) rfl rfl e17 ?_
    cases h
    exact J.vret (pc := 40) dX9_setInk_40 rfl ⟨rfl, rfl, hN18, trivial⟩
def fX2_fade_2  : Nat → Nat → Int32 → Mem → Option (Mem)
  | 0, _, _, _ => none
  | n + 1, v0, v1, μ =>
    if v1 < (48 : Int32) then
      (gR μ v0 0 19).bind fun a1 =>
      (gR μ a1 3 0).bind fun a4 =>
      (ldI μ a4 v1).bind fun x7 =>
      if 0 < x7 then
        (fX2_fadesBy v0 v1 μ).bind fun (r11, μ10) =>
        (gR μ10 v0 0 19).bind fun a14 =>
        (fX9_setInk a14 v1 (x7 - (mxI (0 : Int32) (mnI x7 r11))) μ10).bind fun μ18 =>
        (fX2_fade_2 n) v0 (v1 + (1 : Int32)) μ18
      else
        (fX2_fade_2 n) v0 (v1 + (1 : Int32)) μ
    else
      some μ
set_option maxHeartbeats 4000000 in
theorem tX2_fade_2 {ω : Wd} {l : Launch} (d : Nat) {res : Mem} : ∀ n : Nat, ∀ (v0 : Nat) (v1 : Int32) (μ : Mem), fX2_fade_2 n v0 v1 μ = some res → μ.1 = NN → (kd v0).1 = 12 → J ω l mX2_fade (d + 3) 2 [(0, .ref v0), (1, .int v1)] [] μ 0 0 (PE (.inl none) res True) := by
  intro n
  induction n with
  | zero =>
    intro v0 v1 μ h hN k0
    have h9 : (none : Option (Mem)) = some res := h
    cases h9
  | succ n ih =>
    intro v0 v1 μ h hN k0
    unfold fX2_fade_2 at h
    refine J.iload_n (pc := 2) dX2_fade_2 rfl 1 rfl ?_
    refine J.bipush (pc := 3) dX2_fade_3 ib_48 ?_
    rcases ifc h with ⟨hc, h⟩ | ⟨hc, h⟩
    · refine J.cge (pc := 5) (tgt := 53) dX2_fade_5 (by decide) (fun _ => ?_) (fun q => absurd hc q)
      refine J.aload_n (pc := 8) dX2_fade_8 rfl 0 rfl ?_
      obtain ⟨a1, e2, h⟩ := bnd h
      have k3 : (kd a1).1 = 19 := gR_k e2
      refine J.fR (pc := 9) dX2_fade_9 fl_RX2_12 k0 (okN hN k0 (by decide)) rfl e2 ?_
      obtain ⟨a4, e5, h⟩ := bnd h
      have k6 : (kd a4).1 = 0 := gR_k e5
      refine J.fR (pc := 12) dX2_fade_12 fl_RX2_116 k3 (okN hN k3 (by decide)) rfl e5 ?_
      refine J.iload_n (pc := 15) dX2_fade_15 rfl 1 rfl ?_
      obtain ⟨x7, e8, h⟩ := bnd h
      refine J.aI (pc := 16) dX2_fade_16 k6 (okN hN k6 (by decide)) e8 ?_
      refine J.istore_n (pc := 17) ([(2, .int x7), (0, .ref v0), (1, .int v1)]) dX2_fade_17 rfl (Nat.le_of_ble_eq_true rfl) rfl ?_
      refine J.iload_n (pc := 18) dX2_fade_18 rfl 0 rfl ?_
      rcases ifc h with ⟨hc, h⟩ | ⟨hc, h⟩
      · refine J.zle (pc := 19) (tgt := 47) dX2_fade_19 (by decide) (fun _ => ?_) (fun q => absurd hc q)
        refine J.iconst (pc := 22) dX2_fade_22 ic_0 ?_
        refine J.iload_n (pc := 23) dX2_fade_23 rfl 0 rfl ?_
        refine J.aload_n (pc := 24) dX2_fade_24 rfl 1 rfl ?_
        refine J.iload_n (pc := 25) dX2_fade_25 rfl 2 rfl ?_
        obtain ⟨⟨r11, μ10⟩, e9, h⟩ := bnd h
        try dsimp only at h
        refine J.callV (Y := mX2_fade) (Z := mX2_fadesBy) (pc := 26) (st := [.int x7, .int (0 : Int32)]) (k2 := 0) (n2 := 0) dX2_fade_26 ml_RX2_119 mo_X2_fadesBy mv_X2_fadesBy rfl (tX2_fadesBy d e9 hN k0) k0 (okN hN k0 (by decide)).1 (okN hN k0 (by decide)).2 cq_2 (by decide) rfl rfl (Nat.le_of_ble_eq_true rfl) (by decide) (by decide) (fun v ν hp => ?_) (fun i ν hp => nrm hp.1)
        obtain ⟨rfl, rfl, hN12, hb13⟩ := QEl hp
        show J _ _ _ _ 29 _ ([.int r11, .int x7, .int (0 : Int32)]) _ _ _ _
        refine J.mmin (pc := 29) dX2_fade_29 ml_RX2_111 (Nat.le_of_ble_eq_true rfl) ?_
        refine J.mmax (pc := 32) dX2_fade_32 ml_RX2_122 (Nat.le_of_ble_eq_true rfl) ?_
        refine J.istore_n (pc := 35) ([(3, .int (mxI (0 : Int32) (mnI x7 r11))), (2, .int x7), (0, .ref v0), (1, .int v1)]) dX2_fade_35 rfl (Nat.le_of_ble_eq_true rfl) rfl ?_
        refine J.aload_n (pc := 36) dX2_fade_36 rfl 2 rfl ?_
        obtain ⟨a14, e15, h⟩ := bnd h
        have k16 : (kd a14).1 = 19 := gR_k e15
        refine J.fR (pc := 37) dX2_fade_37 fl_RX2_12 k0 (okN hN12 k0 (by decide)) rfl e15 ?_
        refine J.iload_n (pc := 40) dX2_fade_40 rfl 3 rfl ?_
        refine J.iload_n (pc := 41) dX2_fade_41 rfl 1 rfl ?_
        refine J.iload_n (pc := 42) dX2_fade_42 rfl 0 rfl ?_
        refine J.isub (pc := 43) dX2_fade_43 ?_
        obtain ⟨μ18, e17, h⟩ := bnd h
        refine J.callV (Y := mX2_fade) (Z := mX9_setInk) (pc := 44) (st := []) (k2 := 0) (n2 := 0) dX2_fade_44 ml_RX2_125 mo_X9_setInk mv_X9_setInk rfl (tX9_setInk (d + 1) e17 hN12 k16) k16 (okN hN12 k16 (by decide)).1 (okN hN12 k16 (by decide)).2 cq_9 (by decide) rfl rfl (Nat.le_of_ble_eq_true rfl) (by decide) (by decide) (fun v ν hp => ?_) (fun i ν hp => nrm hp.1)
        obtain ⟨rfl, rfl, hN19, hb20⟩ := QEl hp
        show J _ _ _ _ 47 _ ([]) _ _ _ _
        refine J.iinc (pc := 47) (j := 3) ([(1, .int (v1 + (1 : Int32))), (3, .int (mxI (0 : Int32) (mnI x7 r11))), (2, .int x7), (0, .ref v0)]) dX2_fade_47 rfl (iincv ic_1) (Nat.le_of_ble_eq_true rfl) rfl ?_
        refine J.goto (pc := 50) (tgt := 2) dX2_fade_50 (by decide) ?_
        refine J.pick [3, 0] rfl ?_
        exact ih v0 (v1 + (1 : Int32)) μ18 h hN19 k0
      · refine J.zle (pc := 19) (tgt := 47) dX2_fade_19 (by decide) (fun q => absurd q hc) (fun _ => ?_)
        refine J.iinc (pc := 47) (j := 2) ([(1, .int (v1 + (1 : Int32))), (2, .int x7), (0, .ref v0)]) dX2_fade_47 rfl (iincv ic_1) (Nat.le_of_ble_eq_true rfl) rfl ?_
        refine J.goto (pc := 50) (tgt := 2) dX2_fade_50 (by decide) ?_
        refine J.pick [2, 0] rfl ?_
        exact ih v0 (v1 + (1 : Int32)) μ h hN k0
    · refine J.cge (pc := 5) (tgt := 53) dX2_fade_5 (by decide) (fun q => absurd q hc) (fun _ => ?_)
      cases h
      exact J.vret (pc := 53) dX2_fade_53 rfl ⟨rfl, rfl, hN, trivial⟩
def fX2_fade (v0 : Nat) (μ : Mem) : Option (Mem) :=
  (fX2_fade_2 fuel) v0 (0 : Int32) μ
set_option maxHeartbeats 4000000 in
theorem tX2_fade {ω : Wd} {l : Launch} (d : Nat) {v0 : Nat} {μ : Mem} {res : Mem} (h : fX2_fade v0 μ = some res) (hN : μ.1 = NN) (k0 : (kd v0).1 = 12) : Ct ω l mX2_fade (d + 3) [.ref v0] μ 0 0 (PE (.inl none) res True) := by
  refine Ct.of pn_RX2 (Nat.le_of_ble_eq_true rfl) ?_
  show J ω l mX2_fade (d + 3) 0 [(0, .ref v0)] [] μ 0 0 _
  unfold fX2_fade at h
  refine J.iconst (pc := 0) dX2_fade_0 ic_0 ?_
  refine J.istore_n (pc := 1) ([(1, .int (0 : Int32)), (0, .ref v0)]) dX2_fade_1 rfl (Nat.le_of_ble_eq_true rfl) rfl ?_
  refine J.pick [1, 0] rfl ?_
  exact (tX2_fade_2 d fuel) v0 (0 : Int32) μ h hN k0
def fX9_others (v0 : Nat) (v1 : Int32) (μ : Mem) : Option (Int32) :=
  (gR μ v0 4 0).bind fun a1 =>
  (ldI μ a1 v1).bind fun x4 =>
  (fX9_crowd v0 x4 μ).bind fun r7 =>
  some (r7 - (1 : Int32))
set_option maxHeartbeats 4000000 in
theorem tX9_others {ω : Wd} {l : Launch} (d : Nat) {v0 : Nat} {v1 : Int32} {μ : Mem} {res : Int32} (h : fX9_others v0 v1 μ = some res) (hN : μ.1 = NN) (k0 : (kd v0).1 = 19) : Ct ω l mX9_others (d + 1) [.ref v0, .int v1] μ 0 0 (PE (.inl (some (.int res))) μ True) := by
  refine Ct.of pn_RX9 (Nat.le_of_ble_eq_true rfl) ?_
  show J ω l mX9_others (d + 1) 0 [(0, .ref v0), (1, .int v1)] [] μ 0 0 _
  unfold fX9_others at h
  refine J.aload_n (pc := 0) dX9_others_0 rfl 0 rfl ?_
  refine J.aload_n (pc := 1) dX9_others_1 rfl 0 rfl ?_
  obtain ⟨a1, e2, h⟩ := bnd h
  have k3 : (kd a1).1 = 0 := gR_k e2
  refine J.fR (pc := 2) dX9_others_2 fl_RX9_26 k0 (okN hN k0 (by decide)) rfl e2 ?_
  refine J.iload_n (pc := 5) dX9_others_5 rfl 1 rfl ?_
  obtain ⟨x4, e5, h⟩ := bnd h
  refine J.aI (pc := 6) dX9_others_6 k3 (okN hN k3 (by decide)) e5 ?_
  obtain ⟨r7, e6, h⟩ := bnd h
  refine J.callV (Y := mX9_others) (Z := mX9_crowd) (pc := 7) (st := []) (k2 := 0) (n2 := 0) dX9_others_7 ml_RX9_50 mo_X9_crowd mv_X9_crowd rfl (tX9_crowd d e6 hN k0) k0 (okN hN k0 (by decide)).1 (okN hN k0 (by decide)).2 cq_9 (by decide) rfl rfl (Nat.le_of_ble_eq_true rfl) (by decide) (by decide) (fun v ν hp => ?_) (fun i ν hp => nrm hp.1)
  obtain ⟨rfl, rfl, hN8, hb9⟩ := QEl hp
  show J _ _ _ _ 10 _ ([.int r7]) _ _ _ _
  refine J.iconst (pc := 10) dX9_others_10 ic_1 ?_
  refine J.isub (pc := 11) dX9_others_11 ?_
  cases h
  exact J.iret (pc := 12) dX9_others_12 rfl ⟨rfl, rfl, hN8, trivial⟩
def fX2_greet_2  : Nat → Nat → Int32 → Mem → Option (Mem)
  | 0, _, _, _ => none
  | n + 1, v0, v1, μ =>
    (gR μ v0 7 11).bind fun a1 =>
    if v1 < (μ.2.1 a1 1) then
      (gR μ v0 0 19).bind fun a4 =>
      (fX9_others a4 v1 μ).bind fun r8 =>
      (gR μ v0 0 19).bind fun a11 =>
      (gR μ a11 6 0).bind fun a14 =>
      (gR μ v0 0 19).bind fun a17 =>
      (gR μ a17 6 0).bind fun a20 =>
      (ldI μ a20 v1).bind fun x23 =>
      (stI μ a14 v1 (mnI (9999 : Int32) (x23 + r8))).bind fun μ25 =>
      if 0 < r8 then
        (some (sI μ25 v0 5 ((μ25.2.1 v0 5) ||| ((1 : Int32) <<< (v1 &&& 31))))).bind fun μ28 =>
        (fX2_greet_2 n) v0 (v1 + (1 : Int32)) μ28
      else
        (fX2_greet_2 n) v0 (v1 + (1 : Int32)) μ25
    else
      some μ
set_option maxHeartbeats 4000000 in
theorem tX2_greet_2 {ω : Wd} {l : Launch} (d : Nat) {res : Mem} : ∀ n : Nat, ∀ (v0 : Nat) (v1 : Int32) (μ : Mem), fX2_greet_2 n v0 v1 μ = some res → μ.1 = NN → (kd v0).1 = 12 → J ω l mX2_greet (d + 2) 2 [(0, .ref v0), (1, .int v1)] [] μ 0 0 (PE (.inl none) res True) := by
  intro n
  induction n with
  | zero =>
    intro v0 v1 μ h hN k0
    have h9 : (none : Option (Mem)) = some res := h
    cases h9
  | succ n ih =>
    intro v0 v1 μ h hN k0
    unfold fX2_greet_2 at h
    refine J.iload_n (pc := 2) dX2_greet_2 rfl 1 rfl ?_
    refine J.aload_n (pc := 3) dX2_greet_3 rfl 0 rfl ?_
    obtain ⟨a1, e2, h⟩ := bnd h
    have k3 : (kd a1).1 = 11 := gR_k e2
    refine J.fR (pc := 4) dX2_greet_4 fl_RX2_42 k0 (okN hN k0 (by decide)) rfl e2 ?_
    refine J.fI (pc := 7) dX2_greet_7 fl_RX2_57 k3 (okN hN k3 (by decide)) (Or.inl rfl) ?_
    rcases ifc h with ⟨hc, h⟩ | ⟨hc, h⟩
    · refine J.cge (pc := 10) (tgt := 70) dX2_greet_10 (by decide) (fun _ => ?_) (fun q => absurd hc q)
      refine J.aload_n (pc := 13) dX2_greet_13 rfl 0 rfl ?_
      obtain ⟨a4, e5, h⟩ := bnd h
      have k6 : (kd a4).1 = 19 := gR_k e5
      refine J.fR (pc := 14) dX2_greet_14 fl_RX2_12 k0 (okN hN k0 (by decide)) rfl e5 ?_
      refine J.iload_n (pc := 17) dX2_greet_17 rfl 1 rfl ?_
      obtain ⟨r8, e7, h⟩ := bnd h
      refine J.callV (Y := mX2_greet) (Z := mX9_others) (pc := 18) (st := []) (k2 := 0) (n2 := 0) dX2_greet_18 ml_RX2_100 mo_X9_others mv_X9_others rfl (tX9_others d e7 hN k6) k6 (okN hN k6 (by decide)).1 (okN hN k6 (by decide)).2 cq_9 (by decide) rfl rfl (Nat.le_of_ble_eq_true rfl) (by decide) (by decide) (fun v ν hp => ?_) (fun i ν hp => nrm hp.1)
      obtain ⟨rfl, rfl, hN9, hb10⟩ := QEl hp
      show J _ _ _ _ 21 _ ([.int r8]) _ _ _ _
      refine J.istore_n (pc := 21) ([(2, .int r8), (0, .ref v0), (1, .int v1)]) dX2_greet_21 rfl (Nat.le_of_ble_eq_true rfl) rfl ?_
      refine J.aload_n (pc := 22) dX2_greet_22 rfl 1 rfl ?_
      obtain ⟨a11, e12, h⟩ := bnd h
      have k13 : (kd a11).1 = 19 := gR_k e12
      refine J.fR (pc := 23) dX2_greet_23 fl_RX2_12 k0 (okN hN9 k0 (by decide)) rfl e12 ?_
      obtain ⟨a14, e15, h⟩ := bnd h
      have k16 : (kd a14).1 = 0 := gR_k e15
      refine J.fR (pc := 26) dX2_greet_26 fl_RX2_104 k13 (okN hN9 k13 (by decide)) rfl e15 ?_
      refine J.iload_n (pc := 29) dX2_greet_29 rfl 2 rfl ?_
      refine J.sipush (pc := 30) dX2_greet_30 is_9999 ?_
      refine J.aload_n (pc := 33) dX2_greet_33 rfl 1 rfl ?_
      obtain ⟨a17, e18, h⟩ := bnd h
      have k19 : (kd a17).1 = 19 := gR_k e18
      refine J.fR (pc := 34) dX2_greet_34 fl_RX2_12 k0 (okN hN9 k0 (by decide)) rfl e18 ?_
      obtain ⟨a20, e21, h⟩ := bnd h
      have k22 : (kd a20).1 = 0 := gR_k e21
      refine J.fR (pc := 37) dX2_greet_37 fl_RX2_104 k19 (okN hN9 k19 (by decide)) rfl e21 ?_
      refine J.iload_n (pc := 40) dX2_greet_40 rfl 2 rfl ?_
      obtain ⟨x23, e24, h⟩ := bnd h
      refine J.aI (pc := 41) dX2_greet_41 k22 (okN hN9 k22 (by decide)) e24 ?_
      refine J.iload_n (pc := 42) dX2_greet_42 rfl 0 rfl ?_
      refine J.iadd (pc := 43) dX2_greet_43 ?_
      refine J.mmin (pc := 44) dX2_greet_44 ml_RX2_111 (Nat.le_of_ble_eq_true rfl) ?_
      obtain ⟨μ25, e26, h⟩ := bnd h
      have hN27 : μ25.1 = NN := stI_N e26 hN9
      refine J.wI (pc := 47) dX2_greet_47 k16 (okN hN9 k16 (by decide)) e26 ?_
      refine J.iload_n (pc := 48) dX2_greet_48 rfl 0 rfl ?_
      rcases ifc h with ⟨hc, h⟩ | ⟨hc, h⟩
      · refine J.zle (pc := 49) (tgt := 64) dX2_greet_49 (by decide) (fun _ => ?_) (fun q => absurd hc q)
        refine J.aload_n (pc := 52) dX2_greet_52 rfl 1 rfl ?_
        refine J.dup (pc := 53) dX2_greet_53 rfl ?_
        refine J.fI (pc := 54) dX2_greet_54 fl_RX2_35 k0 (okN hN27 k0 (by decide)) (Or.inl rfl) ?_
        refine J.iconst (pc := 57) dX2_greet_57 ic_1 ?_
        refine J.iload_n (pc := 58) dX2_greet_58 rfl 2 rfl ?_
        refine J.ishl (pc := 59) dX2_greet_59 ?_
        refine J.ior (pc := 60) dX2_greet_60 ?_
        obtain ⟨μ28, e29, h⟩ := bnd h
        have hN30 : μ28.1 = NN := smN e29 hN27
        refine J.qI (pc := 61) dX2_greet_61 fl_RX2_35 k0 (okN hN27 k0 (by decide)) rfl rfl e29 ?_
        refine J.iinc (pc := 64) (j := 2) ([(1, .int (v1 + (1 : Int32))), (2, .int r8), (0, .ref v0)]) dX2_greet_64 rfl (iincv ic_1) (Nat.le_of_ble_eq_true rfl) rfl ?_
        refine J.goto (pc := 67) (tgt := 2) dX2_greet_67 (by decide) ?_
        refine J.pick [2, 0] rfl ?_
        exact ih v0 (v1 + (1 : Int32)) μ28 h hN30 k0
      · refine J.zle (pc := 49) (tgt := 64) dX2_greet_49 (by decide) (fun q => absurd q hc) (fun _ => ?_)
        refine J.iinc (pc := 64) (j := 2) ([(1, .int (v1 + (1 : Int32))), (2, .int r8), (0, .ref v0)]) dX2_greet_64 rfl (iincv ic_1) (Nat.le_of_ble_eq_true rfl) rfl ?_
        refine J.goto (pc := 67) (tgt := 2) dX2_greet_67 (by decide) ?_
        refine J.pick [2, 0] rfl ?_
        exact ih v0 (v1 + (1 : Int32)) μ25 h hN27 k0
    · refine J.cge (pc := 10) (tgt := 70) dX2_greet_10 (by decide) (fun q => absurd q hc) (fun _ => ?_)
      cases h
      exact J.vret (pc := 70) dX2_greet_70 rfl ⟨rfl, rfl, hN, trivial⟩
def fX2_greet (v0 : Nat) (μ : Mem) : Option (Mem) :=
  (fX2_greet_2 fuel) v0 (0 : Int32) μ
set_option maxHeartbeats 4000000 in
theorem tX2_greet {ω : Wd} {l : Launch} (d : Nat) {v0 : Nat} {μ : Mem} {res : Mem} (h : fX2_greet v0 μ = some res) (hN : μ.1 = NN) (k0 : (kd v0).1 = 12) : Ct ω l mX2_greet (d + 2) [.ref v0] μ 0 0 (PE (.inl none) res True) := by
  refine Ct.of pn_RX2 (Nat.le_of_ble_eq_true rfl) ?_
  show J ω l mX2_greet (d + 2) 0 [(0, .ref v0)] [] μ 0 0 _
  unfold fX2_greet at h
  refine J.iconst (pc := 0) dX2_greet_0 ic_0 ?_
  refine J.istore_n (pc := 1) ([(1, .int (0 : Int32)), (0, .ref v0)]) dX2_greet_1 rfl (Nat.le_of_ble_eq_true rfl) rfl ?_
  refine J.pick [1, 0] rfl ?_
  exact (tX2_greet_2 d fuel) v0 (0 : Int32) μ h hN k0
def fX2_goesOn (v0 : Nat) (v1 : Int32) (v2 : Int32) (v3 : Int32) (μ : Mem) : Option (Int32 × Mem) :=
  (gR μ v0 7 11).bind fun a1 =>
  (gR μ a1 5 17).bind fun a4 =>
  if (fX7_isTold a4 μ) = 0 then
    some ((1 : Int32), μ)
  else
    (gR μ v0 6 0).bind fun a10 =>
    (gR μ v0 2 0).bind fun a13 =>
    (ldI μ a13 v1).bind fun x16 =>
    (stI μ a10 (0 : Int32) x16).bind fun μ18 =>
    (gR μ18 v0 6 0).bind fun a21 =>
    (stI μ18 a21 (1 : Int32) v2).bind fun μ24 =>
    (gR μ24 v0 6 0).bind fun a27 =>
    (stI μ24 a27 (2 : Int32) v3).bind fun μ30 =>
    (gR μ30 v0 6 0).bind fun a33 =>
    (gR μ30 v0 0 19).bind fun a36 =>
    (fX9_others a36 v1 μ30).bind fun r40 =>
    (stI μ30 a33 (3 : Int32) r40).bind fun μ43 =>
    (gR μ43 v0 6 0).bind fun a46 =>
    (gR μ43 v0 0 19).bind fun a49 =>
    (gR μ43 a49 6 0).bind fun a52 =>
    (ldI μ43 a52 v1).bind fun x55 =>
    (stI μ43 a46 (4 : Int32) x55).bind fun μ57 =>
    (gR μ57 v0 6 0).bind fun a60 =>
    (gR μ57 v0 0 19).bind fun a63 =>
    (stI μ57 a60 (5 : Int32) (μ57.2.1 a63 0)).bind fun μ66 =>
    (gR μ66 v0 7 11).bind fun a69 =>
    (gR μ66 a69 5 17).bind fun a72 =>
    (gR μ66 v0 6 0).bind fun a75 =>
    (fX7_evaluate a72 a75 μ66).bind fun (r80, μ79) =>
    if 0 < r80 then
      some ((1 : Int32), μ79)
    else
      some ((0 : Int32), μ79)
set_option maxHeartbeats 4000000 in
theorem tX2_goesOn {ω : Wd} {l : Launch} (d : Nat) {v0 : Nat} {v1 : Int32} {v2 : Int32} {v3 : Int32} {μ : Mem} {res : Int32 × Mem} (h : fX2_goesOn v0 v1 v2 v3 μ = some res) (hN : μ.1 = NN) (k0 : (kd v0).1 = 12) : Ct ω l mX2_goesOn (d + 2) [.ref v0, .int v1, .int v2, .int v3] μ 0 0 (PE (.inl (some (.int res.1))) res.2 (isB res.1)) := by
  refine Ct.of pn_RX2 (Nat.le_of_ble_eq_true rfl) ?_
  show J ω l mX2_goesOn (d + 2) 0 [(0, .ref v0), (1, .int v1), (2, .int v2), (3, .int v3)] [] μ 0 0 _
  unfold fX2_goesOn at h
  refine J.aload_n (pc := 0) dX2_goesOn_0 rfl 0 rfl ?_
  obtain ⟨a1, e2, h⟩ := bnd h
  have k3 : (kd a1).1 = 11 := gR_k e2
  refine J.fR (pc := 1) dX2_goesOn_1 fl_RX2_42 k0 (okN hN k0 (by decide)) rfl e2 ?_
  obtain ⟨a4, e5, h⟩ := bnd h
  have k6 : (kd a4).1 = 17 := gR_k e5
  refine J.fR (pc := 4) dX2_goesOn_4 fl_RX2_90 k3 (okN hN k3 (by decide)) rfl e5 ?_
  refine J.callV (Y := mX2_goesOn) (Z := mX7_isTold) (pc := 7) (st := []) (k2 := 0) (n2 := 0) dX2_goesOn_7 ml_RX2_94 mo_X7_isTold mv_X7_isTold rfl (tX7_isTold (d + 1) a4 μ hN k6) k6 (okN hN k6 (by decide)).1 (okN hN k6 (by decide)).2 cq_7 (by decide) rfl rfl (Nat.le_of_ble_eq_true rfl) (by decide) (by decide) (fun v ν hp => ?_) (fun i ν hp => nrm hp.1)
  obtain ⟨rfl, rfl, hN8, hb9⟩ := QEl hp
  show J _ _ _ _ 10 _ ([.int (fX7_isTold a4 μ)]) _ _ _ _
  rcases ifc h with ⟨hc, h⟩ | ⟨hc, h⟩
  · refine J.zne (pc := 10) (tgt := 15) dX2_goesOn_10 (by decide) (fun _ => ?_) (fun q => absurd hc q)
    refine J.iconst (pc := 13) dX2_goesOn_13 ic_1 ?_
    cases h
    exact J.zret (pc := 14) dX2_goesOn_14 rfl (narB (Or.inr rfl)) ⟨rfl, rfl, hN8, (Or.inr rfl)⟩
  · refine J.zne (pc := 10) (tgt := 15) dX2_goesOn_10 (by decide) (fun q => absurd q hc) (fun _ => ?_)
    refine J.aload_n (pc := 15) dX2_goesOn_15 rfl 0 rfl ?_
    obtain ⟨a10, e11, h⟩ := bnd h
    have k12 : (kd a10).1 = 0 := gR_k e11
    refine J.fR (pc := 16) dX2_goesOn_16 fl_RX2_39 k0 (okN hN8 k0 (by decide)) rfl e11 ?_
    refine J.iconst (pc := 19) dX2_goesOn_19 ic_0 ?_
    refine J.aload_n (pc := 20) dX2_goesOn_20 rfl 0 rfl ?_
    obtain ⟨a13, e14, h⟩ := bnd h
    have k15 : (kd a13).1 = 0 := gR_k e14
    refine J.fR (pc := 21) dX2_goesOn_21 fl_RX2_25 k0 (okN hN8 k0 (by decide)) rfl e14 ?_
    refine J.iload_n (pc := 24) dX2_goesOn_24 rfl 1 rfl ?_
    obtain ⟨x16, e17, h⟩ := bnd h
    refine J.aI (pc := 25) dX2_goesOn_25 k15 (okN hN8 k15 (by decide)) e17 ?_
    obtain ⟨μ18, e19, h⟩ := bnd h
    have hN20 : μ18.1 = NN := stI_N e19 hN8
    refine J.wI (pc := 26) dX2_goesOn_26 k12 (okN hN8 k12 (by decide)) e19 ?_
    refine J.aload_n (pc := 27) dX2_goesOn_27 rfl 0 rfl ?_
    obtain ⟨a21, e22, h⟩ := bnd h
    have k23 : (kd a21).1 = 0 := gR_k e22
    refine J.fR (pc := 28) dX2_goesOn_28 fl_RX2_39 k0 (okN hN20 k0 (by decide)) rfl e22 ?_
    refine J.iconst (pc := 31) dX2_goesOn_31 ic_1 ?_
    refine J.iload_n (pc := 32) dX2_goesOn_32 rfl 2 rfl ?_
    obtain ⟨μ24, e25, h⟩ := bnd h
    have hN26 : μ24.1 = NN := stI_N e25 hN20
    refine J.wI (pc := 33) dX2_goesOn_33 k23 (okN hN20 k23 (by decide)) e25 ?_
    refine J.aload_n (pc := 34) dX2_goesOn_34 rfl 0 rfl ?_
    obtain ⟨a27, e28, h⟩ := bnd h
    have k29 : (kd a27).1 = 0 := gR_k e28
    refine J.fR (pc := 35) dX2_goesOn_35 fl_RX2_39 k0 (okN hN26 k0 (by decide)) rfl e28 ?_
    refine J.iconst (pc := 38) dX2_goesOn_38 ic_2 ?_
    refine J.iload_n (pc := 39) dX2_goesOn_39 rfl 3 rfl ?_
    obtain ⟨μ30, e31, h⟩ := bnd h
    have hN32 : μ30.1 = NN := stI_N e31 hN26
    refine J.wI (pc := 40) dX2_goesOn_40 k29 (okN hN26 k29 (by decide)) e31 ?_
    refine J.aload_n (pc := 41) dX2_goesOn_41 rfl 0 rfl ?_
    obtain ⟨a33, e34, h⟩ := bnd h
    have k35 : (kd a33).1 = 0 := gR_k e34
    refine J.fR (pc := 42) dX2_goesOn_42 fl_RX2_39 k0 (okN hN32 k0 (by decide)) rfl e34 ?_
    refine J.iconst (pc := 45) dX2_goesOn_45 ic_3 ?_
    refine J.aload_n (pc := 46) dX2_goesOn_46 rfl 0 rfl ?_
    obtain ⟨a36, e37, h⟩ := bnd h
    have k38 : (kd a36).1 = 19 := gR_k e37
    refine J.fR (pc := 47) dX2_goesOn_47 fl_RX2_12 k0 (okN hN32 k0 (by decide)) rfl e37 ?_
    refine J.iload_n (pc := 50) dX2_goesOn_50 rfl 1 rfl ?_
    obtain ⟨r40, e39, h⟩ := bnd h
    refine J.callV (Y := mX2_goesOn) (Z := mX9_others) (pc := 51) (st := [.int (3 : Int32), .ref a33]) (k2 := 0) (n2 := 0) dX2_goesOn_51 ml_RX2_100 mo_X9_others mv_X9_others rfl (tX9_others d e39 hN32 k38) k38 (okN hN32 k38 (by decide)).1 (okN hN32 k38 (by decide)).2 cq_9 (by decide) rfl rfl (Nat.le_of_ble_eq_true rfl) (by decide) (by decide) (fun v ν hp => ?_) (fun i ν hp => nrm hp.1)
    obtain ⟨rfl, rfl, hN41, hb42⟩ := QEl hp
    show J _ _ _ _ 54 _ ([.int r40, .int (3 : Int32), .ref a33]) _ _ _ _
    obtain ⟨μ43, e44, h⟩ := bnd h
    have hN45 : μ43.1 = NN := stI_N e44 hN41
    refine J.wI (pc := 54) dX2_goesOn_54 k35 (okN hN41 k35 (by decide)) e44 ?_
    refine J.aload_n (pc := 55) dX2_goesOn_55 rfl 0 rfl ?_
    obtain ⟨a46, e47, h⟩ := bnd h
    have k48 : (kd a46).1 = 0 := gR_k e47
    refine J.fR (pc := 56) dX2_goesOn_56 fl_RX2_39 k0 (okN hN45 k0 (by decide)) rfl e47 ?_
    refine J.iconst (pc := 59) dX2_goesOn_59 ic_4 ?_
    refine J.aload_n (pc := 60) dX2_goesOn_60 rfl 0 rfl ?_
    obtain ⟨a49, e50, h⟩ := bnd h
    have k51 : (kd a49).1 = 19 := gR_k e50
    refine J.fR (pc := 61) dX2_goesOn_61 fl_RX2_12 k0 (okN hN45 k0 (by decide)) rfl e50 ?_
    obtain ⟨a52, e53, h⟩ := bnd h
    have k54 : (kd a52).1 = 0 := gR_k e53
    refine J.fR (pc := 64) dX2_goesOn_64 fl_RX2_104 k51 (okN hN45 k51 (by decide)) rfl e53 ?_
    refine J.iload_n (pc := 67) dX2_goesOn_67 rfl 1 rfl ?_
    obtain ⟨x55, e56, h⟩ := bnd h
    refine J.aI (pc := 68) dX2_goesOn_68 k54 (okN hN45 k54 (by decide)) e56 ?_
    obtain ⟨μ57, e58, h⟩ := bnd h
    have hN59 : μ57.1 = NN := stI_N e58 hN45
    refine J.wI (pc := 69) dX2_goesOn_69 k48 (okN hN45 k48 (by decide)) e58 ?_
    refine J.aload_n (pc := 70) dX2_goesOn_70 rfl 0 rfl ?_
    obtain ⟨a60, e61, h⟩ := bnd h
    have k62 : (kd a60).1 = 0 := gR_k e61
    refine J.fR (pc := 71) dX2_goesOn_71 fl_RX2_39 k0 (okN hN59 k0 (by decide)) rfl e61 ?_
    refine J.iconst (pc := 74) dX2_goesOn_74 ic_5 ?_
    refine J.aload_n (pc := 75) dX2_goesOn_75 rfl 0 rfl ?_
    obtain ⟨a63, e64, h⟩ := bnd h
    have k65 : (kd a63).1 = 19 := gR_k e64
    refine J.fR (pc := 76) dX2_goesOn_76 fl_RX2_12 k0 (okN hN59 k0 (by decide)) rfl e64 ?_
    refine J.fI (pc := 79) dX2_goesOn_79 fl_RX2_76 k65 (okN hN59 k65 (by decide)) (Or.inl rfl) ?_
    obtain ⟨μ66, e67, h⟩ := bnd h
    have hN68 : μ66.1 = NN := stI_N e67 hN59
    refine J.wI (pc := 82) dX2_goesOn_82 k62 (okN hN59 k62 (by decide)) e67 ?_
    refine J.aload_n (pc := 83) dX2_goesOn_83 rfl 0 rfl ?_
    obtain ⟨a69, e70, h⟩ := bnd h
    have k71 : (kd a69).1 = 11 := gR_k e70
    refine J.fR (pc := 84) dX2_goesOn_84 fl_RX2_42 k0 (okN hN68 k0 (by decide)) rfl e70 ?_
    obtain ⟨a72, e73, h⟩ := bnd h
    have k74 : (kd a72).1 = 17 := gR_k e73
    refine J.fR (pc := 87) dX2_goesOn_87 fl_RX2_90 k71 (okN hN68 k71 (by decide)) rfl e73 ?_
    refine J.aload_n (pc := 90) dX2_goesOn_90 rfl 0 rfl ?_
    obtain ⟨a75, e76, h⟩ := bnd h
    have k77 : (kd a75).1 = 0 := gR_k e76
    refine J.fR (pc := 91) dX2_goesOn_91 fl_RX2_39 k0 (okN hN68 k0 (by decide)) rfl e76 ?_
    obtain ⟨⟨r80, μ79⟩, e78, h⟩ := bnd h
    try dsimp only at h
    refine J.callV (Y := mX2_goesOn) (Z := mX7_evaluate) (pc := 94) (st := []) (k2 := 0) (n2 := 0) dX2_goesOn_94 ml_RX2_107 mo_X7_evaluate mv_X7_evaluate rfl (tX7_evaluate d e78 hN68 k74 k77) k74 (okN hN68 k74 (by decide)).1 (okN hN68 k74 (by decide)).2 cq_7 (by decide) rfl rfl (Nat.le_of_ble_eq_true rfl) (by decide) (by decide) (fun v ν hp => ?_) (fun i ν hp => nrm hp.1)
    obtain ⟨rfl, rfl, hN81, hb82⟩ := QEl hp
    show J _ _ _ _ 97 _ ([.int r80]) _ _ _ _
    rcases ifc h with ⟨hc, h⟩ | ⟨hc, h⟩
    · refine J.zle (pc := 97) (tgt := 104) dX2_goesOn_97 (by decide) (fun _ => ?_) (fun q => absurd hc q)
      refine J.iconst (pc := 100) dX2_goesOn_100 ic_1 ?_
      refine J.goto (pc := 101) (tgt := 105) dX2_goesOn_101 (by decide) ?_
      cases h
      exact J.zret (pc := 105) dX2_goesOn_105 rfl (narB (Or.inr rfl)) ⟨rfl, rfl, hN81, (Or.inr rfl)⟩
    · refine J.zle (pc := 97) (tgt := 104) dX2_goesOn_97 (by decide) (fun q => absurd q hc) (fun _ => ?_)
      refine J.iconst (pc := 104) dX2_goesOn_104 ic_0 ?_
      cases h
      exact J.zret (pc := 105) dX2_goesOn_105 rfl (narB (Or.inl rfl)) ⟨rfl, rfl, hN81, (Or.inl rfl)⟩
def fX5_beside (v0 : Nat) (v1 : Int64) (μ : Mem) : Int64 :=
  ((((((v1 <<< ((1 : Int32).toInt64 &&& 63)) &&& (-1103823438082 : Int64)) ||| (((v1.toUInt64 >>> ((1 : Int32).toInt64.toUInt64 &&& Int64.toUInt64 63)).toInt64) &&& (-141289400074369 : Int64))) ||| ((v1 &&& (μ.2.2.1 v0 2)) <<< ((8 : Int32).toInt64 &&& 63))) ||| (((v1.toUInt64 >>> ((8 : Int32).toInt64.toUInt64 &&& Int64.toUInt64 63)).toInt64) &&& (μ.2.2.1 v0 2))) &&& (μ.2.2.1 v0 0))
set_option maxHeartbeats 4000000 in
theorem tX5_beside {ω : Wd} {l : Launch} (d : Nat) (v0 : Nat) (v1 : Int64) (μ : Mem) (hN : μ.1 = NN) (k0 : (kd v0).1 = 15) : Ct ω l mX5_beside d [.ref v0, .long v1] μ 0 0 (PE (.inl (some (.long (fX5_beside v0 v1 μ)))) μ True) := by
  refine Ct.of pn_RX5 (Nat.le_of_ble_eq_true rfl) ?_
  show J ω l mX5_beside d 0 [(0, .ref v0), (1, .long v1)] [] μ 0 0 _
  generalize h : fX5_beside v0 v1 μ = res
  unfold fX5_beside at h
  refine J.lload_n (pc := 0) dX5_beside_0 rfl 1 rfl ?_
  refine J.iconst (pc := 1) dX5_beside_1 ic_1 ?_
  refine J.lshl (pc := 2) dX5_beside_2 ?_
  refine J.ldc2 (pc := 3) dX5_beside_3 kl_RX5_36 ?_
  refine J.land (pc := 6) dX5_beside_6 ?_
  refine J.lstore_n (pc := 7) ([(3, .long ((v1 <<< ((1 : Int32).toInt64 &&& 63)) &&& (-1103823438082 : Int64))), (0, .ref v0), (1, .long v1)]) dX5_beside_7 rfl (Nat.le_of_ble_eq_true rfl) rfl ?_
  refine J.lload_n (pc := 8) dX5_beside_8 rfl 2 rfl ?_
  refine J.iconst (pc := 9) dX5_beside_9 ic_1 ?_
  refine J.lushr (pc := 10) dX5_beside_10 ?_
  refine J.ldc2 (pc := 11) dX5_beside_11 kl_RX5_38 ?_
  refine J.land (pc := 14) dX5_beside_14 ?_
  refine J.lstore (pc := 15) ([(5, .long (((v1.toUInt64 >>> ((1 : Int32).toInt64.toUInt64 &&& Int64.toUInt64 63)).toInt64) &&& (-141289400074369 : Int64))), (3, .long ((v1 <<< ((1 : Int32).toInt64 &&& 63)) &&& (-1103823438082 : Int64))), (0, .ref v0), (1, .long v1)]) dX5_beside_15 (Nat.le_of_ble_eq_true rfl) rfl ?_
  refine J.lload_n (pc := 17) dX5_beside_17 rfl 3 rfl ?_
  refine J.aload_n (pc := 18) dX5_beside_18 rfl 2 rfl ?_
  refine J.fL (pc := 19) dX5_beside_19 fl_RX5_18 k0 (okN hN k0 (by decide)) rfl ?_
  refine J.land (pc := 22) dX5_beside_22 ?_
  refine J.bipush (pc := 23) dX5_beside_23 ib_8 ?_
  refine J.lshl (pc := 25) dX5_beside_25 ?_
  refine J.lstore (pc := 26) ([(7, .long ((v1 &&& (μ.2.2.1 v0 2)) <<< ((8 : Int32).toInt64 &&& 63))), (5, .long (((v1.toUInt64 >>> ((1 : Int32).toInt64.toUInt64 &&& Int64.toUInt64 63)).toInt64) &&& (-141289400074369 : Int64))), (3, .long ((v1 <<< ((1 : Int32).toInt64 &&& 63)) &&& (-1103823438082 : Int64))), (0, .ref v0), (1, .long v1)]) dX5_beside_26 (Nat.le_of_ble_eq_true rfl) rfl ?_
  refine J.lload_n (pc := 28) dX5_beside_28 rfl 4 rfl ?_
  refine J.bipush (pc := 29) dX5_beside_29 ib_8 ?_
  refine J.lushr (pc := 31) dX5_beside_31 ?_
  refine J.aload_n (pc := 32) dX5_beside_32 rfl 3 rfl ?_
  refine J.fL (pc := 33) dX5_beside_33 fl_RX5_18 k0 (okN hN k0 (by decide)) rfl ?_
  refine J.land (pc := 36) dX5_beside_36 ?_
  refine J.lstore (pc := 37) ([(9, .long (((v1.toUInt64 >>> ((8 : Int32).toInt64.toUInt64 &&& Int64.toUInt64 63)).toInt64) &&& (μ.2.2.1 v0 2))), (7, .long ((v1 &&& (μ.2.2.1 v0 2)) <<< ((8 : Int32).toInt64 &&& 63))), (5, .long (((v1.toUInt64 >>> ((1 : Int32).toInt64.toUInt64 &&& Int64.toUInt64 63)).toInt64) &&& (-141289400074369 : Int64))), (3, .long ((v1 <<< ((1 : Int32).toInt64 &&& 63)) &&& (-1103823438082 : Int64))), (0, .ref v0), (1, .long v1)]) dX5_beside_37 (Nat.le_of_ble_eq_true rfl) rfl ?_
  refine J.lload_n (pc := 39) dX5_beside_39 rfl 3 rfl ?_
  refine J.lload (pc := 40) dX5_beside_40 2 rfl ?_
  refine J.lor (pc := 42) dX5_beside_42 ?_
  refine J.lload (pc := 43) dX5_beside_43 1 rfl ?_
  refine J.lor (pc := 45) dX5_beside_45 ?_
  refine J.lload (pc := 46) dX5_beside_46 0 rfl ?_
  refine J.lor (pc := 48) dX5_beside_48 ?_
  refine J.aload_n (pc := 49) dX5_beside_49 rfl 4 rfl ?_
  refine J.fL (pc := 50) dX5_beside_50 fl_RX5_9 k0 (okN hN k0 (by decide)) rfl ?_
  refine J.land (pc := 53) dX5_beside_53 ?_
  cases h
  exact J.lret (pc := 54) dX5_beside_54 rfl ⟨rfl, rfl, hN, trivial⟩
def fX5_far_15  : Nat → Nat → Int32 → Int64 → Int32 → Mem → Option (Int32 × Mem)
  | 0, _, _, _, _, _ => none
  | n + 1, v0, v1, v3, v5, μ =>
    if v5 < (48 : Int32) then
      (gR μ v0 3 1).bind fun a1 =>
      (ldL μ a1 v5).bind fun x4 =>
      if (x4 &&& (fX10_bit v1)) = (0 : Int64) then
        (gR μ v0 3 1).bind fun a9 =>
        (ldL μ a9 v5).bind fun x12 =>
        if ((fX5_beside v0 (x12 &&& (μ.2.2.1 v0 1)) μ) &&& (v3 ^^^ (-1 : Int64))) = (0 : Int64) then
          some ((-1 : Int32), μ)
        else
          (gR μ v0 3 1).bind fun a17 =>
          (stL μ a17 (v5 + (1 : Int32)) ((fX5_beside v0 (x12 &&& (μ.2.2.1 v0 1)) μ) &&& (v3 ^^^ (-1 : Int64)))).bind fun μ20 =>
          (fX5_far_15 n) v0 v1 (v3 ||| ((fX5_beside v0 (x12 &&& (μ.2.2.1 v0 1)) μ) &&& (v3 ^^^ (-1 : Int64)))) (v5 + (1 : Int32)) μ20
      else
        some (v5, μ)
    else
      some ((-1 : Int32), μ)
set_option maxHeartbeats 4000000 in
theorem tX5_far_15 {ω : Wd} {l : Launch} (d : Nat) {res : Int32 × Mem} : ∀ n : Nat, ∀ (v0 : Nat) (v1 : Int32) (v3 : Int64) (v5 : Int32) (μ : Mem), fX5_far_15 n v0 v1 v3 v5 μ = some res → μ.1 = NN → (kd v0).1 = 15 → J ω l mX5_far (d + 1) 15 [(0, .ref v0), (1, .int v1), (3, .long v3), (5, .int v5)] [] μ 0 0 (PE (.inl (some (.int res.1))) res.2 True) := by
  intro n
  induction n with
  | zero =>
    intro v0 v1 v3 v5 μ h hN k0
    have h9 : (none : Option (Int32 × Mem)) = some res := h
    cases h9
  | succ n ih =>
    intro v0 v1 v3 v5 μ h hN k0
    unfold fX5_far_15 at h
    refine J.iload (pc := 15) dX5_far_15 3 rfl ?_
    refine J.bipush (pc := 17) dX5_far_17 ib_48 ?_
    rcases ifc h with ⟨hc, h⟩ | ⟨hc, h⟩
    · refine J.cge (pc := 19) (tgt := 97) dX5_far_19 (by decide) (fun _ => ?_) (fun q => absurd hc q)
      refine J.aload_n (pc := 22) dX5_far_22 rfl 0 rfl ?_
      obtain ⟨a1, e2, h⟩ := bnd h
      have k3 : (kd a1).1 = 1 := gR_k e2
      refine J.fR (pc := 23) dX5_far_23 fl_RX5_21 k0 (okN hN k0 (by decide)) rfl e2 ?_
      refine J.iload (pc := 26) dX5_far_26 3 rfl ?_
      obtain ⟨x4, e5, h⟩ := bnd h
      refine J.aL (pc := 28) dX5_far_28 k3 (okN hN k3 (by decide)) e5 ?_
      refine J.iload_n (pc := 29) dX5_far_29 rfl 1 rfl ?_
      refine J.callSN (Y := mX5_far) (Z := mX10_bit) (pc := 30) (st := [.long x4]) (k2 := 0) (n2 := 0) dX5_far_30 ml_RX5_40 mo_X10_bit ms_X10_bit rfl (tX10_bit d v1 μ hN ) (fun i ν hp => nrm hp.1) rfl rfl (Nat.le_of_ble_eq_true rfl) (by decide) (by decide) (fun v ν hp => ?_)
      obtain ⟨rfl, rfl, hN7, hb8⟩ := QEl hp
      show J _ _ _ _ 33 _ ([.long (fX10_bit v1), .long x4]) _ _ _ _
      refine J.land (pc := 33) dX5_far_33 ?_
      refine J.lconst (pc := 34) dX5_far_34 lc_0 ?_
      rcases ifc h with ⟨hc, h⟩ | ⟨hc, h⟩
      · refine J.meq (pc := 35) (tgt := 42) dX5_far_35 dX5_far_36 (by decide) (fun _ => ?_) (fun q => absurd hc q)
        refine J.aload_n (pc := 42) dX5_far_42 rfl 0 rfl ?_
        refine J.aload_n (pc := 43) dX5_far_43 rfl 0 rfl ?_
        obtain ⟨a9, e10, h⟩ := bnd h
        have k11 : (kd a9).1 = 1 := gR_k e10
        refine J.fR (pc := 44) dX5_far_44 fl_RX5_21 k0 (okN hN7 k0 (by decide)) rfl e10 ?_
        refine J.iload (pc := 47) dX5_far_47 3 rfl ?_
        obtain ⟨x12, e13, h⟩ := bnd h
        refine J.aL (pc := 49) dX5_far_49 k11 (okN hN7 k11 (by decide)) e13 ?_
        refine J.aload_n (pc := 50) dX5_far_50 rfl 0 rfl ?_
        refine J.fL (pc := 51) dX5_far_51 fl_RX5_15 k0 (okN hN7 k0 (by decide)) rfl ?_
        refine J.land (pc := 54) dX5_far_54 ?_
        refine J.callV (Y := mX5_far) (Z := mX5_beside) (pc := 55) (st := []) (k2 := 0) (n2 := 0) dX5_far_55 ml_RX5_44 mo_X5_beside mv_X5_beside rfl (tX5_beside d v0 (x12 &&& (μ.2.2.1 v0 1)) μ hN7 k0) k0 (okN hN7 k0 (by decide)).1 (okN hN7 k0 (by decide)).2 cq_5 (by decide) rfl rfl (Nat.le_of_ble_eq_true rfl) (by decide) (by decide) (fun v ν hp => ?_) (fun i ν hp => nrm hp.1)
        obtain ⟨rfl, rfl, hN15, hb16⟩ := QEl hp
        show J _ _ _ _ 58 _ ([.long (fX5_beside v0 (x12 &&& (μ.2.2.1 v0 1)) μ)]) _ _ _ _
        refine J.lload_n (pc := 58) dX5_far_58 rfl 2 rfl ?_
        refine J.ldc2 (pc := 59) dX5_far_59 kl_RX5_48 ?_
        refine J.lxor (pc := 62) dX5_far_62 ?_
        refine J.land (pc := 63) dX5_far_63 ?_
        refine J.lstore (pc := 64) ([(6, .long ((fX5_beside v0 (x12 &&& (μ.2.2.1 v0 1)) μ) &&& (v3 ^^^ (-1 : Int64)))), (0, .ref v0), (1, .int v1), (3, .long v3), (5, .int v5)]) dX5_far_64 (Nat.le_of_ble_eq_true rfl) rfl ?_
        refine J.lload (pc := 66) dX5_far_66 0 rfl ?_
        refine J.lconst (pc := 68) dX5_far_68 lc_0 ?_
        rcases ifc h with ⟨hc, h⟩ | ⟨hc, h⟩
        · refine J.mne (pc := 69) (tgt := 75) dX5_far_69 dX5_far_70 (by decide) (fun _ => ?_) (fun q => absurd hc q)
          refine J.iconst (pc := 73) dX5_far_73 ic_m1 ?_
          cases h
          exact J.iret (pc := 74) dX5_far_74 rfl ⟨rfl, rfl, hN15, trivial⟩
        · refine J.mne (pc := 69) (tgt := 75) dX5_far_69 dX5_far_70 (by decide) (fun q => absurd q hc) (fun _ => ?_)
          refine J.aload_n (pc := 75) dX5_far_75 rfl 1 rfl ?_
          obtain ⟨a17, e18, h⟩ := bnd h
          have k19 : (kd a17).1 = 1 := gR_k e18
          refine J.fR (pc := 76) dX5_far_76 fl_RX5_21 k0 (okN hN15 k0 (by decide)) rfl e18 ?_
          refine J.iload (pc := 79) dX5_far_79 4 rfl ?_
          refine J.iconst (pc := 81) dX5_far_81 ic_1 ?_
          refine J.iadd (pc := 82) dX5_far_82 ?_
          refine J.lload (pc := 83) dX5_far_83 0 rfl ?_
          obtain ⟨μ20, e21, h⟩ := bnd h
          have hN22 : μ20.1 = NN := stL_N e21 hN15
          refine J.wL (pc := 85) dX5_far_85 k19 (okN hN15 k19 (by decide)) e21 ?_
          refine J.lload_n (pc := 86) dX5_far_86 rfl 3 rfl ?_
          refine J.lload (pc := 87) dX5_far_87 0 rfl ?_
          refine J.lor (pc := 89) dX5_far_89 ?_
          refine J.lstore_n (pc := 90) ([(3, .long (v3 ||| ((fX5_beside v0 (x12 &&& (μ.2.2.1 v0 1)) μ) &&& (v3 ^^^ (-1 : Int64))))), (6, .long ((fX5_beside v0 (x12 &&& (μ.2.2.1 v0 1)) μ) &&& (v3 ^^^ (-1 : Int64)))), (0, .ref v0), (1, .int v1), (5, .int v5)]) dX5_far_90 rfl (Nat.le_of_ble_eq_true rfl) rfl ?_
          refine J.iinc (pc := 91) (j := 4) ([(5, .int (v5 + (1 : Int32))), (3, .long (v3 ||| ((fX5_beside v0 (x12 &&& (μ.2.2.1 v0 1)) μ) &&& (v3 ^^^ (-1 : Int64))))), (6, .long ((fX5_beside v0 (x12 &&& (μ.2.2.1 v0 1)) μ) &&& (v3 ^^^ (-1 : Int64)))), (0, .ref v0), (1, .int v1)]) dX5_far_91 rfl (iincv ic_1) (Nat.le_of_ble_eq_true rfl) rfl ?_
          refine J.goto (pc := 94) (tgt := 15) dX5_far_94 (by decide) ?_
          refine J.pick [3, 4, 1, 0] rfl ?_
          exact ih v0 v1 (v3 ||| ((fX5_beside v0 (x12 &&& (μ.2.2.1 v0 1)) μ) &&& (v3 ^^^ (-1 : Int64)))) (v5 + (1 : Int32)) μ20 h hN22 k0
      · refine J.meq (pc := 35) (tgt := 42) dX5_far_35 dX5_far_36 (by decide) (fun q => absurd q hc) (fun _ => ?_)
        refine J.iload (pc := 39) dX5_far_39 3 rfl ?_
        cases h
        exact J.iret (pc := 41) dX5_far_41 rfl ⟨rfl, rfl, hN7, trivial⟩
    · refine J.cge (pc := 19) (tgt := 97) dX5_far_19 (by decide) (fun q => absurd q hc) (fun _ => ?_)
      refine J.iconst (pc := 97) dX5_far_97 ic_m1 ?_
      cases h
      exact J.iret (pc := 98) dX5_far_98 rfl ⟨rfl, rfl, hN, trivial⟩
def fX5_far (v0 : Nat) (v1 : Int32) (v2 : Int32) (μ : Mem) : Option (Int32 × Mem) :=
  (gR μ v0 3 1).bind fun a4 =>
  (stL μ a4 (0 : Int32) (fX10_bit v2)).bind fun μ7 =>
  (fX5_far_15 fuel) v0 v1 (fX10_bit v2) (0 : Int32) μ7
set_option maxHeartbeats 4000000 in
theorem tX5_far {ω : Wd} {l : Launch} (d : Nat) {v0 : Nat} {v1 : Int32} {v2 : Int32} {μ : Mem} {res : Int32 × Mem} (h : fX5_far v0 v1 v2 μ = some res) (hN : μ.1 = NN) (k0 : (kd v0).1 = 15) : Ct ω l mX5_far (d + 1) [.ref v0, .int v1, .int v2] μ 0 0 (PE (.inl (some (.int res.1))) res.2 True) := by
  refine Ct.of pn_RX5 (Nat.le_of_ble_eq_true rfl) ?_
  show J ω l mX5_far (d + 1) 0 [(0, .ref v0), (1, .int v1), (2, .int v2)] [] μ 0 0 _
  unfold fX5_far at h
  refine J.iload_n (pc := 0) dX5_far_0 rfl 2 rfl ?_
  refine J.callSN (Y := mX5_far) (Z := mX10_bit) (pc := 1) (st := []) (k2 := 0) (n2 := 0) dX5_far_1 ml_RX5_40 mo_X10_bit ms_X10_bit rfl (tX10_bit d v2 μ hN ) (fun i ν hp => nrm hp.1) rfl rfl (Nat.le_of_ble_eq_true rfl) (by decide) (by decide) (fun v ν hp => ?_)
  obtain ⟨rfl, rfl, hN2, hb3⟩ := QEl hp
  show J _ _ _ _ 4 _ ([.long (fX10_bit v2)]) _ _ _ _
  refine J.lstore_n (pc := 4) ([(3, .long (fX10_bit v2)), (0, .ref v0), (1, .int v1), (2, .int v2)]) dX5_far_4 rfl (Nat.le_of_ble_eq_true rfl) rfl ?_
  refine J.aload_n (pc := 5) dX5_far_5 rfl 1 rfl ?_
  obtain ⟨a4, e5, h⟩ := bnd h
  have k6 : (kd a4).1 = 1 := gR_k e5
  refine J.fR (pc := 6) dX5_far_6 fl_RX5_21 k0 (okN hN2 k0 (by decide)) rfl e5 ?_
  refine J.iconst (pc := 9) dX5_far_9 ic_0 ?_
  refine J.lload_n (pc := 10) dX5_far_10 rfl 0 rfl ?_
  obtain ⟨μ7, e8, h⟩ := bnd h
  have hN9 : μ7.1 = NN := stL_N e8 hN2
  refine J.wL (pc := 11) dX5_far_11 k6 (okN hN2 k6 (by decide)) e8 ?_
  refine J.iconst (pc := 12) dX5_far_12 ic_0 ?_
  refine J.istore (pc := 13) ([(5, .int (0 : Int32)), (3, .long (fX10_bit v2)), (0, .ref v0), (1, .int v1), (2, .int v2)]) dX5_far_13 (Nat.le_of_ble_eq_true rfl) rfl ?_
  refine J.pick [2, 3, 1, 0] rfl ?_
  exact (tX5_far_15 d fuel) v0 v1 (fX10_bit v2) (0 : Int32) μ7 h hN9 k0
def fX10_lowest (v0 : Int64) : Int32 :=
  if v0 = (0 : Int64) then
    (-1 : Int32)
  else
    (fJ13_bitCount_95d88 ((v0 &&& (-v0)) - (1 : Int64)))
set_option maxHeartbeats 4000000 in
theorem tX10_lowest {ω : Wd} {l : Launch} (d : Nat) (v0 : Int64) (μ : Mem) (hN : μ.1 = NN) : Ct ω l mX10_lowest (d + 1) [.long v0] μ 0 0 (PE (.inl (some (.int (fX10_lowest v0)))) μ True) := by
  refine Ct.of pn_RX10 (Nat.le_of_ble_eq_true rfl) ?_
  show J ω l mX10_lowest (d + 1) 0 [(0, .long v0)] [] μ 0 0 _
  generalize h : fX10_lowest v0 = res
  unfold fX10_lowest at h
  refine J.lload_n (pc := 0) dX10_lowest_0 rfl 0 rfl ?_
  refine J.lconst (pc := 1) dX10_lowest_1 lc_0 ?_
  rcases ifc h with ⟨hc, h⟩ | ⟨hc, h⟩
  · refine J.mne (pc := 2) (tgt := 10) dX10_lowest_2 dX10_lowest_3 (by decide) (fun _ => ?_) (fun q => absurd hc q)
    refine J.iconst (pc := 6) dX10_lowest_6 ic_m1 ?_
    refine J.goto (pc := 7) (tgt := 19) dX10_lowest_7 (by decide) ?_
    cases h
    exact J.iret (pc := 19) dX10_lowest_19 rfl ⟨rfl, rfl, hN, trivial⟩
  · refine J.mne (pc := 2) (tgt := 10) dX10_lowest_2 dX10_lowest_3 (by decide) (fun q => absurd q hc) (fun _ => ?_)
    refine J.lload_n (pc := 10) dX10_lowest_10 rfl 0 rfl ?_
    refine J.lload_n (pc := 11) dX10_lowest_11 rfl 0 rfl ?_
    refine J.lneg (pc := 12) dX10_lowest_12 ?_
    refine J.land (pc := 13) dX10_lowest_13 ?_
    refine J.lconst (pc := 14) dX10_lowest_14 lc_1 ?_
    refine J.lsub (pc := 15) dX10_lowest_15 ?_
    refine J.callS (Y := mX10_lowest) (Z := mJ13_bitCount_95d88) (pc := 16) (st := []) (k2 := 0) (n2 := 0) dX10_lowest_16 ml_RX10_165 mo_J13_bitCount_95d88 ms_J13_bitCount_95d88 rfl (tJ13_bitCount_95d88 d ((v0 &&& (-v0)) - (1 : Int64)) μ hN ) rfl rfl (Nat.le_of_ble_eq_true rfl) (by decide) (by decide) (fun v ν hp => ?_) (fun i ν hp => nrm hp.1)
    obtain ⟨rfl, rfl, hN2, hb3⟩ := QEl hp
    show J _ _ _ _ 19 _ ([.int (fJ13_bitCount_95d88 ((v0 &&& (-v0)) - (1 : Int64)))]) _ _ _ _
    cases h
    exact J.iret (pc := 19) dX10_lowest_19 rfl ⟨rfl, rfl, hN2, trivial⟩
