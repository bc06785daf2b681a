def fX7_add (v0 : Nat) (v1 : Int32) (μ : Mem) : Option (Mem) :=
  (gR μ v0 0 0).bind fun a1 =>
  if (μ.2.1 v0 1) < (Int32.ofNat (kd a1).2) then
    (gR μ v0 0 0).bind fun a4 =>
    (stI μ a4 (μ.2.1 v0 1) v1).bind fun μ7 =>
    (some (sI μ7 v0 1 ((μ7.2.1 v0 1) + (1 : Int32)))).bind fun μ10 =>
    some μ10
  else
    some μ
set_option maxHeartbeats 4000000 in
theorem tX7_add {ω : Wd} {l : Launch} (d : Nat) {v0 : Nat} {v1 : Int32} {μ : Mem} {res : Mem} (h : fX7_add v0 v1 μ = some res) (hN : μ.1 = NN) (k0 : (kd v0).1 = 17) : Ct ω l mX7_add d [.ref v0, .int v1] μ 0 0 (PE (.inl none) res True) := by
  refine Ct.of pn_RX7 (Nat.le_of_ble_eq_true rfl) ?_
  show J ω l mX7_add d 0 [(0, .ref v0), (1, .int v1)] [] μ 0 0 _
  unfold fX7_add at h
  refine J.aload_n (pc := 0) dX7_add_0 rfl 0 rfl ?_
  refine J.fI (pc := 1) dX7_add_1 fl_RX7_15 k0 (okN hN k0 (by decide)) (Or.inl rfl) ?_
  refine J.aload_n (pc := 4) dX7_add_4 rfl 0 rfl ?_
  obtain ⟨a1, e2, h⟩ := bnd h
  have k3 : (kd a1).1 = 0 := gR_k e2
  refine J.fR (pc := 5) dX7_add_5 fl_RX7_9 k0 (okN hN k0 (by decide)) rfl e2 ?_
  refine J.len (pc := 8) dX7_add_8 k3 (okN hN k3 (by decide)) ?_
  rcases ifc h with ⟨hc, h⟩ | ⟨hc, h⟩
  · refine J.cge (pc := 9) (tgt := 32) dX7_add_9 (by decide) (fun _ => ?_) (fun q => absurd hc q)
    refine J.aload_n (pc := 12) dX7_add_12 rfl 0 rfl ?_
    obtain ⟨a4, e5, h⟩ := bnd h
    have k6 : (kd a4).1 = 0 := gR_k e5
    refine J.fR (pc := 13) dX7_add_13 fl_RX7_9 k0 (okN hN k0 (by decide)) rfl e5 ?_
    refine J.aload_n (pc := 16) dX7_add_16 rfl 0 rfl ?_
    refine J.fI (pc := 17) dX7_add_17 fl_RX7_15 k0 (okN hN k0 (by decide)) (Or.inl rfl) ?_
    refine J.iload_n (pc := 20) dX7_add_20 rfl 1 rfl ?_
    obtain ⟨μ7, e8, h⟩ := bnd h
    have hN9 : μ7.1 = NN := stI_N e8 hN
    refine J.wI (pc := 21) dX7_add_21 k6 (okN hN k6 (by decide)) e8 ?_
    refine J.aload_n (pc := 22) dX7_add_22 rfl 0 rfl ?_
    refine J.dup (pc := 23) dX7_add_23 rfl ?_
    refine J.fI (pc := 24) dX7_add_24 fl_RX7_15 k0 (okN hN9 k0 (by decide)) (Or.inl rfl) ?_
    refine J.iconst (pc := 27) dX7_add_27 ic_1 ?_
    refine J.iadd (pc := 28) dX7_add_28 ?_
    obtain ⟨μ10, e11, h⟩ := bnd h
    have hN12 : μ10.1 = NN := smN e11 hN9
    refine J.qI (pc := 29) dX7_add_29 fl_RX7_15 k0 (okN hN9 k0 (by decide)) rfl rfl e11 ?_
    cases h
    exact J.vret (pc := 32) dX7_add_32 rfl ⟨rfl, rfl, hN12, trivial⟩
  · refine J.cge (pc := 9) (tgt := 32) dX7_add_9 (by decide) (fun q => absurd q hc) (fun _ => ?_)
    cases h
    exact J.vret (pc := 32) dX7_add_32 rfl ⟨rfl, rfl, hN, trivial⟩
def fX7_addValue (v0 : Nat) (v1 : Int32) (μ : Mem) : Option (Mem) :=
  (fX7_add v0 ((-1 : Int32) - v1) μ).bind fun μ2 =>
  some μ2
set_option maxHeartbeats 4000000 in
theorem tX7_addValue {ω : Wd} {l : Launch} (d : Nat) {v0 : Nat} {v1 : Int32} {μ : Mem} {res : Mem} (h : fX7_addValue v0 v1 μ = some res) (hN : μ.1 = NN) (k0 : (kd v0).1 = 17) : Ct ω l mX7_addValue (d + 1) [.ref v0, .int v1] μ 0 0 (PE (.inl none) res True) := by
  refine Ct.of pn_RX7 (Nat.le_of_ble_eq_true rfl) ?_
  show J ω l mX7_addValue (d + 1) 0 [(0, .ref v0), (1, .int v1)] [] μ 0 0 _
  unfold fX7_addValue at h
  refine J.aload_n (pc := 0) dX7_addValue_0 rfl 0 rfl ?_
  refine J.iconst (pc := 1) dX7_addValue_1 ic_m1 ?_
  refine J.iload_n (pc := 2) dX7_addValue_2 rfl 1 rfl ?_
  refine J.isub (pc := 3) dX7_addValue_3 ?_
  obtain ⟨μ2, e1, h⟩ := bnd h
  refine J.callV (pc := 4) (k2 := 0) (n2 := 0) dX7_addValue_4 ml_RX7_22 mo_X7_add mv_X7_add rfl (tX7_add d e1 hN k0) k0 (okN hN k0 (by decide)).1 (okN hN k0 (by decide)).2 cq_7 (by decide) rfl rfl (Nat.le_of_ble_eq_true rfl) (by decide) (by decide) (fun v ν hp => ?_) (fun i ν hp => nrm hp.1)
  obtain ⟨rfl, rfl, hN3, hb4⟩ := PEl hp
  show J _ _ _ _ 7 _ ([]) _ _ _ _
  cases h
  exact J.vret (pc := 7) dX7_addValue_7 rfl ⟨rfl, rfl, hN3, trivial⟩
def fX6_readValue (v0 : Nat) (v1 : Int32) (μ : Mem) : Option (Mem) :=
  if v1 = (-1 : Int32) then
    (fX6_refuse v0 (3 : Int32) μ).bind fun μ2 =>
    some μ2
  else
    (gR μ v0 9 17).bind fun a5 =>
    (fX7_addValue a5 v1 μ).bind fun μ9 =>
    (fX6_advance v0 μ9).bind fun μ13 =>
    some μ13
set_option maxHeartbeats 4000000 in
theorem tX6_readValue {ω : Wd} {l : Launch} (d : Nat) {v0 : Nat} {v1 : Int32} {μ : Mem} {res : Mem} (h : fX6_readValue v0 v1 μ = some res) (hN : μ.1 = NN) (k0 : (kd v0).1 = 16) : Ct ω l mX6_readValue (d + 6) [.ref v0, .int v1] μ 0 0 (PE (.inl none) res True) := by
  refine Ct.of pn_RX6 (Nat.le_of_ble_eq_true rfl) ?_
  show J ω l mX6_readValue (d + 6) 0 [(0, .ref v0), (1, .int v1)] [] μ 0 0 _
  unfold fX6_readValue at h
  refine J.iload_n (pc := 0) dX6_readValue_0 rfl 1 rfl ?_
  refine J.iconst (pc := 1) dX6_readValue_1 ic_m1 ?_
  rcases ifc h with ⟨hc, h⟩ | ⟨hc, h⟩
  · refine J.cne (pc := 2) (tgt := 13) dX6_readValue_2 (by decide) (fun _ => ?_) (fun q => absurd hc q)
    refine J.aload_n (pc := 5) dX6_readValue_5 rfl 0 rfl ?_
    refine J.iconst (pc := 6) dX6_readValue_6 ic_3 ?_
    obtain ⟨μ2, e1, h⟩ := bnd h
    refine J.callV (pc := 7) (k2 := 0) (n2 := 0) dX6_readValue_7 ml_RX6_109 mo_X6_refuse mv_X6_refuse rfl (tX6_refuse (d + 5) e1 hN k0) k0 (okN hN k0 (by decide)).1 (okN hN k0 (by decide)).2 cq_6 (by decide) rfl rfl (Nat.le_of_ble_eq_true rfl) (by decide) (by decide) (fun v ν hp => ?_) (fun i ν hp => nrm hp.1)
    obtain ⟨rfl, rfl, hN3, hb4⟩ := PEl hp
    show J _ _ _ _ 10 _ ([]) _ _ _ _
    refine J.goto (pc := 10) (tgt := 25) dX6_readValue_10 (by decide) ?_
    cases h
    exact J.vret (pc := 25) dX6_readValue_25 rfl ⟨rfl, rfl, hN3, trivial⟩
  · refine J.cne (pc := 2) (tgt := 13) dX6_readValue_2 (by decide) (fun q => absurd q hc) (fun _ => ?_)
    refine J.aload_n (pc := 13) dX6_readValue_13 rfl 0 rfl ?_
    obtain ⟨a5, e6, h⟩ := bnd h
    have k7 : (kd a5).1 = 17 := gR_k e6
    refine J.fR (pc := 14) dX6_readValue_14 fl_RX6_53 k0 (okN hN k0 (by decide)) rfl e6 ?_
    refine J.iload_n (pc := 17) dX6_readValue_17 rfl 1 rfl ?_
    obtain ⟨μ9, e8, h⟩ := bnd h
    refine J.callV (pc := 18) (k2 := 0) (n2 := 0) dX6_readValue_18 ml_RX6_224 mo_X7_addValue mv_X7_addValue rfl (tX7_addValue (d + 4) e8 hN k7) k7 (okN hN k7 (by decide)).1 (okN hN k7 (by decide)).2 cq_7 (by decide) rfl rfl (Nat.le_of_ble_eq_true rfl) (by decide) (by decide) (fun v ν hp => ?_) (fun i ν hp => nrm hp.1)
    obtain ⟨rfl, rfl, hN10, hb11⟩ := PEl hp
    show J _ _ _ _ 21 _ ([]) _ _ _ _
    refine J.aload_n (pc := 21) dX6_readValue_21 rfl 0 rfl ?_
    obtain ⟨μ13, e12, h⟩ := bnd h
    refine J.callV (pc := 22) (k2 := 0) (n2 := 0) dX6_readValue_22 ml_RX6_65 mo_X6_advance mv_X6_advance rfl (tX6_advance d e12 hN10 k0) k0 (okN hN10 k0 (by decide)).1 (okN hN10 k0 (by decide)).2 cq_6 (by decide) rfl rfl (Nat.le_of_ble_eq_true rfl) (by decide) (by decide) (fun v ν hp => ?_) (fun i ν hp => nrm hp.1)
    obtain ⟨rfl, rfl, hN14, hb15⟩ := PEl hp
    show J _ _ _ _ 25 _ ([]) _ _ _ _
    cases h
    exact J.vret (pc := 25) dX6_readValue_25 rfl ⟨rfl, rfl, hN14, trivial⟩
def fX6_wordOf_7 (μ : Mem) : Nat → Nat → Nat → Int32 → Int32 → Int32 → Option (Int32)
  | 0, _, _, _, _, _ => none
  | n + 1, v0, v1, v2, v3, v4 =>
    if (fJ0_length_8abf5 v1) < v4 then
      some (-1 : Int32)
    else
      if v4 = (fJ0_length_8abf5 v1) then
        if (μ.2.1 v0 6) = (256 : Int32) then
          (fX6_isAt v0 v1 v3 v4 μ).bind fun r8 =>
          if r8 = 0 then
            (fX6_wordOf_7 μ n) v0 v1 (v2 + (1 : Int32)) (v4 + (1 : Int32)) (v4 + (1 : Int32))
          else
            some v2
        else
          (fX6_wordOf_7 μ n) v0 v1 (v2 + (1 : Int32)) (v4 + (1 : Int32)) (v4 + (1 : Int32))
      else
        (fJ0_charAt_5068e v1 v4 μ).bind fun r12 =>
        if r12 = (32 : Int32) then
          if (μ.2.1 v0 6) = (256 : Int32) then
            (fX6_isAt v0 v1 v3 v4 μ).bind fun r16 =>
            if r16 = 0 then
              (fX6_wordOf_7 μ n) v0 v1 (v2 + (1 : Int32)) (v4 + (1 : Int32)) (v4 + (1 : Int32))
            else
              some v2
          else
            (fX6_wordOf_7 μ n) v0 v1 (v2 + (1 : Int32)) (v4 + (1 : Int32)) (v4 + (1 : Int32))
        else
          (fX6_wordOf_7 μ n) v0 v1 v2 v3 (v4 + (1 : Int32))
set_option maxHeartbeats 4000000 in
theorem tX6_wordOf_7 {ω : Wd} {l : Launch} (d : Nat) {μ : Mem} (hN : μ.1 = NN) {res : Int32} : ∀ n : Nat, ∀ (v0 : Nat) (v1 : Nat) (v2 : Int32) (v3 : Int32) (v4 : Int32), fX6_wordOf_7 μ n v0 v1 v2 v3 v4 = some res → (kd v0).1 = 16 → v1 < 15 → J ω l mX6_wordOf (d + 5) 7 [(0, .ref v0), (1, .ref (10000 + v1)), (2, .int v2), (3, .int v3), (4, .int v4)] [] μ 0 0 (PE (.inl (some (.int res))) μ True) := by
  intro n
  induction n with
  | zero =>
    intro v0 v1 v2 v3 v4 h k0 k1
    have h9 : (none : Option (Int32)) = some res := h
    cases h9
  | succ n ih =>
    intro v0 v1 v2 v3 v4 h k0 k1
    unfold fX6_wordOf_7 at h
    refine J.iload (pc := 7) dX6_wordOf_7 4 rfl ?_
    refine J.aload_n (pc := 9) dX6_wordOf_9 rfl 1 rfl ?_
    refine J.callT (pc := 10) (k2 := 0) (n2 := 0) dX6_wordOf_10 ml_RX6_98 mo_J0_length_8abf5 mv_J0_length_8abf5 rfl rfl k1 (tJ0_length_8abf5 (d + 3) v1 μ hN k1) rfl rfl (Nat.le_of_ble_eq_true rfl) (by decide) (by decide) (fun v ν hp => ?_) (fun i ν hp => nrm hp.1)
    obtain ⟨rfl, rfl, hN2, hb3⟩ := PEl hp
    show J _ _ _ _ 13 _ ([.int (fJ0_length_8abf5 v1), .int v4]) _ _ _ _
    rcases ifc h with ⟨hc, h⟩ | ⟨hc, h⟩
    · refine J.cgt (pc := 13) (tgt := 73) dX6_wordOf_13 (by decide) (fun _ => ?_) (fun q => absurd hc q)
      refine J.iconst (pc := 73) dX6_wordOf_73 ic_m1 ?_
      cases h
      exact J.iret (pc := 74) dX6_wordOf_74 rfl ⟨rfl, rfl, hN2, trivial⟩
    · refine J.cgt (pc := 13) (tgt := 73) dX6_wordOf_13 (by decide) (fun q => absurd q hc) (fun _ => ?_)
      refine J.iload (pc := 16) dX6_wordOf_16 4 rfl ?_
      refine J.aload_n (pc := 18) dX6_wordOf_18 rfl 1 rfl ?_
      refine J.callT (pc := 19) (k2 := 0) (n2 := 0) dX6_wordOf_19 ml_RX6_98 mo_J0_length_8abf5 mv_J0_length_8abf5 rfl rfl k1 (tJ0_length_8abf5 (d + 3) v1 μ hN2 k1) rfl rfl (Nat.le_of_ble_eq_true rfl) (by decide) (by decide) (fun v ν hp => ?_) (fun i ν hp => nrm hp.1)
      obtain ⟨rfl, rfl, hN5, hb6⟩ := PEl hp
      show J _ _ _ _ 22 _ ([.int (fJ0_length_8abf5 v1), .int v4]) _ _ _ _
      rcases ifc h with ⟨hc, h⟩ | ⟨hc, h⟩
      · refine J.ceq (pc := 22) (tgt := 36) dX6_wordOf_22 (by decide) (fun _ => ?_) (fun q => absurd hc q)
        refine J.aload_n (pc := 36) dX6_wordOf_36 rfl 0 rfl ?_
        refine J.fI (pc := 37) dX6_wordOf_37 fl_RX6_31 k0 (okN hN5 k0 (by decide)) (Or.inl rfl) ?_
        refine J.sipush (pc := 40) dX6_wordOf_40 is_256 ?_
        rcases ifc h with ⟨hc, h⟩ | ⟨hc, h⟩
        · refine J.cne (pc := 43) (tgt := 59) dX6_wordOf_43 (by decide) (fun _ => ?_) (fun q => absurd hc q)
          refine J.aload_n (pc := 46) dX6_wordOf_46 rfl 0 rfl ?_
          refine J.aload_n (pc := 47) dX6_wordOf_47 rfl 1 rfl ?_
          refine J.iload_n (pc := 48) dX6_wordOf_48 rfl 3 rfl ?_
          refine J.iload (pc := 49) dX6_wordOf_49 4 rfl ?_
          obtain ⟨r8, e7, h⟩ := bnd h
          refine J.callV (pc := 51) (k2 := 0) (n2 := 0) dX6_wordOf_51 ml_RX6_101 mo_X6_isAt mv_X6_isAt rfl (tX6_isAt d e7 hN5 k0 k1) k0 (okN hN5 k0 (by decide)).1 (okN hN5 k0 (by decide)).2 cq_6 (by decide) rfl rfl (Nat.le_of_ble_eq_true rfl) (by decide) (by decide) (fun v ν hp => ?_) (fun i ν hp => nrm hp.1)
          obtain ⟨rfl, rfl, hN9, hb10⟩ := PEl hp
          show J _ _ _ _ 54 _ ([.int r8]) _ _ _ _
          rcases ifc h with ⟨hc, h⟩ | ⟨hc, h⟩
          · refine J.zeq (pc := 54) (tgt := 59) dX6_wordOf_54 (by decide) (fun _ => ?_) (fun q => absurd hc q)
            refine J.iinc (pc := 59) (j := 2) ([(2, .int (v2 + (1 : Int32))), (0, .ref v0), (1, .ref (10000 + v1)), (3, .int v3), (4, .int v4)]) dX6_wordOf_59 rfl (iincv ic_1) (Nat.le_of_ble_eq_true rfl) rfl ?_
            refine J.iload (pc := 62) dX6_wordOf_62 4 rfl ?_
            refine J.iconst (pc := 64) dX6_wordOf_64 ic_1 ?_
            refine J.iadd (pc := 65) dX6_wordOf_65 ?_
            refine J.istore_n (pc := 66) ([(3, .int (v4 + (1 : Int32))), (2, .int (v2 + (1 : Int32))), (0, .ref v0), (1, .ref (10000 + v1)), (4, .int v4)]) dX6_wordOf_66 rfl (Nat.le_of_ble_eq_true rfl) rfl ?_
            refine J.iinc (pc := 67) (j := 4) ([(4, .int (v4 + (1 : Int32))), (3, .int (v4 + (1 : Int32))), (2, .int (v2 + (1 : Int32))), (0, .ref v0), (1, .ref (10000 + v1))]) dX6_wordOf_67 rfl (iincv ic_1) (Nat.le_of_ble_eq_true rfl) rfl ?_
            refine J.goto (pc := 70) (tgt := 7) dX6_wordOf_70 (by decide) ?_
            refine J.pick [3, 4, 2, 1, 0] rfl ?_
            exact ih v0 v1 (v2 + (1 : Int32)) (v4 + (1 : Int32)) (v4 + (1 : Int32)) h k0 k1
          · refine J.zeq (pc := 54) (tgt := 59) dX6_wordOf_54 (by decide) (fun q => absurd q hc) (fun _ => ?_)
            refine J.iload_n (pc := 57) dX6_wordOf_57 rfl 2 rfl ?_
            cases h
            exact J.iret (pc := 58) dX6_wordOf_58 rfl ⟨rfl, rfl, hN9, trivial⟩
        · refine J.cne (pc := 43) (tgt := 59) dX6_wordOf_43 (by decide) (fun q => absurd q hc) (fun _ => ?_)
          refine J.iinc (pc := 59) (j := 2) ([(2, .int (v2 + (1 : Int32))), (0, .ref v0), (1, .ref (10000 + v1)), (3, .int v3), (4, .int v4)]) dX6_wordOf_59 rfl (iincv ic_1) (Nat.le_of_ble_eq_true rfl) rfl ?_
          refine J.iload (pc := 62) dX6_wordOf_62 4 rfl ?_
          refine J.iconst (pc := 64) dX6_wordOf_64 ic_1 ?_
          refine J.iadd (pc := 65) dX6_wordOf_65 ?_
          refine J.istore_n (pc := 66) ([(3, .int (v4 + (1 : Int32))), (2, .int (v2 + (1 : Int32))), (0, .ref v0), (1, .ref (10000 + v1)), (4, .int v4)]) dX6_wordOf_66 rfl (Nat.le_of_ble_eq_true rfl) rfl ?_
          refine J.iinc (pc := 67) (j := 4) ([(4, .int (v4 + (1 : Int32))), (3, .int (v4 + (1 : Int32))), (2, .int (v2 + (1 : Int32))), (0, .ref v0), (1, .ref (10000 + v1))]) dX6_wordOf_67 rfl (iincv ic_1) (Nat.le_of_ble_eq_true rfl) rfl ?_
          refine J.goto (pc := 70) (tgt := 7) dX6_wordOf_70 (by decide) ?_
          refine J.pick [3, 4, 2, 1, 0] rfl ?_
          exact ih v0 v1 (v2 + (1 : Int32)) (v4 + (1 : Int32)) (v4 + (1 : Int32)) h k0 k1
      · refine J.ceq (pc := 22) (tgt := 36) dX6_wordOf_22 (by decide) (fun q => absurd q hc) (fun _ => ?_)
        refine J.aload_n (pc := 25) dX6_wordOf_25 rfl 1 rfl ?_
        refine J.iload (pc := 26) dX6_wordOf_26 4 rfl ?_
        obtain ⟨r12, e11, h⟩ := bnd h
        refine J.callT (pc := 28) (k2 := 0) (n2 := 0) dX6_wordOf_28 ml_RX6_105 mo_J0_charAt_5068e mv_J0_charAt_5068e rfl rfl k1 (tJ0_charAt_5068e (d + 1) e11 hN5 k1) rfl rfl (Nat.le_of_ble_eq_true rfl) (by decide) (by decide) (fun v ν hp => ?_) (fun i ν hp => nrm hp.1)
        obtain ⟨rfl, rfl, hN13, hb14⟩ := PEl hp
        show J _ _ _ _ 31 _ ([.int r12]) _ _ _ _
        refine J.bipush (pc := 31) dX6_wordOf_31 ib_32 ?_
        rcases ifc h with ⟨hc, h⟩ | ⟨hc, h⟩
        · refine J.cne (pc := 33) (tgt := 67) dX6_wordOf_33 (by decide) (fun _ => ?_) (fun q => absurd hc q)
          refine J.aload_n (pc := 36) dX6_wordOf_36 rfl 0 rfl ?_
          refine J.fI (pc := 37) dX6_wordOf_37 fl_RX6_31 k0 (okN hN13 k0 (by decide)) (Or.inl rfl) ?_
          refine J.sipush (pc := 40) dX6_wordOf_40 is_256 ?_
          rcases ifc h with ⟨hc, h⟩ | ⟨hc, h⟩
          · refine J.cne (pc := 43) (tgt := 59) dX6_wordOf_43 (by decide) (fun _ => ?_) (fun q => absurd hc q)
            refine J.aload_n (pc := 46) dX6_wordOf_46 rfl 0 rfl ?_
            refine J.aload_n (pc := 47) dX6_wordOf_47 rfl 1 rfl ?_
            refine J.iload_n (pc := 48) dX6_wordOf_48 rfl 3 rfl ?_
            refine J.iload (pc := 49) dX6_wordOf_49 4 rfl ?_
            obtain ⟨r16, e15, h⟩ := bnd h
            refine J.callV (pc := 51) (k2 := 0) (n2 := 0) dX6_wordOf_51 ml_RX6_101 mo_X6_isAt mv_X6_isAt rfl (tX6_isAt d e15 hN13 k0 k1) k0 (okN hN13 k0 (by decide)).1 (okN hN13 k0 (by decide)).2 cq_6 (by decide) rfl rfl (Nat.le_of_ble_eq_true rfl) (by decide) (by decide) (fun v ν hp => ?_) (fun i ν hp => nrm hp.1)
            obtain ⟨rfl, rfl, hN17, hb18⟩ := PEl hp
            show J _ _ _ _ 54 _ ([.int r16]) _ _ _ _
            rcases ifc h with ⟨hc, h⟩ | ⟨hc, h⟩
            · refine J.zeq (pc := 54) (tgt := 59) dX6_wordOf_54 (by decide) (fun _ => ?_) (fun q => absurd hc q)
              refine J.iinc (pc := 59) (j := 2) ([(2, .int (v2 + (1 : Int32))), (0, .ref v0), (1, .ref (10000 + v1)), (3, .int v3), (4, .int v4)]) dX6_wordOf_59 rfl (iincv ic_1) (Nat.le_of_ble_eq_true rfl) rfl ?_
              refine J.iload (pc := 62) dX6_wordOf_62 4 rfl ?_
              refine J.iconst (pc := 64) dX6_wordOf_64 ic_1 ?_
              refine J.iadd (pc := 65) dX6_wordOf_65 ?_
              refine J.istore_n (pc := 66) ([(3, .int (v4 + (1 : Int32))), (2, .int (v2 + (1 : Int32))), (0, .ref v0), (1, .ref (10000 + v1)), (4, .int v4)]) dX6_wordOf_66 rfl (Nat.le_of_ble_eq_true rfl) rfl ?_
              refine J.iinc (pc := 67) (j := 4) ([(4, .int (v4 + (1 : Int32))), (3, .int (v4 + (1 : Int32))), (2, .int (v2 + (1 : Int32))), (0, .ref v0), (1, .ref (10000 + v1))]) dX6_wordOf_67 rfl (iincv ic_1) (Nat.le_of_ble_eq_true rfl) rfl ?_
              refine J.goto (pc := 70) (tgt := 7) dX6_wordOf_70 (by decide) ?_
              refine J.pick [3, 4, 2, 1, 0] rfl ?_
              exact ih v0 v1 (v2 + (1 : Int32)) (v4 + (1 : Int32)) (v4 + (1 : Int32)) h k0 k1
            · refine J.zeq (pc := 54) (tgt := 59) dX6_wordOf_54 (by decide) (fun q => absurd q hc) (fun _ => ?_)
              refine J.iload_n (pc := 57) dX6_wordOf_57 rfl 2 rfl ?_
              cases h
              exact J.iret (pc := 58) dX6_wordOf_58 rfl ⟨rfl, rfl, hN17, trivial⟩
          · refine J.cne (pc := 43) (tgt := 59) dX6_wordOf_43 (by decide) (fun q => absurd q hc) (fun _ => ?_)
            refine J.iinc (pc := 59) (j := 2) ([(2, .int (v2 + (1 : Int32))), (0, .ref v0), (1, .ref (10000 + v1)), (3, .int v3), (4, .int v4)]) dX6_wordOf_59 rfl (iincv ic_1) (Nat.le_of_ble_eq_true rfl) rfl ?_
            refine J.iload (pc := 62) dX6_wordOf_62 4 rfl ?_
            refine J.iconst (pc := 64) dX6_wordOf_64 ic_1 ?_
            refine J.iadd (pc := 65) dX6_wordOf_65 ?_
            refine J.istore_n (pc := 66) ([(3, .int (v4 + (1 : Int32))), (2, .int (v2 + (1 : Int32))), (0, .ref v0), (1, .ref (10000 + v1)), (4, .int v4)]) dX6_wordOf_66 rfl (Nat.le_of_ble_eq_true rfl) rfl ?_
            refine J.iinc (pc := 67) (j := 4) ([(4, .int (v4 + (1 : Int32))), (3, .int (v4 + (1 : Int32))), (2, .int (v2 + (1 : Int32))), (0, .ref v0), (1, .ref (10000 + v1))]) dX6_wordOf_67 rfl (iincv ic_1) (Nat.le_of_ble_eq_true rfl) rfl ?_
            refine J.goto (pc := 70) (tgt := 7) dX6_wordOf_70 (by decide) ?_
            refine J.pick [3, 4, 2, 1, 0] rfl ?_
            exact ih v0 v1 (v2 + (1 : Int32)) (v4 + (1 : Int32)) (v4 + (1 : Int32)) h k0 k1
        · refine J.cne (pc := 33) (tgt := 67) dX6_wordOf_33 (by decide) (fun q => absurd q hc) (fun _ => ?_)
          refine J.iinc (pc := 67) (j := 4) ([(4, .int (v4 + (1 : Int32))), (0, .ref v0), (1, .ref (10000 + v1)), (2, .int v2), (3, .int v3)]) dX6_wordOf_67 rfl (iincv ic_1) (Nat.le_of_ble_eq_true rfl) rfl ?_
          refine J.goto (pc := 70) (tgt := 7) dX6_wordOf_70 (by decide) ?_
          refine J.pick [1, 2, 3, 4, 0] rfl ?_
          exact ih v0 v1 v2 v3 (v4 + (1 : Int32)) h k0 k1
def fX6_wordOf (v0 : Nat) (v1 : Nat) (μ : Mem) : Option (Int32) :=
  (fX6_wordOf_7 μ fuel) v0 v1 (0 : Int32) (0 : Int32) (0 : Int32)
set_option maxHeartbeats 4000000 in
theorem tX6_wordOf {ω : Wd} {l : Launch} (d : Nat) {v0 : Nat} {v1 : Nat} {μ : Mem} {res : Int32} (h : fX6_wordOf v0 v1 μ = some res) (hN : μ.1 = NN) (k0 : (kd v0).1 = 16) (k1 : v1 < 15) : Ct ω l mX6_wordOf (d + 5) [.ref v0, .ref (10000 + v1)] μ 0 0 (PE (.inl (some (.int res))) μ True) := by
  refine Ct.of pn_RX6 (Nat.le_of_ble_eq_true rfl) ?_
  show J ω l mX6_wordOf (d + 5) 0 [(0, .ref v0), (1, .ref (10000 + v1))] [] μ 0 0 _
  unfold fX6_wordOf at h
  refine J.iconst (pc := 0) dX6_wordOf_0 ic_0 ?_
  refine J.istore_n (pc := 1) ([(2, .int (0 : Int32)), (0, .ref v0), (1, .ref (10000 + v1))]) dX6_wordOf_1 rfl (Nat.le_of_ble_eq_true rfl) rfl ?_
  refine J.iconst (pc := 2) dX6_wordOf_2 ic_0 ?_
  refine J.istore_n (pc := 3) ([(3, .int (0 : Int32)), (2, .int (0 : Int32)), (0, .ref v0), (1, .ref (10000 + v1))]) dX6_wordOf_3 rfl (Nat.le_of_ble_eq_true rfl) rfl ?_
  refine J.iconst (pc := 4) dX6_wordOf_4 ic_0 ?_
  refine J.istore (pc := 5) ([(4, .int (0 : Int32)), (3, .int (0 : Int32)), (2, .int (0 : Int32)), (0, .ref v0), (1, .ref (10000 + v1))]) dX6_wordOf_5 (Nat.le_of_ble_eq_true rfl) rfl ?_
  refine J.pick [3, 4, 2, 1, 0] rfl ?_
  exact (tX6_wordOf_7 d hN fuel) v0 v1 (0 : Int32) (0 : Int32) (0 : Int32) h k0 k1
def fX6_readPart (rec : Nat → Int32 → Mem → Option Mem) (v0 : Nat) (v1 : Int32) (μ : Mem) : Option (Mem) :=
  if (μ.2.1 v0 0) = 0 then
    if (μ.2.1 v0 6) = (256 : Int32) then
      (gS μ v0 10).bind fun a1 =>
      (fX6_wordOf v0 a1 μ).bind fun r5 =>
      (fX6_readValue v0 r5 μ).bind fun μ9 =>
      some μ9
    else
      if (μ.2.1 v0 6) = (40 : Int32) then
        (fX6_advance v0 μ).bind fun μ13 =>
        (rec v0 (v1 + (1 : Int32)) μ13).bind fun μ17 =>
        (fX6_pass v0 (41 : Int32) μ17).bind fun μ21 =>
        some μ21
      else
        (gR μ v0 9 17).bind fun a24 =>
        (fX6_numberBelow v0 (10000 : Int32) (2 : Int32) μ).bind fun (r29, μ28) =>
        (fX7_add a24 r29 μ28).bind fun μ33 =>
        if (μ33.2.1 v0 0) = 0 then
          (fX6_advance v0 μ33).bind fun μ37 =>
          some μ37
        else
          some μ33
  else
    some μ
set_option maxHeartbeats 4000000 in
theorem tX6_readPart {ω : Wd} {l : Launch} {d : Nat} {rec : Nat → Int32 → Mem → Option Mem} (hrec : HR ω l d rec) {v0 : Nat} {v1 : Int32} {μ : Mem} {res : Mem} (h : fX6_readPart rec v0 v1 μ = some res) (hN : μ.1 = NN) (k0 : (kd v0).1 = 16) : Ct ω l mX6_readPart (d + 21) [.ref v0, .int v1] μ 0 0 (PE (.inl none) res True) := by
  refine Ct.of pn_RX6 (Nat.le_of_ble_eq_true rfl) ?_
  show J ω l mX6_readPart (d + 21) 0 [(0, .ref v0), (1, .int v1)] [] μ 0 0 _
  unfold fX6_readPart at h
  refine J.aload_n (pc := 0) dX6_readPart_0 rfl 0 rfl ?_
  refine J.fI (pc := 1) dX6_readPart_1 fl_RX6_9 k0 (okN hN k0 (by decide)) (Or.inl rfl) ?_
  rcases ifc h with ⟨hc, h⟩ | ⟨hc, h⟩
  · refine J.zeq (pc := 4) (tgt := 8) dX6_readPart_4 (by decide) (fun _ => ?_) (fun q => absurd hc q)
    refine J.aload_n (pc := 8) dX6_readPart_8 rfl 0 rfl ?_
    refine J.fI (pc := 9) dX6_readPart_9 fl_RX6_31 k0 (okN hN k0 (by decide)) (Or.inl rfl) ?_
    refine J.sipush (pc := 12) dX6_readPart_12 is_256 ?_
    rcases ifc h with ⟨hc, h⟩ | ⟨hc, h⟩
    · refine J.cne (pc := 15) (tgt := 33) dX6_readPart_15 (by decide) (fun _ => ?_) (fun q => absurd hc q)
      refine J.aload_n (pc := 18) dX6_readPart_18 rfl 0 rfl ?_
      refine J.aload_n (pc := 19) dX6_readPart_19 rfl 0 rfl ?_
      refine J.aload_n (pc := 20) dX6_readPart_20 rfl 0 rfl ?_
      obtain ⟨a1, e2, h⟩ := bnd h
      have k3 : a1 < 15 := (gS_ok e2).2
      refine J.fS (pc := 21) dX6_readPart_21 fl_RX6_39 k0 (okN hN k0 (by decide)) rfl e2 ?_
      obtain ⟨r5, e4, h⟩ := bnd h
      refine J.callV (pc := 24) (k2 := 0) (n2 := 0) dX6_readPart_24 ml_RX6_115 mo_X6_wordOf mv_X6_wordOf rfl (tX6_wordOf (d + 15) e4 hN k0 k3) k0 (okN hN k0 (by decide)).1 (okN hN k0 (by decide)).2 cq_6 (by decide) rfl rfl (Nat.le_of_ble_eq_true rfl) (by decide) (by decide) (fun v ν hp => ?_) (fun i ν hp => nrm hp.1)
      obtain ⟨rfl, rfl, hN6, hb7⟩ := PEl hp
      show J _ _ _ _ 27 _ ([.int r5, .ref v0]) _ _ _ _
      obtain ⟨μ9, e8, h⟩ := bnd h
      refine J.callV (pc := 27) (k2 := 0) (n2 := 0) dX6_readPart_27 ml_RX6_221 mo_X6_readValue mv_X6_readValue rfl (tX6_readValue (d + 14) e8 hN6 k0) k0 (okN hN6 k0 (by decide)).1 (okN hN6 k0 (by decide)).2 cq_6 (by decide) rfl rfl (Nat.le_of_ble_eq_true rfl) (by decide) (by decide) (fun v ν hp => ?_) (fun i ν hp => nrm hp.1)
      obtain ⟨rfl, rfl, hN10, hb11⟩ := PEl hp
      show J _ _ _ _ 30 _ ([]) _ _ _ _
      refine J.goto (pc := 30) (tgt := 88) dX6_readPart_30 (by decide) ?_
      cases h
      exact J.vret (pc := 88) dX6_readPart_88 rfl ⟨rfl, rfl, hN10, trivial⟩
    · refine J.cne (pc := 15) (tgt := 33) dX6_readPart_15 (by decide) (fun q => absurd q hc) (fun _ => ?_)
      refine J.aload_n (pc := 33) dX6_readPart_33 rfl 0 rfl ?_
      refine J.fI (pc := 34) dX6_readPart_34 fl_RX6_31 k0 (okN hN k0 (by decide)) (Or.inl rfl) ?_
      refine J.bipush (pc := 37) dX6_readPart_37 ib_40 ?_
      rcases ifc h with ⟨hc, h⟩ | ⟨hc, h⟩
      · refine J.cne (pc := 39) (tgt := 62) dX6_readPart_39 (by decide) (fun _ => ?_) (fun q => absurd hc q)
        refine J.aload_n (pc := 42) dX6_readPart_42 rfl 0 rfl ?_
        obtain ⟨μ13, e12, h⟩ := bnd h
        refine J.callV (pc := 43) (k2 := 0) (n2 := 0) dX6_readPart_43 ml_RX6_65 mo_X6_advance mv_X6_advance rfl (tX6_advance (d + 15) e12 hN k0) k0 (okN hN k0 (by decide)).1 (okN hN k0 (by decide)).2 cq_6 (by decide) rfl rfl (Nat.le_of_ble_eq_true rfl) (by decide) (by decide) (fun v ν hp => ?_) (fun i ν hp => nrm hp.1)
        obtain ⟨rfl, rfl, hN14, hb15⟩ := PEl hp
        show J _ _ _ _ 46 _ ([]) _ _ _ _
        refine J.aload_n (pc := 46) dX6_readPart_46 rfl 0 rfl ?_
        refine J.iload_n (pc := 47) dX6_readPart_47 rfl 1 rfl ?_
        refine J.iconst (pc := 48) dX6_readPart_48 ic_1 ?_
        refine J.iadd (pc := 49) dX6_readPart_49 ?_
        obtain ⟨μ17, e16, h⟩ := bnd h
        refine J.callV (pc := 50) (k2 := 0) (n2 := 0) dX6_readPart_50 ml_RX6_194 mo_X6_readExpr mv_X6_readExpr rfl (hrec v0 (v1 + (1 : Int32)) μ13 _ e16 hN14 k0) k0 (okN hN14 k0 (by decide)).1 (okN hN14 k0 (by decide)).2 cq_6 (by decide) rfl rfl (Nat.le_of_ble_eq_true rfl) (by decide) (by decide) (fun v ν hp => ?_) (fun i ν hp => nrm hp.1)
        obtain ⟨rfl, rfl, hN18, hb19⟩ := PEl hp
        show J _ _ _ _ 53 _ ([]) _ _ _ _
        refine J.aload_n (pc := 53) dX6_readPart_53 rfl 0 rfl ?_
        refine J.bipush (pc := 54) dX6_readPart_54 ib_41 ?_
        obtain ⟨μ21, e20, h⟩ := bnd h
        refine J.callV (pc := 56) (k2 := 0) (n2 := 0) dX6_readPart_56 ml_RX6_137 mo_X6_pass mv_X6_pass rfl (tX6_pass (d + 14) e20 hN18 k0) k0 (okN hN18 k0 (by decide)).1 (okN hN18 k0 (by decide)).2 cq_6 (by decide) rfl rfl (Nat.le_of_ble_eq_true rfl) (by decide) (by decide) (fun v ν hp => ?_) (fun i ν hp => nrm hp.1)
        obtain ⟨rfl, rfl, hN22, hb23⟩ := PEl hp
        show J _ _ _ _ 59 _ ([]) _ _ _ _
        refine J.goto (pc := 59) (tgt := 88) dX6_readPart_59 (by decide) ?_
        cases h
        exact J.vret (pc := 88) dX6_readPart_88 rfl ⟨rfl, rfl, hN22, trivial⟩
      · refine J.cne (pc := 39) (tgt := 62) dX6_readPart_39 (by decide) (fun q => absurd q hc) (fun _ => ?_)
        refine J.aload_n (pc := 62) dX6_readPart_62 rfl 0 rfl ?_
        obtain ⟨a24, e25, h⟩ := bnd h
        have k26 : (kd a24).1 = 17 := gR_k e25
        refine J.fR (pc := 63) dX6_readPart_63 fl_RX6_53 k0 (okN hN k0 (by decide)) rfl e25 ?_
        refine J.aload_n (pc := 66) dX6_readPart_66 rfl 0 rfl ?_
        refine J.sipush (pc := 67) dX6_readPart_67 is_10000 ?_
        refine J.iconst (pc := 70) dX6_readPart_70 ic_2 ?_
        obtain ⟨⟨r29, μ28⟩, e27, h⟩ := bnd h
        try dsimp only at h
        refine J.callV (pc := 71) (k2 := 0) (n2 := 0) dX6_readPart_71 ml_RX6_143 mo_X6_numberBelow mv_X6_numberBelow rfl (tX6_numberBelow (d + 19) e27 hN k0) k0 (okN hN k0 (by decide)).1 (okN hN k0 (by decide)).2 cq_6 (by decide) rfl rfl (Nat.le_of_ble_eq_true rfl) (by decide) (by decide) (fun v ν hp => ?_) (fun i ν hp => nrm hp.1)
        obtain ⟨rfl, rfl, hN30, hb31⟩ := PEl hp
        show J _ _ _ _ 74 _ ([.int r29, .ref a24]) _ _ _ _
        obtain ⟨μ33, e32, h⟩ := bnd h
        refine J.callV (pc := 74) (k2 := 0) (n2 := 0) dX6_readPart_74 ml_RX6_202 mo_X7_add mv_X7_add rfl (tX7_add (d + 20) e32 hN30 k26) k26 (okN hN30 k26 (by decide)).1 (okN hN30 k26 (by decide)).2 cq_7 (by decide) rfl rfl (Nat.le_of_ble_eq_true rfl) (by decide) (by decide) (fun v ν hp => ?_) (fun i ν hp => nrm hp.1)
        obtain ⟨rfl, rfl, hN34, hb35⟩ := PEl hp
        show J _ _ _ _ 77 _ ([]) _ _ _ _
        refine J.aload_n (pc := 77) dX6_readPart_77 rfl 0 rfl ?_
        refine J.fI (pc := 78) dX6_readPart_78 fl_RX6_9 k0 (okN hN34 k0 (by decide)) (Or.inl rfl) ?_
        rcases ifc h with ⟨hc, h⟩ | ⟨hc, h⟩
        · refine J.zne (pc := 81) (tgt := 88) dX6_readPart_81 (by decide) (fun _ => ?_) (fun q => absurd hc q)
          refine J.aload_n (pc := 84) dX6_readPart_84 rfl 0 rfl ?_
          obtain ⟨μ37, e36, h⟩ := bnd h
          refine J.callV (pc := 85) (k2 := 0) (n2 := 0) dX6_readPart_85 ml_RX6_65 mo_X6_advance mv_X6_advance rfl (tX6_advance (d + 15) e36 hN34 k0) k0 (okN hN34 k0 (by decide)).1 (okN hN34 k0 (by decide)).2 cq_6 (by decide) rfl rfl (Nat.le_of_ble_eq_true rfl) (by decide) (by decide) (fun v ν hp => ?_) (fun i ν hp => nrm hp.1)
          obtain ⟨rfl, rfl, hN38, hb39⟩ := PEl hp
          show J _ _ _ _ 88 _ ([]) _ _ _ _
          cases h
          exact J.vret (pc := 88) dX6_readPart_88 rfl ⟨rfl, rfl, hN38, trivial⟩
        · refine J.zne (pc := 81) (tgt := 88) dX6_readPart_81 (by decide) (fun q => absurd q hc) (fun _ => ?_)
          cases h
          exact J.vret (pc := 88) dX6_readPart_88 rfl ⟨rfl, rfl, hN34, trivial⟩
  · refine J.zeq (pc := 4) (tgt := 8) dX6_readPart_4 (by decide) (fun q => absurd q hc) (fun _ => ?_)
    cases h
    exact J.vret (pc := 7) dX6_readPart_7 rfl ⟨rfl, rfl, hN, trivial⟩
def fX6_readProduct_7 (rec : Nat → Int32 → Mem → Option Mem)  : Nat → Nat → Int32 → Int32 → Mem → Option (Mem)
  | 0, _, _, _, _ => none
  | n + 1, v0, v1, v2, μ =>
    if v2 < (700 : Int32) then
      if (μ.2.1 v0 0) = 0 then
        if (μ.2.1 v0 6) = (42 : Int32) then
          if (μ.2.1 v0 6) = (42 : Int32) then
            (fX6_advance v0 μ).bind fun μ2 =>
            (fX6_readPart rec v0 v1 μ2).bind fun μ6 =>
            (gR μ6 v0 9 17).bind fun a9 =>
            (fX7_add a9 (-17 : Int32) μ6).bind fun μ13 =>
            (fX6_readProduct_7 rec n) v0 v1 (v2 + (1 : Int32)) μ13
          else
            (fX6_advance v0 μ).bind fun μ17 =>
            (fX6_readPart rec v0 v1 μ17).bind fun μ21 =>
            (gR μ21 v0 9 17).bind fun a24 =>
            (fX7_add a24 (-18 : Int32) μ21).bind fun μ28 =>
            (fX6_readProduct_7 rec n) v0 v1 (v2 + (1 : Int32)) μ28
        else
          if (μ.2.1 v0 6) = (47 : Int32) then
            if (μ.2.1 v0 6) = (42 : Int32) then
              (fX6_advance v0 μ).bind fun μ32 =>
              (fX6_readPart rec v0 v1 μ32).bind fun μ36 =>
              (gR μ36 v0 9 17).bind fun a39 =>
              (fX7_add a39 (-17 : Int32) μ36).bind fun μ43 =>
              (fX6_readProduct_7 rec n) v0 v1 (v2 + (1 : Int32)) μ43
            else
              (fX6_advance v0 μ).bind fun μ47 =>
              (fX6_readPart rec v0 v1 μ47).bind fun μ51 =>
              (gR μ51 v0 9 17).bind fun a54 =>
              (fX7_add a54 (-18 : Int32) μ51).bind fun μ58 =>
              (fX6_readProduct_7 rec n) v0 v1 (v2 + (1 : Int32)) μ58
          else
            some μ
      else
        some μ
    else
      some μ
set_option maxHeartbeats 4000000 in
theorem tX6_readProduct_7 {ω : Wd} {l : Launch} (d : Nat) {rec : Nat → Int32 → Mem → Option Mem} (hrec : HR ω l d rec) {res : Mem} : ∀ n : Nat, ∀ (v0 : Nat) (v1 : Int32) (v2 : Int32) (μ : Mem), fX6_readProduct_7 rec n v0 v1 v2 μ = some res → μ.1 = NN → (kd v0).1 = 16 → J ω l mX6_readProduct (d + 22) 7 [(0, .ref v0), (1, .int v1), (2, .int v2)] [] μ 0 0 (PE (.inl none) res True) := by
  intro n
  induction n with
  | zero =>
    intro v0 v1 v2 μ h hN k0
    have h9 : (none : Option (Mem)) = some res := h
    cases h9
  | succ n ih =>
    intro v0 v1 v2 μ h hN k0
    unfold fX6_readProduct_7 at h
    refine J.iload_n (pc := 7) dX6_readProduct_7 rfl 2 rfl ?_
    refine J.sipush (pc := 8) dX6_readProduct_8 is_700 ?_
    rcases ifc h with ⟨hc, h⟩ | ⟨hc, h⟩
    · refine J.cge (pc := 11) (tgt := 79) dX6_readProduct_11 (by decide) (fun _ => ?_) (fun q => absurd hc q)
      refine J.aload_n (pc := 14) dX6_readProduct_14 rfl 0 rfl ?_
      refine J.fI (pc := 15) dX6_readProduct_15 fl_RX6_9 k0 (okN hN k0 (by decide)) (Or.inl rfl) ?_
      rcases ifc h with ⟨hc, h⟩ | ⟨hc, h⟩
      · refine J.zne (pc := 18) (tgt := 79) dX6_readProduct_18 (by decide) (fun _ => ?_) (fun q => absurd hc q)
        refine J.aload_n (pc := 21) dX6_readProduct_21 rfl 0 rfl ?_
        refine J.fI (pc := 22) dX6_readProduct_22 fl_RX6_31 k0 (okN hN k0 (by decide)) (Or.inl rfl) ?_
        refine J.bipush (pc := 25) dX6_readProduct_25 ib_42 ?_
        rcases ifc h with ⟨hc, h⟩ | ⟨hc, h⟩
        · refine J.ceq (pc := 27) (tgt := 39) dX6_readProduct_27 (by decide) (fun _ => ?_) (fun q => absurd hc q)
          refine J.aload_n (pc := 39) dX6_readProduct_39 rfl 0 rfl ?_
          refine J.fI (pc := 40) dX6_readProduct_40 fl_RX6_31 k0 (okN hN k0 (by decide)) (Or.inl rfl) ?_
          refine J.bipush (pc := 43) dX6_readProduct_43 ib_42 ?_
          rcases ifc h with ⟨hc, h⟩ | ⟨hc, h⟩
          · refine J.cne (pc := 45) (tgt := 53) dX6_readProduct_45 (by decide) (fun _ => ?_) (fun q => absurd hc q)
            refine J.bipush (pc := 48) dX6_readProduct_48 ib_m17 ?_
            refine J.goto (pc := 50) (tgt := 55) dX6_readProduct_50 (by decide) ?_
            refine J.istore_n (pc := 55) ([(3, .int (-17 : Int32)), (0, .ref v0), (1, .int v1), (2, .int v2)]) dX6_readProduct_55 rfl (Nat.le_of_ble_eq_true rfl) rfl ?_
            refine J.aload_n (pc := 56) dX6_readProduct_56 rfl 1 rfl ?_
            obtain ⟨μ2, e1, h⟩ := bnd h
            refine J.callV (pc := 57) (k2 := 0) (n2 := 0) dX6_readProduct_57 ml_RX6_65 mo_X6_advance mv_X6_advance rfl (tX6_advance (d + 16) e1 hN k0) k0 (okN hN k0 (by decide)).1 (okN hN k0 (by decide)).2 cq_6 (by decide) rfl rfl (Nat.le_of_ble_eq_true rfl) (by decide) (by decide) (fun v ν hp => ?_) (fun i ν hp => nrm hp.1)
            obtain ⟨rfl, rfl, hN3, hb4⟩ := PEl hp
            show J _ _ _ _ 60 _ ([]) _ _ _ _
            refine J.aload_n (pc := 60) dX6_readProduct_60 rfl 1 rfl ?_
            refine J.iload_n (pc := 61) dX6_readProduct_61 rfl 2 rfl ?_
            obtain ⟨μ6, e5, h⟩ := bnd h
            refine J.callV (pc := 62) (k2 := 0) (n2 := 0) dX6_readProduct_62 ml_RX6_218 mo_X6_readPart mv_X6_readPart rfl (tX6_readPart hrec e5 hN3 k0) k0 (okN hN3 k0 (by decide)).1 (okN hN3 k0 (by decide)).2 cq_6 (by decide) rfl rfl (Nat.le_of_ble_eq_true rfl) (by decide) (by decide) (fun v ν hp => ?_) (fun i ν hp => nrm hp.1)
            obtain ⟨rfl, rfl, hN7, hb8⟩ := PEl hp
            show J _ _ _ _ 65 _ ([]) _ _ _ _
            refine J.aload_n (pc := 65) dX6_readProduct_65 rfl 1 rfl ?_
            obtain ⟨a9, e10, h⟩ := bnd h
            have k11 : (kd a9).1 = 17 := gR_k e10
            refine J.fR (pc := 66) dX6_readProduct_66 fl_RX6_53 k0 (okN hN7 k0 (by decide)) rfl e10 ?_
            refine J.iload_n (pc := 69) dX6_readProduct_69 rfl 0 rfl ?_
            obtain ⟨μ13, e12, h⟩ := bnd h
            refine J.callV (pc := 70) (k2 := 0) (n2 := 0) dX6_readProduct_70 ml_RX6_202 mo_X7_add mv_X7_add rfl (tX7_add (d + 21) e12 hN7 k11) k11 (okN hN7 k11 (by decide)).1 (okN hN7 k11 (by decide)).2 cq_7 (by decide) rfl rfl (Nat.le_of_ble_eq_true rfl) (by decide) (by decide) (fun v ν hp => ?_) (fun i ν hp => nrm hp.1)
            obtain ⟨rfl, rfl, hN14, hb15⟩ := PEl hp
            show J _ _ _ _ 73 _ ([]) _ _ _ _
            refine J.iinc (pc := 73) (j := 3) ([(2, .int (v2 + (1 : Int32))), (3, .int (-17 : Int32)), (0, .ref v0), (1, .int v1)]) dX6_readProduct_73 rfl (iincv ic_1) (Nat.le_of_ble_eq_true rfl) rfl ?_
            refine J.goto (pc := 76) (tgt := 7) dX6_readProduct_76 (by decide) ?_
            refine J.pick [2, 3, 0] rfl ?_
            exact ih v0 v1 (v2 + (1 : Int32)) μ13 h hN14 k0
          · refine J.cne (pc := 45) (tgt := 53) dX6_readProduct_45 (by decide) (fun q => absurd q hc) (fun _ => ?_)
            refine J.bipush (pc := 53) dX6_readProduct_53 ib_m18 ?_
            refine J.istore_n (pc := 55) ([(3, .int (-18 : Int32)), (0, .ref v0), (1, .int v1), (2, .int v2)]) dX6_readProduct_55 rfl (Nat.le_of_ble_eq_true rfl) rfl ?_
            refine J.aload_n (pc := 56) dX6_readProduct_56 rfl 1 rfl ?_
            obtain ⟨μ17, e16, h⟩ := bnd h
            refine J.callV (pc := 57) (k2 := 0) (n2 := 0) dX6_readProduct_57 ml_RX6_65 mo_X6_advance mv_X6_advance rfl (tX6_advance (d + 16) e16 hN k0) k0 (okN hN k0 (by decide)).1 (okN hN k0 (by decide)).2 cq_6 (by decide) rfl rfl (Nat.le_of_ble_eq_true rfl) (by decide) (by decide) (fun v ν hp => ?_) (fun i ν hp => nrm hp.1)
            obtain ⟨rfl, rfl, hN18, hb19⟩ := PEl hp
            show J _ _ _ _ 60 _ ([]) _ _ _ _
            refine J.aload_n (pc := 60) dX6_readProduct_60 rfl 1 rfl ?_
            refine J.iload_n (pc := 61) dX6_readProduct_61 rfl 2 rfl ?_
            obtain ⟨μ21, e20, h⟩ := bnd h
            refine J.callV (pc := 62) (k2 := 0) (n2 := 0) dX6_readProduct_62 ml_RX6_218 mo_X6_readPart mv_X6_readPart rfl (tX6_readPart hrec e20 hN18 k0) k0 (okN hN18 k0 (by decide)).1 (okN hN18 k0 (by decide)).2 cq_6 (by decide) rfl rfl (Nat.le_of_ble_eq_true rfl) (by decide) (by decide) (fun v ν hp => ?_) (fun i ν hp => nrm hp.1)
            obtain ⟨rfl, rfl, hN22, hb23⟩ := PEl hp
            show J _ _ _ _ 65 _ ([]) _ _ _ _
            refine J.aload_n (pc := 65) dX6_readProduct_65 rfl 1 rfl ?_
            obtain ⟨a24, e25, h⟩ := bnd h
            have k26 : (kd a24).1 = 17 := gR_k e25
            refine J.fR (pc := 66) dX6_readProduct_66 fl_RX6_53 k0 (okN hN22 k0 (by decide)) rfl e25 ?_
            refine J.iload_n (pc := 69) dX6_readProduct_69 rfl 0 rfl ?_
            obtain ⟨μ28, e27, h⟩ := bnd h
            refine J.callV (pc := 70) (k2 := 0) (n2 := 0) dX6_readProduct_70 ml_RX6_202 mo_X7_add mv_X7_add rfl (tX7_add (d + 21) e27 hN22 k26) k26 (okN hN22 k26 (by decide)).1 (okN hN22 k26 (by decide)).2 cq_7 (by decide) rfl rfl (Nat.le_of_ble_eq_true rfl) (by decide) (by decide) (fun v ν hp => ?_) (fun i ν hp => nrm hp.1)
            obtain ⟨rfl, rfl, hN29, hb30⟩ := PEl hp
            show J _ _ _ _ 73 _ ([]) _ _ _ _
            refine J.iinc (pc := 73) (j := 3) ([(2, .int (v2 + (1 : Int32))), (3, .int (-18 : Int32)), (0, .ref v0), (1, .int v1)]) dX6_readProduct_73 rfl (iincv ic_1) (Nat.le_of_ble_eq_true rfl) rfl ?_
            refine J.goto (pc := 76) (tgt := 7) dX6_readProduct_76 (by decide) ?_
            refine J.pick [2, 3, 0] rfl ?_
            exact ih v0 v1 (v2 + (1 : Int32)) μ28 h hN29 k0
        · refine J.ceq (pc := 27) (tgt := 39) dX6_readProduct_27 (by decide) (fun q => absurd q hc) (fun _ => ?_)
          refine J.aload_n (pc := 30) dX6_readProduct_30 rfl 0 rfl ?_
          refine J.fI (pc := 31) dX6_readProduct_31 fl_RX6_31 k0 (okN hN k0 (by decide)) (Or.inl rfl) ?_
          refine J.bipush (pc := 34) dX6_readProduct_34 ib_47 ?_
          rcases ifc h with ⟨hc, h⟩ | ⟨hc, h⟩
          · refine J.cne (pc := 36) (tgt := 79) dX6_readProduct_36 (by decide) (fun _ => ?_) (fun q => absurd hc q)
            refine J.aload_n (pc := 39) dX6_readProduct_39 rfl 0 rfl ?_
            refine J.fI (pc := 40) dX6_readProduct_40 fl_RX6_31 k0 (okN hN k0 (by decide)) (Or.inl rfl) ?_
            refine J.bipush (pc := 43) dX6_readProduct_43 ib_42 ?_
            rcases ifc h with ⟨hc, h⟩ | ⟨hc, h⟩
            · refine J.cne (pc := 45) (tgt := 53) dX6_readProduct_45 (by decide) (fun _ => ?_) (fun q => absurd hc q)
              refine J.bipush (pc := 48) dX6_readProduct_48 ib_m17 ?_
              refine J.goto (pc := 50) (tgt := 55) dX6_readProduct_50 (by decide) ?_
              refine J.istore_n (pc := 55) ([(3, .int (-17 : Int32)), (0, .ref v0), (1, .int v1), (2, .int v2)]) dX6_readProduct_55 rfl (Nat.le_of_ble_eq_true rfl) rfl ?_
              refine J.aload_n (pc := 56) dX6_readProduct_56 rfl 1 rfl ?_
              obtain ⟨μ32, e31, h⟩ := bnd h
              refine J.callV (pc := 57) (k2 := 0) (n2 := 0) dX6_readProduct_57 ml_RX6_65 mo_X6_advance mv_X6_advance rfl (tX6_advance (d + 16) e31 hN k0) k0 (okN hN k0 (by decide)).1 (okN hN k0 (by decide)).2 cq_6 (by decide) rfl rfl (Nat.le_of_ble_eq_true rfl) (by decide) (by decide) (fun v ν hp => ?_) (fun i ν hp => nrm hp.1)
              obtain ⟨rfl, rfl, hN33, hb34⟩ := PEl hp
              show J _ _ _ _ 60 _ ([]) _ _ _ _
              refine J.aload_n (pc := 60) dX6_readProduct_60 rfl 1 rfl ?_
              refine J.iload_n (pc := 61) dX6_readProduct_61 rfl 2 rfl ?_
              obtain ⟨μ36, e35, h⟩ := bnd h
              refine J.callV (pc := 62) (k2 := 0) (n2 := 0) dX6_readProduct_62 ml_RX6_218 mo_X6_readPart mv_X6_readPart rfl (tX6_readPart hrec e35 hN33 k0) k0 (okN hN33 k0 (by decide)).1 (okN hN33 k0 (by decide)).2 cq_6 (by decide) rfl rfl (Nat.le_of_ble_eq_true rfl) (by decide) (by decide) (fun v ν hp => ?_) (fun i ν hp => nrm hp.1)
              obtain ⟨rfl, rfl, hN37, hb38⟩ := PEl hp
              show J _ _ _ _ 65 _ ([]) _ _ _ _
              refine J.aload_n (pc := 65) dX6_readProduct_65 rfl 1 rfl ?_
              obtain ⟨a39, e40, h⟩ := bnd h
              have k41 : (kd a39).1 = 17 := gR_k e40
              refine J.fR (pc := 66) dX6_readProduct_66 fl_RX6_53 k0 (okN hN37 k0 (by decide)) rfl e40 ?_
              refine J.iload_n (pc := 69) dX6_readProduct_69 rfl 0 rfl ?_
              obtain ⟨μ43, e42, h⟩ := bnd h
              refine J.callV (pc := 70) (k2 := 0) (n2 := 0) dX6_readProduct_70 ml_RX6_202 mo_X7_add mv_X7_add rfl (tX7_add (d + 21) e42 hN37 k41) k41 (okN hN37 k41 (by decide)).1 (okN hN37 k41 (by decide)).2 cq_7 (by decide) rfl rfl (Nat.le_of_ble_eq_true rfl) (by decide) (by decide) (fun v ν hp => ?_) (fun i ν hp => nrm hp.1)
              obtain ⟨rfl, rfl, hN44, hb45⟩ := PEl hp
              show J _ _ _ _ 73 _ ([]) _ _ _ _
              refine J.iinc (pc := 73) (j := 3) ([(2, .int (v2 + (1 : Int32))), (3, .int (-17 : Int32)), (0, .ref v0), (1, .int v1)]) dX6_readProduct_73 rfl (iincv ic_1) (Nat.le_of_ble_eq_true rfl) rfl ?_
              refine J.goto (pc := 76) (tgt := 7) dX6_readProduct_76 (by decide) ?_
              refine J.pick [2, 3, 0] rfl ?_
              exact ih v0 v1 (v2 + (1 : Int32)) μ43 h hN44 k0
            · refine J.cne (pc := 45) (tgt := 53) dX6_readProduct_45 (by decide) (fun q => absurd q hc) (fun _ => ?_)
              refine J.bipush (pc := 53) dX6_readProduct_53 ib_m18 ?_
              refine J.istore_n (pc := 55) ([(3, .int (-18 : Int32)), (0, .ref v0), (1, .int v1), (2, .int v2)]) dX6_readProduct_55 rfl (Nat.le_of_ble_eq_true rfl) rfl ?_
              refine J.aload_n (pc := 56) dX6_readProduct_56 rfl 1 rfl ?_
              obtain ⟨μ47, e46, h⟩ := bnd h
              refine J.callV (pc := 57) (k2 := 0) (n2 := 0) dX6_readProduct_57 ml_RX6_65 mo_X6_advance mv_X6_advance rfl (tX6_advance (d + 16) e46 hN k0) k0 (okN hN k0 (by decide)).1 (okN hN k0 (by decide)).2 cq_6 (by decide) rfl rfl (Nat.le_of_ble_eq_true rfl) (by decide) (by decide) (fun v ν hp => ?_) (fun i ν hp => nrm hp.1)
              obtain ⟨rfl, rfl, hN48, hb49⟩ := PEl hp
              show J _ _ _ _ 60 _ ([]) _ _ _ _
              refine J.aload_n (pc := 60) dX6_readProduct_60 rfl 1 rfl ?_
              refine J.iload_n (pc := 61) dX6_readProduct_61 rfl 2 rfl ?_
              obtain ⟨μ51, e50, h⟩ := bnd h
              refine J.callV (pc := 62) (k2 := 0) (n2 := 0) dX6_readProduct_62 ml_RX6_218 mo_X6_readPart mv_X6_readPart rfl (tX6_readPart hrec e50 hN48 k0) k0 (okN hN48 k0 (by decide)).1 (okN hN48 k0 (by decide)).2 cq_6 (by decide) rfl rfl (Nat.le_of_ble_eq_true rfl) (by decide) (by decide) (fun v ν hp => ?_) (fun i ν hp => nrm hp.1)
              obtain ⟨rfl, rfl, hN52, hb53⟩ := PEl hp
              show J _ _ _ _ 65 _ ([]) _ _ _ _
              refine J.aload_n (pc := 65) dX6_readProduct_65 rfl 1 rfl ?_
              obtain ⟨a54, e55, h⟩ := bnd h
              have k56 : (kd a54).1 = 17 := gR_k e55
              refine J.fR (pc := 66) dX6_readProduct_66 fl_RX6_53 k0 (okN hN52 k0 (by decide)) rfl e55 ?_
              refine J.iload_n (pc := 69) dX6_readProduct_69 rfl 0 rfl ?_
              obtain ⟨μ58, e57, h⟩ := bnd h
              refine J.callV (pc := 70) (k2 := 0) (n2 := 0) dX6_readProduct_70 ml_RX6_202 mo_X7_add mv_X7_add rfl (tX7_add (d + 21) e57 hN52 k56) k56 (okN hN52 k56 (by decide)).1 (okN hN52 k56 (by decide)).2 cq_7 (by decide) rfl rfl (Nat.le_of_ble_eq_true rfl) (by decide) (by decide) (fun v ν hp => ?_) (fun i ν hp => nrm hp.1)
              obtain ⟨rfl, rfl, hN59, hb60⟩ := PEl hp
              show J _ _ _ _ 73 _ ([]) _ _ _ _
              refine J.iinc (pc := 73) (j := 3) ([(2, .int (v2 + (1 : Int32))), (3, .int (-18 : Int32)), (0, .ref v0), (1, .int v1)]) dX6_readProduct_73 rfl (iincv ic_1) (Nat.le_of_ble_eq_true rfl) rfl ?_
              refine J.goto (pc := 76) (tgt := 7) dX6_readProduct_76 (by decide) ?_
              refine J.pick [2, 3, 0] rfl ?_
              exact ih v0 v1 (v2 + (1 : Int32)) μ58 h hN59 k0
          · refine J.cne (pc := 36) (tgt := 79) dX6_readProduct_36 (by decide) (fun q => absurd q hc) (fun _ => ?_)
            cases h
            exact J.vret (pc := 79) dX6_readProduct_79 rfl ⟨rfl, rfl, hN, trivial⟩
      · refine J.zne (pc := 18) (tgt := 79) dX6_readProduct_18 (by decide) (fun q => absurd q hc) (fun _ => ?_)
        cases h
        exact J.vret (pc := 79) dX6_readProduct_79 rfl ⟨rfl, rfl, hN, trivial⟩
    · refine J.cge (pc := 11) (tgt := 79) dX6_readProduct_11 (by decide) (fun q => absurd q hc) (fun _ => ?_)
      cases h
      exact J.vret (pc := 79) dX6_readProduct_79 rfl ⟨rfl, rfl, hN, trivial⟩
def fX6_readProduct (rec : Nat → Int32 → Mem → Option Mem) (v0 : Nat) (v1 : Int32) (μ : Mem) : Option (Mem) :=
  (fX6_readPart rec v0 v1 μ).bind fun μ2 =>
  (fX6_readProduct_7 rec fuel) v0 v1 (0 : Int32) μ2
set_option maxHeartbeats 4000000 in
theorem tX6_readProduct {ω : Wd} {l : Launch} {d : Nat} {rec : Nat → Int32 → Mem → Option Mem} (hrec : HR ω l d rec) {v0 : Nat} {v1 : Int32} {μ : Mem} {res : Mem} (h : fX6_readProduct rec v0 v1 μ = some res) (hN : μ.1 = NN) (k0 : (kd v0).1 = 16) : Ct ω l mX6_readProduct (d + 22) [.ref v0, .int v1] μ 0 0 (PE (.inl none) res True) := by
  refine Ct.of pn_RX6 (Nat.le_of_ble_eq_true rfl) ?_
  show J ω l mX6_readProduct (d + 22) 0 [(0, .ref v0), (1, .int v1)] [] μ 0 0 _
  unfold fX6_readProduct at h
  refine J.aload_n (pc := 0) dX6_readProduct_0 rfl 0 rfl ?_
  refine J.iload_n (pc := 1) dX6_readProduct_1 rfl 1 rfl ?_
  obtain ⟨μ2, e1, h⟩ := bnd h
  refine J.callV (pc := 2) (k2 := 0) (n2 := 0) dX6_readProduct_2 ml_RX6_218 mo_X6_readPart mv_X6_readPart rfl (tX6_readPart hrec e1 hN k0) k0 (okN hN k0 (by decide)).1 (okN hN k0 (by decide)).2 cq_6 (by decide) rfl rfl (Nat.le_of_ble_eq_true rfl) (by decide) (by decide) (fun v ν hp => ?_) (fun i ν hp => nrm hp.1)
  obtain ⟨rfl, rfl, hN3, hb4⟩ := PEl hp
  show J _ _ _ _ 5 _ ([]) _ _ _ _
  refine J.iconst (pc := 5) dX6_readProduct_5 ic_0 ?_
  refine J.istore_n (pc := 6) ([(2, .int (0 : Int32)), (0, .ref v0), (1, .int v1)]) dX6_readProduct_6 rfl (Nat.le_of_ble_eq_true rfl) rfl ?_
  refine J.pick [1, 2, 0] rfl ?_
  exact (tX6_readProduct_7 d hrec fuel) v0 v1 (0 : Int32) μ2 h hN3 k0
def fX6_readSum_7 (rec : Nat → Int32 → Mem → Option Mem)  : Nat → Nat → Int32 → Int32 → Mem → Option (Mem)
  | 0, _, _, _, _ => none
  | n + 1, v0, v1, v2, μ =>
    if v2 < (700 : Int32) then
      if (μ.2.1 v0 0) = 0 then
        if (μ.2.1 v0 6) = (43 : Int32) then
          if (μ.2.1 v0 6) = (43 : Int32) then
            (fX6_advance v0 μ).bind fun μ2 =>
            (fX6_readProduct rec v0 v1 μ2).bind fun μ6 =>
            (gR μ6 v0 9 17).bind fun a9 =>
            (fX7_add a9 (-15 : Int32) μ6).bind fun μ13 =>
            (fX6_readSum_7 rec n) v0 v1 (v2 + (1 : Int32)) μ13
          else
            (fX6_advance v0 μ).bind fun μ17 =>
            (fX6_readProduct rec v0 v1 μ17).bind fun μ21 =>
            (gR μ21 v0 9 17).bind fun a24 =>
            (fX7_add a24 (-16 : Int32) μ21).bind fun μ28 =>
            (fX6_readSum_7 rec n) v0 v1 (v2 + (1 : Int32)) μ28
        else
          if (μ.2.1 v0 6) = (45 : Int32) then
            if (μ.2.1 v0 6) = (43 : Int32) then
              (fX6_advance v0 μ).bind fun μ32 =>
              (fX6_readProduct rec v0 v1 μ32).bind fun μ36 =>
              (gR μ36 v0 9 17).bind fun a39 =>
              (fX7_add a39 (-15 : Int32) μ36).bind fun μ43 =>
              (fX6_readSum_7 rec n) v0 v1 (v2 + (1 : Int32)) μ43
            else
              (fX6_advance v0 μ).bind fun μ47 =>
              (fX6_readProduct rec v0 v1 μ47).bind fun μ51 =>
              (gR μ51 v0 9 17).bind fun a54 =>
              (fX7_add a54 (-16 : Int32) μ51).bind fun μ58 =>
              (fX6_readSum_7 rec n) v0 v1 (v2 + (1 : Int32)) μ58
          else
            some μ
      else
        some μ
    else
      some μ
set_option maxHeartbeats 4000000 in
theorem tX6_readSum_7 {ω : Wd} {l : Launch} (d : Nat) {rec : Nat → Int32 → Mem → Option Mem} (hrec : HR ω l d rec) {res : Mem} : ∀ n : Nat, ∀ (v0 : Nat) (v1 : Int32) (v2 : Int32) (μ : Mem), fX6_readSum_7 rec n v0 v1 v2 μ = some res → μ.1 = NN → (kd v0).1 = 16 → J ω l mX6_readSum (d + 23) 7 [(0, .ref v0), (1, .int v1), (2, .int v2)] [] μ 0 0 (PE (.inl none) res True) := by
  intro n
  induction n with
  | zero =>
    intro v0 v1 v2 μ h hN k0
    have h9 : (none : Option (Mem)) = some res := h
    cases h9
  | succ n ih =>
    intro v0 v1 v2 μ h hN k0
    unfold fX6_readSum_7 at h
    refine J.iload_n (pc := 7) dX6_readSum_7 rfl 2 rfl ?_
    refine J.sipush (pc := 8) dX6_readSum_8 is_700 ?_
    rcases ifc h with ⟨hc, h⟩ | ⟨hc, h⟩
    · refine J.cge (pc := 11) (tgt := 79) dX6_readSum_11 (by decide) (fun _ => ?_) (fun q => absurd hc q)
      refine J.aload_n (pc := 14) dX6_readSum_14 rfl 0 rfl ?_
      refine J.fI (pc := 15) dX6_readSum_15 fl_RX6_9 k0 (okN hN k0 (by decide)) (Or.inl rfl) ?_
      rcases ifc h with ⟨hc, h⟩ | ⟨hc, h⟩
      · refine J.zne (pc := 18) (tgt := 79) dX6_readSum_18 (by decide) (fun _ => ?_) (fun q => absurd hc q)
        refine J.aload_n (pc := 21) dX6_readSum_21 rfl 0 rfl ?_
        refine J.fI (pc := 22) dX6_readSum_22 fl_RX6_31 k0 (okN hN k0 (by decide)) (Or.inl rfl) ?_
        refine J.bipush (pc := 25) dX6_readSum_25 ib_43 ?_
        rcases ifc h with ⟨hc, h⟩ | ⟨hc, h⟩
        · refine J.ceq (pc := 27) (tgt := 39) dX6_readSum_27 (by decide) (fun _ => ?_) (fun q => absurd hc q)
          refine J.aload_n (pc := 39) dX6_readSum_39 rfl 0 rfl ?_
          refine J.fI (pc := 40) dX6_readSum_40 fl_RX6_31 k0 (okN hN k0 (by decide)) (Or.inl rfl) ?_
          refine J.bipush (pc := 43) dX6_readSum_43 ib_43 ?_
          rcases ifc h with ⟨hc, h⟩ | ⟨hc, h⟩
          · refine J.cne (pc := 45) (tgt := 53) dX6_readSum_45 (by decide) (fun _ => ?_) (fun q => absurd hc q)
            refine J.bipush (pc := 48) dX6_readSum_48 ib_m15 ?_
            refine J.goto (pc := 50) (tgt := 55) dX6_readSum_50 (by decide) ?_
            refine J.istore_n (pc := 55) ([(3, .int (-15 : Int32)), (0, .ref v0), (1, .int v1), (2, .int v2)]) dX6_readSum_55 rfl (Nat.le_of_ble_eq_true rfl) rfl ?_
            refine J.aload_n (pc := 56) dX6_readSum_56 rfl 1 rfl ?_
            obtain ⟨μ2, e1, h⟩ := bnd h
            refine J.callV (pc := 57) (k2 := 0) (n2 := 0) dX6_readSum_57 ml_RX6_65 mo_X6_advance mv_X6_advance rfl (tX6_advance (d + 17) e1 hN k0) k0 (okN hN k0 (by decide)).1 (okN hN k0 (by decide)).2 cq_6 (by decide) rfl rfl (Nat.le_of_ble_eq_true rfl) (by decide) (by decide) (fun v ν hp => ?_) (fun i ν hp => nrm hp.1)
            obtain ⟨rfl, rfl, hN3, hb4⟩ := PEl hp
            show J _ _ _ _ 60 _ ([]) _ _ _ _
            refine J.aload_n (pc := 60) dX6_readSum_60 rfl 1 rfl ?_
            refine J.iload_n (pc := 61) dX6_readSum_61 rfl 2 rfl ?_
            obtain ⟨μ6, e5, h⟩ := bnd h
            refine J.callV (pc := 62) (k2 := 0) (n2 := 0) dX6_readSum_62 ml_RX6_215 mo_X6_readProduct mv_X6_readProduct rfl (tX6_readProduct hrec e5 hN3 k0) k0 (okN hN3 k0 (by decide)).1 (okN hN3 k0 (by decide)).2 cq_6 (by decide) rfl rfl (Nat.le_of_ble_eq_true rfl) (by decide) (by decide) (fun v ν hp => ?_) (fun i ν hp => nrm hp.1)
            obtain ⟨rfl, rfl, hN7, hb8⟩ := PEl hp
            show J _ _ _ _ 65 _ ([]) _ _ _ _
            refine J.aload_n (pc := 65) dX6_readSum_65 rfl 1 rfl ?_
            obtain ⟨a9, e10, h⟩ := bnd h
            have k11 : (kd a9).1 = 17 := gR_k e10
            refine J.fR (pc := 66) dX6_readSum_66 fl_RX6_53 k0 (okN hN7 k0 (by decide)) rfl e10 ?_
            refine J.iload_n (pc := 69) dX6_readSum_69 rfl 0 rfl ?_
            obtain ⟨μ13, e12, h⟩ := bnd h
            refine J.callV (pc := 70) (k2 := 0) (n2 := 0) dX6_readSum_70 ml_RX6_202 mo_X7_add mv_X7_add rfl (tX7_add (d + 22) e12 hN7 k11) k11 (okN hN7 k11 (by decide)).1 (okN hN7 k11 (by decide)).2 cq_7 (by decide) rfl rfl (Nat.le_of_ble_eq_true rfl) (by decide) (by decide) (fun v ν hp => ?_) (fun i ν hp => nrm hp.1)
            obtain ⟨rfl, rfl, hN14, hb15⟩ := PEl hp
            show J _ _ _ _ 73 _ ([]) _ _ _ _
            refine J.iinc (pc := 73) (j := 3) ([(2, .int (v2 + (1 : Int32))), (3, .int (-15 : Int32)), (0, .ref v0), (1, .int v1)]) dX6_readSum_73 rfl (iincv ic_1) (Nat.le_of_ble_eq_true rfl) rfl ?_
            refine J.goto (pc := 76) (tgt := 7) dX6_readSum_76 (by decide) ?_
            refine J.pick [2, 3, 0] rfl ?_
            exact ih v0 v1 (v2 + (1 : Int32)) μ13 h hN14 k0
          · refine J.cne (pc := 45) (tgt := 53) dX6_readSum_45 (by decide) (fun q => absurd q hc) (fun _ => ?_)
            refine J.bipush (pc := 53) dX6_readSum_53 ib_m16 ?_
            refine J.istore_n (pc := 55) ([(3, .int (-16 : Int32)), (0, .ref v0), (1, .int v1), (2, .int v2)]) dX6_readSum_55 rfl (Nat.le_of_ble_eq_true rfl) rfl ?_
            refine J.aload_n (pc := 56) dX6_readSum_56 rfl 1 rfl ?_
            obtain ⟨μ17, e16, h⟩ := bnd h
            refine J.callV (pc := 57) (k2 := 0) (n2 := 0) dX6_readSum_57 ml_RX6_65 mo_X6_advance mv_X6_advance rfl (tX6_advance (d + 17) e16 hN k0) k0 (okN hN k0 (by decide)).1 (okN hN k0 (by decide)).2 cq_6 (by decide) rfl rfl (Nat.le_of_ble_eq_true rfl) (by decide) (by decide) (fun v ν hp => ?_) (fun i ν hp => nrm hp.1)
            obtain ⟨rfl, rfl, hN18, hb19⟩ := PEl hp
            show J _ _ _ _ 60 _ ([]) _ _ _ _
            refine J.aload_n (pc := 60) dX6_readSum_60 rfl 1 rfl ?_
            refine J.iload_n (pc := 61) dX6_readSum_61 rfl 2 rfl ?_
            obtain ⟨μ21, e20, h⟩ := bnd h
            refine J.callV (pc := 62) (k2 := 0) (n2 := 0) dX6_readSum_62 ml_RX6_215 mo_X6_readProduct mv_X6_readProduct rfl (tX6_readProduct hrec e20 hN18 k0) k0 (okN hN18 k0 (by decide)).1 (okN hN18 k0 (by decide)).2 cq_6 (by decide) rfl rfl (Nat.le_of_ble_eq_true rfl) (by decide) (by decide) (fun v ν hp => ?_) (fun i ν hp => nrm hp.1)
            obtain ⟨rfl, rfl, hN22, hb23⟩ := PEl hp
            show J _ _ _ _ 65 _ ([]) _ _ _ _
            refine J.aload_n (pc := 65) dX6_readSum_65 rfl 1 rfl ?_
            obtain ⟨a24, e25, h⟩ := bnd h
            have k26 : (kd a24).1 = 17 := gR_k e25
            refine J.fR (pc := 66) dX6_readSum_66 fl_RX6_53 k0 (okN hN22 k0 (by decide)) rfl e25 ?_
            refine J.iload_n (pc := 69) dX6_readSum_69 rfl 0 rfl ?_
            obtain ⟨μ28, e27, h⟩ := bnd h
            refine J.callV (pc := 70) (k2 := 0) (n2 := 0) dX6_readSum_70 ml_RX6_202 mo_X7_add mv_X7_add rfl (tX7_add (d + 22) e27 hN22 k26) k26 (okN hN22 k26 (by decide)).1 (okN hN22 k26 (by decide)).2 cq_7 (by decide) rfl rfl (Nat.le_of_ble_eq_true rfl) (by decide) (by decide) (fun v ν hp => ?_) (fun i ν hp => nrm hp.1)
            obtain ⟨rfl, rfl, hN29, hb30⟩ := PEl hp
            show J _ _ _ _ 73 _ ([]) _ _ _ _
            refine J.iinc (pc := 73) (j := 3) ([(2, .int (v2 + (1 : Int32))), (3, .int (-16 : Int32)), (0, .ref v0), (1, .int v1)]) dX6_readSum_73 rfl (iincv ic_1) (Nat.le_of_ble_eq_true rfl) rfl ?_
            refine J.goto (pc := 76) (tgt := 7) dX6_readSum_76 (by decide) ?_
            refine J.pick [2, 3, 0] rfl ?_
            exact ih v0 v1 (v2 + (1 : Int32)) μ28 h hN29 k0
        · refine J.ceq (pc := 27) (tgt := 39) dX6_readSum_27 (by decide) (fun q => absurd q hc) (fun _ => ?_)
          refine J.aload_n (pc := 30) dX6_readSum_30 rfl 0 rfl ?_
          refine J.fI (pc := 31) dX6_readSum_31 fl_RX6_31 k0 (okN hN k0 (by decide)) (Or.inl rfl) ?_
          refine J.bipush (pc := 34) dX6_readSum_34 ib_45 ?_
          rcases ifc h with ⟨hc, h⟩ | ⟨hc, h⟩
          · refine J.cne (pc := 36) (tgt := 79) dX6_readSum_36 (by decide) (fun _ => ?_) (fun q => absurd hc q)
            refine J.aload_n (pc := 39) dX6_readSum_39 rfl 0 rfl ?_
            refine J.fI (pc := 40) dX6_readSum_40 fl_RX6_31 k0 (okN hN k0 (by decide)) (Or.inl rfl) ?_
            refine J.bipush (pc := 43) dX6_readSum_43 ib_43 ?_
            rcases ifc h with ⟨hc, h⟩ | ⟨hc, h⟩
            · refine J.cne (pc := 45) (tgt := 53) dX6_readSum_45 (by decide) (fun _ => ?_) (fun q => absurd hc q)
              refine J.bipush (pc := 48) dX6_readSum_48 ib_m15 ?_
              refine J.goto (pc := 50) (tgt := 55) dX6_readSum_50 (by decide) ?_
              refine J.istore_n (pc := 55) ([(3, .int (-15 : Int32)), (0, .ref v0), (1, .int v1), (2, .int v2)]) dX6_readSum_55 rfl (Nat.le_of_ble_eq_true rfl) rfl ?_
              refine J.aload_n (pc := 56) dX6_readSum_56 rfl 1 rfl ?_
              obtain ⟨μ32, e31, h⟩ := bnd h
              refine J.callV (pc := 57) (k2 := 0) (n2 := 0) dX6_readSum_57 ml_RX6_65 mo_X6_advance mv_X6_advance rfl (tX6_advance (d + 17) e31 hN k0) k0 (okN hN k0 (by decide)).1 (okN hN k0 (by decide)).2 cq_6 (by decide) rfl rfl (Nat.le_of_ble_eq_true rfl) (by decide) (by decide) (fun v ν hp => ?_) (fun i ν hp => nrm hp.1)
              obtain ⟨rfl, rfl, hN33, hb34⟩ := PEl hp
              show J _ _ _ _ 60 _ ([]) _ _ _ _
              refine J.aload_n (pc := 60) dX6_readSum_60 rfl 1 rfl ?_
              refine J.iload_n (pc := 61) dX6_readSum_61 rfl 2 rfl ?_
              obtain ⟨μ36, e35, h⟩ := bnd h
              refine J.callV (pc := 62) (k2 := 0) (n2 := 0) dX6_readSum_62 ml_RX6_215 mo_X6_readProduct mv_X6_readProduct rfl (tX6_readProduct hrec e35 hN33 k0) k0 (okN hN33 k0 (by decide)).1 (okN hN33 k0 (by decide)).2 cq_6 (by decide) rfl rfl (Nat.le_of_ble_eq_true rfl) (by decide) (by decide) (fun v ν hp => ?_) (fun i ν hp => nrm hp.1)
              obtain ⟨rfl, rfl, hN37, hb38⟩ := PEl hp
              show J _ _ _ _ 65 _ ([]) _ _ _ _
              refine J.aload_n (pc := 65) dX6_readSum_65 rfl 1 rfl ?_
              obtain ⟨a39, e40, h⟩ := bnd h
              have k41 : (kd a39).1 = 17 := gR_k e40
              refine J.fR (pc := 66) dX6_readSum_66 fl_RX6_53 k0 (okN hN37 k0 (by decide)) rfl e40 ?_
              refine J.iload_n (pc := 69) dX6_readSum_69 rfl 0 rfl ?_
              obtain ⟨μ43, e42, h⟩ := bnd h
              refine J.callV (pc := 70) (k2 := 0) (n2 := 0) dX6_readSum_70 ml_RX6_202 mo_X7_add mv_X7_add rfl (tX7_add (d + 22) e42 hN37 k41) k41 (okN hN37 k41 (by decide)).1 (okN hN37 k41 (by decide)).2 cq_7 (by decide) rfl rfl (Nat.le_of_ble_eq_true rfl) (by decide) (by decide) (fun v ν hp => ?_) (fun i ν hp => nrm hp.1)
              obtain ⟨rfl, rfl, hN44, hb45⟩ := PEl hp
              show J _ _ _ _ 73 _ ([]) _ _ _ _
              refine J.iinc (pc := 73) (j := 3) ([(2, .int (v2 + (1 : Int32))), (3, .int (-15 : Int32)), (0, .ref v0), (1, .int v1)]) dX6_readSum_73 rfl (iincv ic_1) (Nat.le_of_ble_eq_true rfl) rfl ?_
              refine J.goto (pc := 76) (tgt := 7) dX6_readSum_76 (by decide) ?_
              refine J.pick [2, 3, 0] rfl ?_
              exact ih v0 v1 (v2 + (1 : Int32)) μ43 h hN44 k0
            · refine J.cne (pc := 45) (tgt := 53) dX6_readSum_45 (by decide) (fun q => absurd q hc) (fun _ => ?_)
              refine J.bipush (pc := 53) dX6_readSum_53 ib_m16 ?_
              refine J.istore_n (pc := 55) ([(3, .int (-16 : Int32)), (0, .ref v0), (1, .int v1), (2, .int v2)]) dX6_readSum_55 rfl (Nat.le_of_ble_eq_true rfl) rfl ?_
              refine J.aload_n (pc := 56) dX6_readSum_56 rfl 1 rfl ?_
              obtain ⟨μ47, e46, h⟩ := bnd h
              refine J.callV (pc := 57) (k2 := 0) (n2 := 0) dX6_readSum_57 ml_RX6_65 mo_X6_advance mv_X6_advance rfl (tX6_advance (d + 17) e46 hN k0) k0 (okN hN k0 (by decide)).1 (okN hN k0 (by decide)).2 cq_6 (by decide) rfl rfl (Nat.le_of_ble_eq_true rfl) (by decide) (by decide) (fun v ν hp => ?_) (fun i ν hp => nrm hp.1)
              obtain ⟨rfl, rfl, hN48, hb49⟩ := PEl hp
              show J _ _ _ _ 60 _ ([]) _ _ _ _
              refine J.aload_n (pc := 60) dX6_readSum_60 rfl 1 rfl ?_
              refine J.iload_n (pc := 61) dX6_readSum_61 rfl 2 rfl ?_
              obtain ⟨μ51, e50, h⟩ := bnd h
              refine J.callV (pc := 62) (k2 := 0) (n2 := 0) dX6_readSum_62 ml_RX6_215 mo_X6_readProduct mv_X6_readProduct rfl (tX6_readProduct hrec e50 hN48 k0) k0 (okN hN48 k0 (by decide)).1 (okN hN48 k0 (by decide)).2 cq_6 (by decide) rfl rfl (Nat.le_of_ble_eq_true rfl) (by decide) (by decide) (fun v ν hp => ?_) (fun i ν hp => nrm hp.1)
              obtain ⟨rfl, rfl, hN52, hb53⟩ := PEl hp
              show J _ _ _ _ 65 _ ([]) _ _ _ _
              refine J.aload_n (pc := 65) dX6_readSum_65 rfl 1 rfl ?_
              obtain ⟨a54, e55, h⟩ := bnd h
              have k56 : (kd a54).1 = 17 := gR_k e55
              refine J.fR (pc := 66) dX6_readSum_66 fl_RX6_53 k0 (okN hN52 k0 (by decide)) rfl e55 ?_
              refine J.iload_n (pc := 69) dX6_readSum_69 rfl 0 rfl ?_
              obtain ⟨μ58, e57, h⟩ := bnd h
              refine J.callV (pc := 70) (k2 := 0) (n2 := 0) dX6_readSum_70 ml_RX6_202 mo_X7_add mv_X7_add rfl (tX7_add (d + 22) e57 hN52 k56) k56 (okN hN52 k56 (by decide)).1 (okN hN52 k56 (by decide)).2 cq_7 (by decide) rfl rfl (Nat.le_of_ble_eq_true rfl) (by decide) (by decide) (fun v ν hp => ?_) (fun i ν hp => nrm hp.1)
              obtain ⟨rfl, rfl, hN59, hb60⟩ := PEl hp
              show J _ _ _ _ 73 _ ([]) _ _ _ _
              refine J.iinc (pc := 73) (j := 3) ([(2, .int (v2 + (1 : Int32))), (3, .int (-16 : Int32)), (0, .ref v0), (1, .int v1)]) dX6_readSum_73 rfl (iincv ic_1) (Nat.le_of_ble_eq_true rfl) rfl ?_
              refine J.goto (pc := 76) (tgt := 7) dX6_readSum_76 (by decide) ?_
              refine J.pick [2, 3, 0] rfl ?_
              exact ih v0 v1 (v2 + (1 : Int32)) μ58 h hN59 k0
          · refine J.cne (pc := 36) (tgt := 79) dX6_readSum_36 (by decide) (fun q => absurd q hc) (fun _ => ?_)
            cases h
            exact J.vret (pc := 79) dX6_readSum_79 rfl ⟨rfl, rfl, hN, trivial⟩
      · refine J.zne (pc := 18) (tgt := 79) dX6_readSum_18 (by decide) (fun q => absurd q hc) (fun _ => ?_)
        cases h
        exact J.vret (pc := 79) dX6_readSum_79 rfl ⟨rfl, rfl, hN, trivial⟩
    · refine J.cge (pc := 11) (tgt := 79) dX6_readSum_11 (by decide) (fun q => absurd q hc) (fun _ => ?_)
      cases h
      exact J.vret (pc := 79) dX6_readSum_79 rfl ⟨rfl, rfl, hN, trivial⟩
def fX6_readSum (rec : Nat → Int32 → Mem → Option Mem) (v0 : Nat) (v1 : Int32) (μ : Mem) : Option (Mem) :=
  (fX6_readProduct rec v0 v1 μ).bind fun μ2 =>
  (fX6_readSum_7 rec fuel) v0 v1 (0 : Int32) μ2
set_option maxHeartbeats 4000000 in
theorem tX6_readSum {ω : Wd} {l : Launch} {d : Nat} {rec : Nat → Int32 → Mem → Option Mem} (hrec : HR ω l d rec) {v0 : Nat} {v1 : Int32} {μ : Mem} {res : Mem} (h : fX6_readSum rec v0 v1 μ = some res) (hN : μ.1 = NN) (k0 : (kd v0).1 = 16) : Ct ω l mX6_readSum (d + 23) [.ref v0, .int v1] μ 0 0 (PE (.inl none) res True) := by
  refine Ct.of pn_RX6 (Nat.le_of_ble_eq_true rfl) ?_
  show J ω l mX6_readSum (d + 23) 0 [(0, .ref v0), (1, .int v1)] [] μ 0 0 _
  unfold fX6_readSum at h
  refine J.aload_n (pc := 0) dX6_readSum_0 rfl 0 rfl ?_
  refine J.iload_n (pc := 1) dX6_readSum_1 rfl 1 rfl ?_
  obtain ⟨μ2, e1, h⟩ := bnd h
  refine J.callV (pc := 2) (k2 := 0) (n2 := 0) dX6_readSum_2 ml_RX6_215 mo_X6_readProduct mv_X6_readProduct rfl (tX6_readProduct hrec e1 hN k0) k0 (okN hN k0 (by decide)).1 (okN hN k0 (by decide)).2 cq_6 (by decide) rfl rfl (Nat.le_of_ble_eq_true rfl) (by decide) (by decide) (fun v ν hp => ?_) (fun i ν hp => nrm hp.1)
  obtain ⟨rfl, rfl, hN3, hb4⟩ := PEl hp
  show J _ _ _ _ 5 _ ([]) _ _ _ _
  refine J.iconst (pc := 5) dX6_readSum_5 ic_0 ?_
  refine J.istore_n (pc := 6) ([(2, .int (0 : Int32)), (0, .ref v0), (1, .int v1)]) dX6_readSum_6 rfl (Nat.le_of_ble_eq_true rfl) rfl ?_
  refine J.pick [1, 2, 0] rfl ?_
  exact (tX6_readSum_7 d hrec fuel) v0 v1 (0 : Int32) μ2 h hN3 k0
def fX6_readNot_113 (rec : Nat → Int32 → Mem → Option Mem)  : Nat → Nat → Int32 → Int32 → Mem → Option (Mem)
  | 0, _, _, _, _ => none
  | n + 1, v0, v2, v3, μ =>
    if v3 < v2 then
      (gR μ v0 9 17).bind fun a1 =>
      (fX7_add a1 (-10 : Int32) μ).bind fun μ5 =>
      (fX6_readNot_113 rec n) v0 v2 (v3 + (1 : Int32)) μ5
    else
      some μ
set_option maxHeartbeats 4000000 in
theorem tX6_readNot_113 {ω : Wd} {l : Launch} (d : Nat) {rec : Nat → Int32 → Mem → Option Mem} (hrec : HR ω l d rec) {res : Mem} : ∀ n : Nat, ∀ (v0 : Nat) (v2 : Int32) (v3 : Int32) (μ : Mem), fX6_readNot_113 rec n v0 v2 v3 μ = some res → μ.1 = NN → (kd v0).1 = 16 → J ω l mX6_readNot (d + 24) 113 [(0, .ref v0), (2, .int v2), (3, .int v3)] [] μ 0 0 (PE (.inl none) res True) := by
  intro n
  induction n with
  | zero =>
    intro v0 v2 v3 μ h hN k0
    have h9 : (none : Option (Mem)) = some res := h
    cases h9
  | succ n ih =>
    intro v0 v2 v3 μ h hN k0
    unfold fX6_readNot_113 at h
    refine J.iload_n (pc := 113) dX6_readNot_113 rfl 2 rfl ?_
    refine J.iload_n (pc := 114) dX6_readNot_114 rfl 1 rfl ?_
    rcases ifc h with ⟨hc, h⟩ | ⟨hc, h⟩
    · refine J.cge (pc := 115) (tgt := 133) dX6_readNot_115 (by decide) (fun _ => ?_) (fun q => absurd hc q)
      refine J.aload_n (pc := 118) dX6_readNot_118 rfl 0 rfl ?_
      obtain ⟨a1, e2, h⟩ := bnd h
      have k3 : (kd a1).1 = 17 := gR_k e2
      refine J.fR (pc := 119) dX6_readNot_119 fl_RX6_53 k0 (okN hN k0 (by decide)) rfl e2 ?_
      refine J.bipush (pc := 122) dX6_readNot_122 ib_m10 ?_
      obtain ⟨μ5, e4, h⟩ := bnd h
      refine J.callV (pc := 124) (k2 := 0) (n2 := 0) dX6_readNot_124 ml_RX6_202 mo_X7_add mv_X7_add rfl (tX7_add (d + 23) e4 hN k3) k3 (okN hN k3 (by decide)).1 (okN hN k3 (by decide)).2 cq_7 (by decide) rfl rfl (Nat.le_of_ble_eq_true rfl) (by decide) (by decide) (fun v ν hp => ?_) (fun i ν hp => nrm hp.1)
      obtain ⟨rfl, rfl, hN6, hb7⟩ := PEl hp
      show J _ _ _ _ 127 _ ([]) _ _ _ _
      refine J.iinc (pc := 127) (j := 2) ([(3, .int (v3 + (1 : Int32))), (0, .ref v0), (2, .int v2)]) dX6_readNot_127 rfl (iincv ic_1) (Nat.le_of_ble_eq_true rfl) rfl ?_
      refine J.goto (pc := 130) (tgt := 113) dX6_readNot_130 (by decide) ?_
      refine J.pick [1, 2, 0] rfl ?_
      exact ih v0 v2 (v3 + (1 : Int32)) μ5 h hN6 k0
    · refine J.cge (pc := 115) (tgt := 133) dX6_readNot_115 (by decide) (fun q => absurd q hc) (fun _ => ?_)
      cases h
      exact J.vret (pc := 133) dX6_readNot_133 rfl ⟨rfl, rfl, hN, trivial⟩
def fX6_readNot_47 (rec : Nat → Int32 → Mem → Option Mem)  (v0 : Nat) (v1 : Int32) (v2 : Int32) (μ : Mem) : Option (Mem) :=
  (fX6_readSum rec v0 v1 μ).bind fun μ2 =>
  if (μ2.2.1 v0 0) = 0 then
    if (μ2.2.1 v0 6) = (60 : Int32) then
      if (μ2.2.1 v0 6) = (60 : Int32) then
        (fX6_advance v0 μ2).bind fun μ6 =>
        (fX6_readSum rec v0 v1 μ6).bind fun μ10 =>
        (gR μ10 v0 9 17).bind fun a13 =>
        (fX7_add a13 (-13 : Int32) μ10).bind fun μ17 =>
        (fX6_readNot_113 rec fuel) v0 v2 (0 : Int32) μ17
      else
        (fX6_advance v0 μ2).bind fun μ21 =>
        (fX6_readSum rec v0 v1 μ21).bind fun μ25 =>
        (gR μ25 v0 9 17).bind fun a28 =>
        (fX7_add a28 (-14 : Int32) μ25).bind fun μ32 =>
        (fX6_readNot_113 rec fuel) v0 v2 (0 : Int32) μ32
    else
      if (μ2.2.1 v0 6) = (61 : Int32) then
        if (μ2.2.1 v0 6) = (60 : Int32) then
          (fX6_advance v0 μ2).bind fun μ36 =>
          (fX6_readSum rec v0 v1 μ36).bind fun μ40 =>
          (gR μ40 v0 9 17).bind fun a43 =>
          (fX7_add a43 (-13 : Int32) μ40).bind fun μ47 =>
          (fX6_readNot_113 rec fuel) v0 v2 (0 : Int32) μ47
        else
          (fX6_advance v0 μ2).bind fun μ51 =>
          (fX6_readSum rec v0 v1 μ51).bind fun μ55 =>
          (gR μ55 v0 9 17).bind fun a58 =>
          (fX7_add a58 (-14 : Int32) μ55).bind fun μ62 =>
          (fX6_readNot_113 rec fuel) v0 v2 (0 : Int32) μ62
      else
        (fX6_readNot_113 rec fuel) v0 v2 (0 : Int32) μ2
  else
    (fX6_readNot_113 rec fuel) v0 v2 (0 : Int32) μ2
set_option maxHeartbeats 4000000 in
theorem tX6_readNot_47 {ω : Wd} {l : Launch} (d : Nat) {rec : Nat → Int32 → Mem → Option Mem} (hrec : HR ω l d rec) {res : Mem} : ∀ (v0 : Nat) (v1 : Int32) (v2 : Int32) (μ : Mem), fX6_readNot_47 rec v0 v1 v2 μ = some res → μ.1 = NN → (kd v0).1 = 16 → J ω l mX6_readNot (d + 24) 47 [(0, .ref v0), (1, .int v1), (2, .int v2)] [] μ 0 0 (PE (.inl none) res True) := by
  intro v0 v1 v2 μ h hN k0
  unfold fX6_readNot_47 at h
  refine J.aload_n (pc := 47) dX6_readNot_47 rfl 0 rfl ?_
  refine J.iload_n (pc := 48) dX6_readNot_48 rfl 1 rfl ?_
  obtain ⟨μ2, e1, h⟩ := bnd h
  refine J.callV (pc := 49) (k2 := 0) (n2 := 0) dX6_readNot_49 ml_RX6_212 mo_X6_readSum mv_X6_readSum rfl (tX6_readSum hrec e1 hN k0) k0 (okN hN k0 (by decide)).1 (okN hN k0 (by decide)).2 cq_6 (by decide) rfl rfl (Nat.le_of_ble_eq_true rfl) (by decide) (by decide) (fun v ν hp => ?_) (fun i ν hp => nrm hp.1)
  obtain ⟨rfl, rfl, hN3, hb4⟩ := PEl hp
  show J _ _ _ _ 52 _ ([]) _ _ _ _
  refine J.aload_n (pc := 52) dX6_readNot_52 rfl 0 rfl ?_
  refine J.fI (pc := 53) dX6_readNot_53 fl_RX6_9 k0 (okN hN3 k0 (by decide)) (Or.inl rfl) ?_
  rcases ifc h with ⟨hc, h⟩ | ⟨hc, h⟩
  · refine J.zne (pc := 56) (tgt := 111) dX6_readNot_56 (by decide) (fun _ => ?_) (fun q => absurd hc q)
    refine J.aload_n (pc := 59) dX6_readNot_59 rfl 0 rfl ?_
    refine J.fI (pc := 60) dX6_readNot_60 fl_RX6_31 k0 (okN hN3 k0 (by decide)) (Or.inl rfl) ?_
    refine J.bipush (pc := 63) dX6_readNot_63 ib_60 ?_
    rcases ifc h with ⟨hc, h⟩ | ⟨hc, h⟩
    · refine J.ceq (pc := 65) (tgt := 77) dX6_readNot_65 (by decide) (fun _ => ?_) (fun q => absurd hc q)
      refine J.aload_n (pc := 77) dX6_readNot_77 rfl 0 rfl ?_
      refine J.fI (pc := 78) dX6_readNot_78 fl_RX6_31 k0 (okN hN3 k0 (by decide)) (Or.inl rfl) ?_
      refine J.bipush (pc := 81) dX6_readNot_81 ib_60 ?_
      rcases ifc h with ⟨hc, h⟩ | ⟨hc, h⟩
      · refine J.cne (pc := 83) (tgt := 91) dX6_readNot_83 (by decide) (fun _ => ?_) (fun q => absurd hc q)
        refine J.bipush (pc := 86) dX6_readNot_86 ib_m13 ?_
        refine J.goto (pc := 88) (tgt := 93) dX6_readNot_88 (by decide) ?_
        refine J.istore_n (pc := 93) ([(3, .int (-13 : Int32)), (0, .ref v0), (1, .int v1), (2, .int v2)]) dX6_readNot_93 rfl (Nat.le_of_ble_eq_true rfl) rfl ?_
        refine J.aload_n (pc := 94) dX6_readNot_94 rfl 1 rfl ?_
        obtain ⟨μ6, e5, h⟩ := bnd h
        refine J.callV (pc := 95) (k2 := 0) (n2 := 0) dX6_readNot_95 ml_RX6_65 mo_X6_advance mv_X6_advance rfl (tX6_advance (d + 18) e5 hN3 k0) k0 (okN hN3 k0 (by decide)).1 (okN hN3 k0 (by decide)).2 cq_6 (by decide) rfl rfl (Nat.le_of_ble_eq_true rfl) (by decide) (by decide) (fun v ν hp => ?_) (fun i ν hp => nrm hp.1)
        obtain ⟨rfl, rfl, hN7, hb8⟩ := PEl hp
        show J _ _ _ _ 98 _ ([]) _ _ _ _
        refine J.aload_n (pc := 98) dX6_readNot_98 rfl 1 rfl ?_
        refine J.iload_n (pc := 99) dX6_readNot_99 rfl 2 rfl ?_
        obtain ⟨μ10, e9, h⟩ := bnd h
        refine J.callV (pc := 100) (k2 := 0) (n2 := 0) dX6_readNot_100 ml_RX6_212 mo_X6_readSum mv_X6_readSum rfl (tX6_readSum hrec e9 hN7 k0) k0 (okN hN7 k0 (by decide)).1 (okN hN7 k0 (by decide)).2 cq_6 (by decide) rfl rfl (Nat.le_of_ble_eq_true rfl) (by decide) (by decide) (fun v ν hp => ?_) (fun i ν hp => nrm hp.1)
        obtain ⟨rfl, rfl, hN11, hb12⟩ := PEl hp
        show J _ _ _ _ 103 _ ([]) _ _ _ _
        refine J.aload_n (pc := 103) dX6_readNot_103 rfl 1 rfl ?_
        obtain ⟨a13, e14, h⟩ := bnd h
        have k15 : (kd a13).1 = 17 := gR_k e14
        refine J.fR (pc := 104) dX6_readNot_104 fl_RX6_53 k0 (okN hN11 k0 (by decide)) rfl e14 ?_
        refine J.iload_n (pc := 107) dX6_readNot_107 rfl 0 rfl ?_
        obtain ⟨μ17, e16, h⟩ := bnd h
        refine J.callV (pc := 108) (k2 := 0) (n2 := 0) dX6_readNot_108 ml_RX6_202 mo_X7_add mv_X7_add rfl (tX7_add (d + 23) e16 hN11 k15) k15 (okN hN11 k15 (by decide)).1 (okN hN11 k15 (by decide)).2 cq_7 (by decide) rfl rfl (Nat.le_of_ble_eq_true rfl) (by decide) (by decide) (fun v ν hp => ?_) (fun i ν hp => nrm hp.1)
        obtain ⟨rfl, rfl, hN18, hb19⟩ := PEl hp
        show J _ _ _ _ 111 _ ([]) _ _ _ _
        refine J.iconst (pc := 111) dX6_readNot_111 ic_0 ?_
        refine J.istore_n (pc := 112) ([(3, .int (0 : Int32)), (0, .ref v0), (1, .int v1), (2, .int v2)]) dX6_readNot_112 rfl (Nat.le_of_ble_eq_true rfl) rfl ?_
        refine J.pick [1, 3, 0] rfl ?_
        exact (tX6_readNot_113 d hrec fuel) v0 v2 (0 : Int32) μ17 h hN18 k0
      · refine J.cne (pc := 83) (tgt := 91) dX6_readNot_83 (by decide) (fun q => absurd q hc) (fun _ => ?_)
        refine J.bipush (pc := 91) dX6_readNot_91 ib_m14 ?_
        refine J.istore_n (pc := 93) ([(3, .int (-14 : Int32)), (0, .ref v0), (1, .int v1), (2, .int v2)]) dX6_readNot_93 rfl (Nat.le_of_ble_eq_true rfl) rfl ?_
        refine J.aload_n (pc := 94) dX6_readNot_94 rfl 1 rfl ?_
        obtain ⟨μ21, e20, h⟩ := bnd h
        refine J.callV (pc := 95) (k2 := 0) (n2 := 0) dX6_readNot_95 ml_RX6_65 mo_X6_advance mv_X6_advance rfl (tX6_advance (d + 18) e20 hN3 k0) k0 (okN hN3 k0 (by decide)).1 (okN hN3 k0 (by decide)).2 cq_6 (by decide) rfl rfl (Nat.le_of_ble_eq_true rfl) (by decide) (by decide) (fun v ν hp => ?_) (fun i ν hp => nrm hp.1)
        obtain ⟨rfl, rfl, hN22, hb23⟩ := PEl hp
        show J _ _ _ _ 98 _ ([]) _ _ _ _
        refine J.aload_n (pc := 98) dX6_readNot_98 rfl 1 rfl ?_
        refine J.iload_n (pc := 99) dX6_readNot_99 rfl 2 rfl ?_
        obtain ⟨μ25, e24, h⟩ := bnd h
        refine J.callV (pc := 100) (k2 := 0) (n2 := 0) dX6_readNot_100 ml_RX6_212 mo_X6_readSum mv_X6_readSum rfl (tX6_readSum hrec e24 hN22 k0) k0 (okN hN22 k0 (by decide)).1 (okN hN22 k0 (by decide)).2 cq_6 (by decide) rfl rfl (Nat.le_of_ble_eq_true rfl) (by decide) (by decide) (fun v ν hp => ?_) (fun i ν hp => nrm hp.1)
        obtain ⟨rfl, rfl, hN26, hb27⟩ := PEl hp
        show J _ _ _ _ 103 _ ([]) _ _ _ _
        refine J.aload_n (pc := 103) dX6_readNot_103 rfl 1 rfl ?_
        obtain ⟨a28, e29, h⟩ := bnd h
        have k30 : (kd a28).1 = 17 := gR_k e29
        refine J.fR (pc := 104) dX6_readNot_104 fl_RX6_53 k0 (okN hN26 k0 (by decide)) rfl e29 ?_
        refine J.iload_n (pc := 107) dX6_readNot_107 rfl 0 rfl ?_
        obtain ⟨μ32, e31, h⟩ := bnd h
        refine J.callV (pc := 108) (k2 := 0) (n2 := 0) dX6_readNot_108 ml_RX6_202 mo_X7_add mv_X7_add rfl (tX7_add (d + 23) e31 hN26 k30) k30 (okN hN26 k30 (by decide)).1 (okN hN26 k30 (by decide)).2 cq_7 (by decide) rfl rfl (Nat.le_of_ble_eq_true rfl) (by decide) (by decide) (fun v ν hp => ?_) (fun i ν hp => nrm hp.1)
        obtain ⟨rfl, rfl, hN33, hb34⟩ := PEl hp
        show J _ _ _ _ 111 _ ([]) _ _ _ _
        refine J.iconst (pc := 111) dX6_readNot_111 ic_0 ?_
        refine J.istore_n (pc := 112) ([(3, .int (0 : Int32)), (0, .ref v0), (1, .int v1), (2, .int v2)]) dX6_readNot_112 rfl (Nat.le_of_ble_eq_true rfl) rfl ?_
        refine J.pick [1, 3, 0] rfl ?_
        exact (tX6_readNot_113 d hrec fuel) v0 v2 (0 : Int32) μ32 h hN33 k0
    · refine J.ceq (pc := 65) (tgt := 77) dX6_readNot_65 (by decide) (fun q => absurd q hc) (fun _ => ?_)
      refine J.aload_n (pc := 68) dX6_readNot_68 rfl 0 rfl ?_
      refine J.fI (pc := 69) dX6_readNot_69 fl_RX6_31 k0 (okN hN3 k0 (by decide)) (Or.inl rfl) ?_
      refine J.bipush (pc := 72) dX6_readNot_72 ib_61 ?_
      rcases ifc h with ⟨hc, h⟩ | ⟨hc, h⟩
      · refine J.cne (pc := 74) (tgt := 111) dX6_readNot_74 (by decide) (fun _ => ?_) (fun q => absurd hc q)
        refine J.aload_n (pc := 77) dX6_readNot_77 rfl 0 rfl ?_
        refine J.fI (pc := 78) dX6_readNot_78 fl_RX6_31 k0 (okN hN3 k0 (by decide)) (Or.inl rfl) ?_
        refine J.bipush (pc := 81) dX6_readNot_81 ib_60 ?_
        rcases ifc h with ⟨hc, h⟩ | ⟨hc, h⟩
        · refine J.cne (pc := 83) (tgt := 91) dX6_readNot_83 (by decide) (fun _ => ?_) (fun q => absurd hc q)
          refine J.bipush (pc := 86) dX6_readNot_86 ib_m13 ?_
          refine J.goto (pc := 88) (tgt := 93) dX6_readNot_88 (by decide) ?_
          refine J.istore_n (pc := 93) ([(3, .int (-13 : Int32)), (0, .ref v0), (1, .int v1), (2, .int v2)]) dX6_readNot_93 rfl (Nat.le_of_ble_eq_true rfl) rfl ?_
          refine J.aload_n (pc := 94) dX6_readNot_94 rfl 1 rfl ?_
          obtain ⟨μ36, e35, h⟩ := bnd h
          refine J.callV (pc := 95) (k2 := 0) (n2 := 0) dX6_readNot_95 ml_RX6_65 mo_X6_advance mv_X6_advance rfl (tX6_advance (d + 18) e35 hN3 k0) k0 (okN hN3 k0 (by decide)).1 (okN hN3 k0 (by decide)).2 cq_6 (by decide) rfl rfl (Nat.le_of_ble_eq_true rfl) (by decide) (by decide) (fun v ν hp => ?_) (fun i ν hp => nrm hp.1)
          obtain ⟨rfl, rfl, hN37, hb38⟩ := PEl hp
          show J _ _ _ _ 98 _ ([]) _ _ _ _
          refine J.aload_n (pc := 98) dX6_readNot_98 rfl 1 rfl ?_
          refine J.iload_n (pc := 99) dX6_readNot_99 rfl 2 rfl ?_
          obtain ⟨μ40, e39, h⟩ := bnd h
          refine J.callV (pc := 100) (k2 := 0) (n2 := 0) dX6_readNot_100 ml_RX6_212 mo_X6_readSum mv_X6_readSum rfl (tX6_readSum hrec e39 hN37 k0) k0 (okN hN37 k0 (by decide)).1 (okN hN37 k0 (by decide)).2 cq_6 (by decide) rfl rfl (Nat.le_of_ble_eq_true rfl) (by decide) (by decide) (fun v ν hp => ?_) (fun i ν hp => nrm hp.1)
          obtain ⟨rfl, rfl, hN41, hb42⟩ := PEl hp
          show J _ _ _ _ 103 _ ([]) _ _ _ _
          refine J.aload_n (pc := 103) dX6_readNot_103 rfl 1 rfl ?_
          obtain ⟨a43, e44, h⟩ := bnd h
          have k45 : (kd a43).1 = 17 := gR_k e44
          refine J.fR (pc := 104) dX6_readNot_104 fl_RX6_53 k0 (okN hN41 k0 (by decide)) rfl e44 ?_
          refine J.iload_n (pc := 107) dX6_readNot_107 rfl 0 rfl ?_
          obtain ⟨μ47, e46, h⟩ := bnd h
          refine J.callV (pc := 108) (k2 := 0) (n2 := 0) dX6_readNot_108 ml_RX6_202 mo_X7_add mv_X7_add rfl (tX7_add (d + 23) e46 hN41 k45) k45 (okN hN41 k45 (by decide)).1 (okN hN41 k45 (by decide)).2 cq_7 (by decide) rfl rfl (Nat.le_of_ble_eq_true rfl) (by decide) (by decide) (fun v ν hp => ?_) (fun i ν hp => nrm hp.1)
          obtain ⟨rfl, rfl, hN48, hb49⟩ := PEl hp
          show J _ _ _ _ 111 _ ([]) _ _ _ _
          refine J.iconst (pc := 111) dX6_readNot_111 ic_0 ?_
          refine J.istore_n (pc := 112) ([(3, .int (0 : Int32)), (0, .ref v0), (1, .int v1), (2, .int v2)]) dX6_readNot_112 rfl (Nat.le_of_ble_eq_true rfl) rfl ?_
          refine J.pick [1, 3, 0] rfl ?_
          exact (tX6_readNot_113 d hrec fuel) v0 v2 (0 : Int32) μ47 h hN48 k0
        · refine J.cne (pc := 83) (tgt := 91) dX6_readNot_83 (by decide) (fun q => absurd q hc) (fun _ => ?_)
          refine J.bipush (pc := 91) dX6_readNot_91 ib_m14 ?_
          refine J.istore_n (pc := 93) ([(3, .int (-14 : Int32)), (0, .ref v0), (1, .int v1), (2, .int v2)]) dX6_readNot_93 rfl (Nat.le_of_ble_eq_true rfl) rfl ?_
          refine J.aload_n (pc := 94) dX6_readNot_94 rfl 1 rfl ?_
          obtain ⟨μ51, e50, h⟩ := bnd h
          refine J.callV (pc := 95) (k2 := 0) (n2 := 0) dX6_readNot_95 ml_RX6_65 mo_X6_advance mv_X6_advance rfl (tX6_advance (d + 18) e50 hN3 k0) k0 (okN hN3 k0 (by decide)).1 (okN hN3 k0 (by decide)).2 cq_6 (by decide) rfl rfl (Nat.le_of_ble_eq_true rfl) (by decide) (by decide) (fun v ν hp => ?_) (fun i ν hp => nrm hp.1)
          obtain ⟨rfl, rfl, hN52, hb53⟩ := PEl hp
          show J _ _ _ _ 98 _ ([]) _ _ _ _
          refine J.aload_n (pc := 98) dX6_readNot_98 rfl 1 rfl ?_
          refine J.iload_n (pc := 99) dX6_readNot_99 rfl 2 rfl ?_
          obtain ⟨μ55, e54, h⟩ := bnd h
          refine J.callV (pc := 100) (k2 := 0) (n2 := 0) dX6_readNot_100 ml_RX6_212 mo_X6_readSum mv_X6_readSum rfl (tX6_readSum hrec e54 hN52 k0) k0 (okN hN52 k0 (by decide)).1 (okN hN52 k0 (by decide)).2 cq_6 (by decide) rfl rfl (Nat.le_of_ble_eq_true rfl) (by decide) (by decide) (fun v ν hp => ?_) (fun i ν hp => nrm hp.1)
          obtain ⟨rfl, rfl, hN56, hb57⟩ := PEl hp
          show J _ _ _ _ 103 _ ([]) _ _ _ _
          refine J.aload_n (pc := 103) dX6_readNot_103 rfl 1 rfl ?_
          obtain ⟨a58, e59, h⟩ := bnd h
          have k60 : (kd a58).1 = 17 := gR_k e59
          refine J.fR (pc := 104) dX6_readNot_104 fl_RX6_53 k0 (okN hN56 k0 (by decide)) rfl e59 ?_
          refine J.iload_n (pc := 107) dX6_readNot_107 rfl 0 rfl ?_
          obtain ⟨μ62, e61, h⟩ := bnd h
          refine J.callV (pc := 108) (k2 := 0) (n2 := 0) dX6_readNot_108 ml_RX6_202 mo_X7_add mv_X7_add rfl (tX7_add (d + 23) e61 hN56 k60) k60 (okN hN56 k60 (by decide)).1 (okN hN56 k60 (by decide)).2 cq_7 (by decide) rfl rfl (Nat.le_of_ble_eq_true rfl) (by decide) (by decide) (fun v ν hp => ?_) (fun i ν hp => nrm hp.1)
          obtain ⟨rfl, rfl, hN63, hb64⟩ := PEl hp
          show J _ _ _ _ 111 _ ([]) _ _ _ _
          refine J.iconst (pc := 111) dX6_readNot_111 ic_0 ?_
          refine J.istore_n (pc := 112) ([(3, .int (0 : Int32)), (0, .ref v0), (1, .int v1), (2, .int v2)]) dX6_readNot_112 rfl (Nat.le_of_ble_eq_true rfl) rfl ?_
          refine J.pick [1, 3, 0] rfl ?_
          exact (tX6_readNot_113 d hrec fuel) v0 v2 (0 : Int32) μ62 h hN63 k0
      · refine J.cne (pc := 74) (tgt := 111) dX6_readNot_74 (by decide) (fun q => absurd q hc) (fun _ => ?_)
        refine J.iconst (pc := 111) dX6_readNot_111 ic_0 ?_
        refine J.istore_n (pc := 112) ([(3, .int (0 : Int32)), (0, .ref v0), (1, .int v1), (2, .int v2)]) dX6_readNot_112 rfl (Nat.le_of_ble_eq_true rfl) rfl ?_
        refine J.pick [1, 3, 0] rfl ?_
        exact (tX6_readNot_113 d hrec fuel) v0 v2 (0 : Int32) μ2 h hN3 k0
  · refine J.zne (pc := 56) (tgt := 111) dX6_readNot_56 (by decide) (fun q => absurd q hc) (fun _ => ?_)
    refine J.iconst (pc := 111) dX6_readNot_111 ic_0 ?_
    refine J.istore_n (pc := 112) ([(3, .int (0 : Int32)), (0, .ref v0), (1, .int v1), (2, .int v2)]) dX6_readNot_112 rfl (Nat.le_of_ble_eq_true rfl) rfl ?_
    refine J.pick [1, 3, 0] rfl ?_
    exact (tX6_readNot_113 d hrec fuel) v0 v2 (0 : Int32) μ2 h hN3 k0
def fX6_readNot_2 (rec : Nat → Int32 → Mem → Option Mem)  : Nat → Nat → Int32 → Int32 → Mem → Option (Mem)
  | 0, _, _, _, _ => none
  | n + 1, v0, v1, v2, μ =>
    if v2 < (6 : Int32) then
      (fX6_isWord v0 5 μ).bind fun r2 =>
      if r2 = 0 then
        if v2 = (6 : Int32) then
          (fX6_isWord v0 5 μ).bind fun r6 =>
          if r6 = 0 then
            (fX6_readNot_47 rec) v0 v1 v2 μ
          else
            (fX6_refuse v0 (2 : Int32) μ).bind fun μ10 =>
            (fX6_readNot_47 rec) v0 v1 v2 μ10
        else
          (fX6_readNot_47 rec) v0 v1 v2 μ
      else
        (fX6_advance v0 μ).bind fun μ14 =>
        (fX6_readNot_2 rec n) v0 v1 (v2 + (1 : Int32)) μ14
    else
      if v2 = (6 : Int32) then
        (fX6_isWord v0 5 μ).bind fun r18 =>
        if r18 = 0 then
          (fX6_readNot_47 rec) v0 v1 v2 μ
        else
          (fX6_refuse v0 (2 : Int32) μ).bind fun μ22 =>
          (fX6_readNot_47 rec) v0 v1 v2 μ22
      else
        (fX6_readNot_47 rec) v0 v1 v2 μ
set_option maxHeartbeats 4000000 in
theorem tX6_readNot_2 {ω : Wd} {l : Launch} (d : Nat) {rec : Nat → Int32 → Mem → Option Mem} (hrec : HR ω l d rec) {res : Mem} : ∀ n : Nat, ∀ (v0 : Nat) (v1 : Int32) (v2 : Int32) (μ : Mem), fX6_readNot_2 rec n v0 v1 v2 μ = some res → μ.1 = NN → (kd v0).1 = 16 → J ω l mX6_readNot (d + 24) 2 [(0, .ref v0), (1, .int v1), (2, .int v2)] [] μ 0 0 (PE (.inl none) res True) := by
  intro n
  induction n with
  | zero =>
    intro v0 v1 v2 μ h hN k0
    have h9 : (none : Option (Mem)) = some res := h
    cases h9
  | succ n ih =>
    intro v0 v1 v2 μ h hN k0
    unfold fX6_readNot_2 at h
    refine J.iload_n (pc := 2) dX6_readNot_2 rfl 2 rfl ?_
    refine J.bipush (pc := 3) dX6_readNot_3 ib_6 ?_
    rcases ifc h with ⟨hc, h⟩ | ⟨hc, h⟩
    · refine J.cge (pc := 5) (tgt := 27) dX6_readNot_5 (by decide) (fun _ => ?_) (fun q => absurd hc q)
      refine J.aload_n (pc := 8) dX6_readNot_8 rfl 0 rfl ?_
      refine J.ldcS (pc := 9) (i := 5) dX6_readNot_9 rfl ?_
      obtain ⟨r2, e1, h⟩ := bnd h
      refine J.callV (pc := 11) (k2 := 0) (n2 := 0) dX6_readNot_11 ml_RX6_181 mo_X6_isWord mv_X6_isWord rfl (tX6_isWord (d + 18) e1 hN k0 (by decide)) k0 (okN hN k0 (by decide)).1 (okN hN k0 (by decide)).2 cq_6 (by decide) rfl rfl (Nat.le_of_ble_eq_true rfl) (by decide) (by decide) (fun v ν hp => ?_) (fun i ν hp => nrm hp.1)
      obtain ⟨rfl, rfl, hN3, hb4⟩ := PEl hp
      show J _ _ _ _ 14 _ ([.int r2]) _ _ _ _
      rcases ifc h with ⟨hc, h⟩ | ⟨hc, h⟩
      · refine J.zeq (pc := 14) (tgt := 27) dX6_readNot_14 (by decide) (fun _ => ?_) (fun q => absurd hc q)
        refine J.iload_n (pc := 27) dX6_readNot_27 rfl 2 rfl ?_
        refine J.bipush (pc := 28) dX6_readNot_28 ib_6 ?_
        rcases ifc h with ⟨hc, h⟩ | ⟨hc, h⟩
        · refine J.cne (pc := 30) (tgt := 47) dX6_readNot_30 (by decide) (fun _ => ?_) (fun q => absurd hc q)
          refine J.aload_n (pc := 33) dX6_readNot_33 rfl 0 rfl ?_
          refine J.ldcS (pc := 34) (i := 5) dX6_readNot_34 rfl ?_
          obtain ⟨r6, e5, h⟩ := bnd h
          refine J.callV (pc := 36) (k2 := 0) (n2 := 0) dX6_readNot_36 ml_RX6_181 mo_X6_isWord mv_X6_isWord rfl (tX6_isWord (d + 18) e5 hN3 k0 (by decide)) k0 (okN hN3 k0 (by decide)).1 (okN hN3 k0 (by decide)).2 cq_6 (by decide) rfl rfl (Nat.le_of_ble_eq_true rfl) (by decide) (by decide) (fun v ν hp => ?_) (fun i ν hp => nrm hp.1)
          obtain ⟨rfl, rfl, hN7, hb8⟩ := PEl hp
          show J _ _ _ _ 39 _ ([.int r6]) _ _ _ _
          rcases ifc h with ⟨hc, h⟩ | ⟨hc, h⟩
          · refine J.zeq (pc := 39) (tgt := 47) dX6_readNot_39 (by decide) (fun _ => ?_) (fun q => absurd hc q)
            exact (tX6_readNot_47 d hrec) v0 v1 v2 μ h hN7 k0
          · refine J.zeq (pc := 39) (tgt := 47) dX6_readNot_39 (by decide) (fun q => absurd q hc) (fun _ => ?_)
            refine J.aload_n (pc := 42) dX6_readNot_42 rfl 0 rfl ?_
            refine J.iconst (pc := 43) dX6_readNot_43 ic_2 ?_
            obtain ⟨μ10, e9, h⟩ := bnd h
            refine J.callV (pc := 44) (k2 := 0) (n2 := 0) dX6_readNot_44 ml_RX6_109 mo_X6_refuse mv_X6_refuse rfl (tX6_refuse (d + 23) e9 hN7 k0) k0 (okN hN7 k0 (by decide)).1 (okN hN7 k0 (by decide)).2 cq_6 (by decide) rfl rfl (Nat.le_of_ble_eq_true rfl) (by decide) (by decide) (fun v ν hp => ?_) (fun i ν hp => nrm hp.1)
            obtain ⟨rfl, rfl, hN11, hb12⟩ := PEl hp
            show J _ _ _ _ 47 _ ([]) _ _ _ _
            exact (tX6_readNot_47 d hrec) v0 v1 v2 μ10 h hN11 k0
        · refine J.cne (pc := 30) (tgt := 47) dX6_readNot_30 (by decide) (fun q => absurd q hc) (fun _ => ?_)
          exact (tX6_readNot_47 d hrec) v0 v1 v2 μ h hN3 k0
      · refine J.zeq (pc := 14) (tgt := 27) dX6_readNot_14 (by decide) (fun q => absurd q hc) (fun _ => ?_)
        refine J.iinc (pc := 17) (j := 2) ([(2, .int (v2 + (1 : Int32))), (0, .ref v0), (1, .int v1)]) dX6_readNot_17 rfl (iincv ic_1) (Nat.le_of_ble_eq_true rfl) rfl ?_
        refine J.aload_n (pc := 20) dX6_readNot_20 rfl 1 rfl ?_
        obtain ⟨μ14, e13, h⟩ := bnd h
        refine J.callV (pc := 21) (k2 := 0) (n2 := 0) dX6_readNot_21 ml_RX6_65 mo_X6_advance mv_X6_advance rfl (tX6_advance (d + 18) e13 hN3 k0) k0 (okN hN3 k0 (by decide)).1 (okN hN3 k0 (by decide)).2 cq_6 (by decide) rfl rfl (Nat.le_of_ble_eq_true rfl) (by decide) (by decide) (fun v ν hp => ?_) (fun i ν hp => nrm hp.1)
        obtain ⟨rfl, rfl, hN15, hb16⟩ := PEl hp
        show J _ _ _ _ 24 _ ([]) _ _ _ _
        refine J.goto (pc := 24) (tgt := 2) dX6_readNot_24 (by decide) ?_
        refine J.pick [1, 2, 0] rfl ?_
        exact ih v0 v1 (v2 + (1 : Int32)) μ14 h hN15 k0
    · refine J.cge (pc := 5) (tgt := 27) dX6_readNot_5 (by decide) (fun q => absurd q hc) (fun _ => ?_)
      refine J.iload_n (pc := 27) dX6_readNot_27 rfl 2 rfl ?_
      refine J.bipush (pc := 28) dX6_readNot_28 ib_6 ?_
      rcases ifc h with ⟨hc, h⟩ | ⟨hc, h⟩
      · refine J.cne (pc := 30) (tgt := 47) dX6_readNot_30 (by decide) (fun _ => ?_) (fun q => absurd hc q)
        refine J.aload_n (pc := 33) dX6_readNot_33 rfl 0 rfl ?_
        refine J.ldcS (pc := 34) (i := 5) dX6_readNot_34 rfl ?_
        obtain ⟨r18, e17, h⟩ := bnd h
        refine J.callV (pc := 36) (k2 := 0) (n2 := 0) dX6_readNot_36 ml_RX6_181 mo_X6_isWord mv_X6_isWord rfl (tX6_isWord (d + 18) e17 hN k0 (by decide)) k0 (okN hN k0 (by decide)).1 (okN hN k0 (by decide)).2 cq_6 (by decide) rfl rfl (Nat.le_of_ble_eq_true rfl) (by decide) (by decide) (fun v ν hp => ?_) (fun i ν hp => nrm hp.1)
        obtain ⟨rfl, rfl, hN19, hb20⟩ := PEl hp
        show J _ _ _ _ 39 _ ([.int r18]) _ _ _ _
        rcases ifc h with ⟨hc, h⟩ | ⟨hc, h⟩
        · refine J.zeq (pc := 39) (tgt := 47) dX6_readNot_39 (by decide) (fun _ => ?_) (fun q => absurd hc q)
          exact (tX6_readNot_47 d hrec) v0 v1 v2 μ h hN19 k0
        · refine J.zeq (pc := 39) (tgt := 47) dX6_readNot_39 (by decide) (fun q => absurd q hc) (fun _ => ?_)
          refine J.aload_n (pc := 42) dX6_readNot_42 rfl 0 rfl ?_
          refine J.iconst (pc := 43) dX6_readNot_43 ic_2 ?_
          obtain ⟨μ22, e21, h⟩ := bnd h
          refine J.callV (pc := 44) (k2 := 0) (n2 := 0) dX6_readNot_44 ml_RX6_109 mo_X6_refuse mv_X6_refuse rfl (tX6_refuse (d + 23) e21 hN19 k0) k0 (okN hN19 k0 (by decide)).1 (okN hN19 k0 (by decide)).2 cq_6 (by decide) rfl rfl (Nat.le_of_ble_eq_true rfl) (by decide) (by decide) (fun v ν hp => ?_) (fun i ν hp => nrm hp.1)
          obtain ⟨rfl, rfl, hN23, hb24⟩ := PEl hp
          show J _ _ _ _ 47 _ ([]) _ _ _ _
          exact (tX6_readNot_47 d hrec) v0 v1 v2 μ22 h hN23 k0
      · refine J.cne (pc := 30) (tgt := 47) dX6_readNot_30 (by decide) (fun q => absurd q hc) (fun _ => ?_)
        exact (tX6_readNot_47 d hrec) v0 v1 v2 μ h hN k0
def fX6_readNot (rec : Nat → Int32 → Mem → Option Mem) (v0 : Nat) (v1 : Int32) (μ : Mem) : Option (Mem) :=
  (fX6_readNot_2 rec fuel) v0 v1 (0 : Int32) μ
set_option maxHeartbeats 4000000 in
theorem tX6_readNot {ω : Wd} {l : Launch} {d : Nat} {rec : Nat → Int32 → Mem → Option Mem} (hrec : HR ω l d rec) {v0 : Nat} {v1 : Int32} {μ : Mem} {res : Mem} (h : fX6_readNot rec v0 v1 μ = some res) (hN : μ.1 = NN) (k0 : (kd v0).1 = 16) : Ct ω l mX6_readNot (d + 24) [.ref v0, .int v1] μ 0 0 (PE (.inl none) res True) := by
  refine Ct.of pn_RX6 (Nat.le_of_ble_eq_true rfl) ?_
  show J ω l mX6_readNot (d + 24) 0 [(0, .ref v0), (1, .int v1)] [] μ 0 0 _
  unfold fX6_readNot at h
  refine J.iconst (pc := 0) dX6_readNot_0 ic_0 ?_
  refine J.istore_n (pc := 1) ([(2, .int (0 : Int32)), (0, .ref v0), (1, .int v1)]) dX6_readNot_1 rfl (Nat.le_of_ble_eq_true rfl) rfl ?_
  refine J.pick [1, 2, 0] rfl ?_
  exact (tX6_readNot_2 d hrec fuel) v0 v1 (0 : Int32) μ h hN k0
