def fX9_crowdedPlace_6 (μ : Mem) : Nat → Nat → Int32 → Int32 → Int32 → Option (Int32)
  | 0, _, _, _, _ => none
  | n + 1, v0, v1, v2, v3 =>
    if v3 < (6 : Int32) then
      (gR μ v0 4 0).bind fun a1 =>
      (ldI μ a1 v3).bind fun x4 =>
      (fX9_crowd v0 x4 μ).bind fun r7 =>
      if v2 < r7 then
        (gR μ v0 4 0).bind fun a10 =>
        (ldI μ a10 v3).bind fun x13 =>
        (fX9_crowdedPlace_6 μ n) v0 x13 r7 (v3 + (1 : Int32))
      else
        if 0 < r7 then
          if r7 = v2 then
            (gR μ v0 4 0).bind fun a15 =>
            (ldI μ a15 v3).bind fun x18 =>
            if x18 < v1 then
              (gR μ v0 4 0).bind fun a20 =>
              (ldI μ a20 v3).bind fun x23 =>
              (fX9_crowdedPlace_6 μ n) v0 x23 r7 (v3 + (1 : Int32))
            else
              (fX9_crowdedPlace_6 μ n) v0 v1 v2 (v3 + (1 : Int32))
          else
            (fX9_crowdedPlace_6 μ n) v0 v1 v2 (v3 + (1 : Int32))
        else
          (fX9_crowdedPlace_6 μ n) v0 v1 v2 (v3 + (1 : Int32))
    else
      some v1
set_option maxHeartbeats 4000000 in
theorem tX9_crowdedPlace_6 {ω : Wd} {l : Launch} (d : Nat) {μ : Mem} (hN : μ.1 = NN) {res : Int32} : ∀ n : Nat, ∀ (v0 : Nat) (v1 : Int32) (v2 : Int32) (v3 : Int32), fX9_crowdedPlace_6 μ n v0 v1 v2 v3 = some res → (kd v0).1 = 19 → J ω l mX9_crowdedPlace (d + 1) 6 [(0, .ref v0), (1, .int v1), (2, .int v2), (3, .int v3)] [] μ 0 0 (PE (.inl (some (.int res))) μ True) := by
  intro n
  induction n with
  | zero =>
    intro v0 v1 v2 v3 h k0
    have h9 : (none : Option (Int32)) = some res := h
    cases h9
  | succ n ih =>
    intro v0 v1 v2 v3 h k0
    unfold fX9_crowdedPlace_6 at h
    refine J.iload_n (pc := 6) dX9_crowdedPlace_6 rfl 3 rfl ?_
    refine J.bipush (pc := 7) dX9_crowdedPlace_7 ib_6 ?_
    rcases ifc h with ⟨hc, h⟩ | ⟨hc, h⟩
    · refine J.cge (pc := 9) (tgt := 67) dX9_crowdedPlace_9 (by decide) (fun _ => ?_) (fun q => absurd hc q)
      refine J.aload_n (pc := 12) dX9_crowdedPlace_12 rfl 0 rfl ?_
      refine J.aload_n (pc := 13) dX9_crowdedPlace_13 rfl 0 rfl ?_
      obtain ⟨a1, e2, h⟩ := bnd h
      have k3 : (kd a1).1 = 0 := gR_k e2
      refine J.fR (pc := 14) dX9_crowdedPlace_14 fl_RX9_26 k0 (okN hN k0 (by decide)) rfl e2 ?_
      refine J.iload_n (pc := 17) dX9_crowdedPlace_17 rfl 3 rfl ?_
      obtain ⟨x4, e5, h⟩ := bnd h
      refine J.aI (pc := 18) dX9_crowdedPlace_18 k3 (okN hN k3 (by decide)) e5 ?_
      obtain ⟨r7, e6, h⟩ := bnd h
      refine J.callV (Y := mX9_crowdedPlace) (Z := mX9_crowd) (pc := 19) (st := []) (k2 := 0) (n2 := 0) dX9_crowdedPlace_19 ml_RX9_50 mo_X9_crowd mv_X9_crowd rfl (tX9_crowd d e6 hN k0) k0 (okN hN k0 (by decide)).1 (okN hN k0 (by decide)).2 cq_9 (by decide) rfl rfl (Nat.le_of_ble_eq_true rfl) (by decide) (by decide) (fun v ν hp => ?_) (fun i ν hp => nrm hp.1)
      obtain ⟨rfl, rfl, hN8, hb9⟩ := QEl hp
      show J _ _ _ _ 22 _ ([.int r7]) _ _ _ _
      refine J.istore (pc := 22) ([(4, .int r7), (0, .ref v0), (1, .int v1), (2, .int v2), (3, .int v3)]) dX9_crowdedPlace_22 (Nat.le_of_ble_eq_true rfl) rfl ?_
      refine J.iload (pc := 24) dX9_crowdedPlace_24 0 rfl ?_
      refine J.iload_n (pc := 26) dX9_crowdedPlace_26 rfl 3 rfl ?_
      rcases ifc h with ⟨hc, h⟩ | ⟨hc, h⟩
      · refine J.cgt (pc := 27) (tgt := 51) dX9_crowdedPlace_27 (by decide) (fun _ => ?_) (fun q => absurd hc q)
        refine J.iload (pc := 51) dX9_crowdedPlace_51 0 rfl ?_
        refine J.istore_n (pc := 53) ([(2, .int r7), (4, .int r7), (0, .ref v0), (1, .int v1), (3, .int v3)]) dX9_crowdedPlace_53 rfl (Nat.le_of_ble_eq_true rfl) rfl ?_
        refine J.aload_n (pc := 54) dX9_crowdedPlace_54 rfl 2 rfl ?_
        obtain ⟨a10, e11, h⟩ := bnd h
        have k12 : (kd a10).1 = 0 := gR_k e11
        refine J.fR (pc := 55) dX9_crowdedPlace_55 fl_RX9_26 k0 (okN hN8 k0 (by decide)) rfl e11 ?_
        refine J.iload_n (pc := 58) dX9_crowdedPlace_58 rfl 4 rfl ?_
        obtain ⟨x13, e14, h⟩ := bnd h
        refine J.aI (pc := 59) dX9_crowdedPlace_59 k12 (okN hN8 k12 (by decide)) e14 ?_
        refine J.istore_n (pc := 60) ([(1, .int x13), (2, .int r7), (4, .int r7), (0, .ref v0), (3, .int v3)]) dX9_crowdedPlace_60 rfl (Nat.le_of_ble_eq_true rfl) rfl ?_
        refine J.iinc (pc := 61) (j := 4) ([(3, .int (v3 + (1 : Int32))), (1, .int x13), (2, .int r7), (4, .int r7), (0, .ref v0)]) dX9_crowdedPlace_61 rfl (iincv ic_1) (Nat.le_of_ble_eq_true rfl) rfl ?_
        refine J.goto (pc := 64) (tgt := 6) dX9_crowdedPlace_64 (by decide) ?_
        refine J.pick [4, 1, 2, 0] rfl ?_
        exact ih v0 x13 r7 (v3 + (1 : Int32)) h k0
      · refine J.cgt (pc := 27) (tgt := 51) dX9_crowdedPlace_27 (by decide) (fun q => absurd q hc) (fun _ => ?_)
        refine J.iload (pc := 30) dX9_crowdedPlace_30 0 rfl ?_
        rcases ifc h with ⟨hc, h⟩ | ⟨hc, h⟩
        · refine J.zle (pc := 32) (tgt := 61) dX9_crowdedPlace_32 (by decide) (fun _ => ?_) (fun q => absurd hc q)
          refine J.iload (pc := 35) dX9_crowdedPlace_35 0 rfl ?_
          refine J.iload_n (pc := 37) dX9_crowdedPlace_37 rfl 3 rfl ?_
          rcases ifc h with ⟨hc, h⟩ | ⟨hc, h⟩
          · refine J.cne (pc := 38) (tgt := 61) dX9_crowdedPlace_38 (by decide) (fun _ => ?_) (fun q => absurd hc q)
            refine J.aload_n (pc := 41) dX9_crowdedPlace_41 rfl 1 rfl ?_
            obtain ⟨a15, e16, h⟩ := bnd h
            have k17 : (kd a15).1 = 0 := gR_k e16
            refine J.fR (pc := 42) dX9_crowdedPlace_42 fl_RX9_26 k0 (okN hN8 k0 (by decide)) rfl e16 ?_
            refine J.iload_n (pc := 45) dX9_crowdedPlace_45 rfl 4 rfl ?_
            obtain ⟨x18, e19, h⟩ := bnd h
            refine J.aI (pc := 46) dX9_crowdedPlace_46 k17 (okN hN8 k17 (by decide)) e19 ?_
            refine J.iload_n (pc := 47) dX9_crowdedPlace_47 rfl 2 rfl ?_
            rcases ifc h with ⟨hc, h⟩ | ⟨hc, h⟩
            · refine J.cge (pc := 48) (tgt := 61) dX9_crowdedPlace_48 (by decide) (fun _ => ?_) (fun q => absurd hc q)
              refine J.iload (pc := 51) dX9_crowdedPlace_51 0 rfl ?_
              refine J.istore_n (pc := 53) ([(2, .int r7), (4, .int r7), (0, .ref v0), (1, .int v1), (3, .int v3)]) dX9_crowdedPlace_53 rfl (Nat.le_of_ble_eq_true rfl) rfl ?_
              refine J.aload_n (pc := 54) dX9_crowdedPlace_54 rfl 2 rfl ?_
              obtain ⟨a20, e21, h⟩ := bnd h
              have k22 : (kd a20).1 = 0 := gR_k e21
              refine J.fR (pc := 55) dX9_crowdedPlace_55 fl_RX9_26 k0 (okN hN8 k0 (by decide)) rfl e21 ?_
              refine J.iload_n (pc := 58) dX9_crowdedPlace_58 rfl 4 rfl ?_
              obtain ⟨x23, e24, h⟩ := bnd h
              refine J.aI (pc := 59) dX9_crowdedPlace_59 k22 (okN hN8 k22 (by decide)) e24 ?_
              refine J.istore_n (pc := 60) ([(1, .int x23), (2, .int r7), (4, .int r7), (0, .ref v0), (3, .int v3)]) dX9_crowdedPlace_60 rfl (Nat.le_of_ble_eq_true rfl) rfl ?_
              refine J.iinc (pc := 61) (j := 4) ([(3, .int (v3 + (1 : Int32))), (1, .int x23), (2, .int r7), (4, .int r7), (0, .ref v0)]) dX9_crowdedPlace_61 rfl (iincv ic_1) (Nat.le_of_ble_eq_true rfl) rfl ?_
              refine J.goto (pc := 64) (tgt := 6) dX9_crowdedPlace_64 (by decide) ?_
              refine J.pick [4, 1, 2, 0] rfl ?_
              exact ih v0 x23 r7 (v3 + (1 : Int32)) h k0
            · refine J.cge (pc := 48) (tgt := 61) dX9_crowdedPlace_48 (by decide) (fun q => absurd q hc) (fun _ => ?_)
              refine J.iinc (pc := 61) (j := 4) ([(3, .int (v3 + (1 : Int32))), (4, .int r7), (0, .ref v0), (1, .int v1), (2, .int v2)]) dX9_crowdedPlace_61 rfl (iincv ic_1) (Nat.le_of_ble_eq_true rfl) rfl ?_
              refine J.goto (pc := 64) (tgt := 6) dX9_crowdedPlace_64 (by decide) ?_
              refine J.pick [2, 3, 4, 0] rfl ?_
              exact ih v0 v1 v2 (v3 + (1 : Int32)) h k0
          · refine J.cne (pc := 38) (tgt := 61) dX9_crowdedPlace_38 (by decide) (fun q => absurd q hc) (fun _ => ?_)
            refine J.iinc (pc := 61) (j := 4) ([(3, .int (v3 + (1 : Int32))), (4, .int r7), (0, .ref v0), (1, .int v1), (2, .int v2)]) dX9_crowdedPlace_61 rfl (iincv ic_1) (Nat.le_of_ble_eq_true rfl) rfl ?_
            refine J.goto (pc := 64) (tgt := 6) dX9_crowdedPlace_64 (by decide) ?_
            refine J.pick [2, 3, 4, 0] rfl ?_
            exact ih v0 v1 v2 (v3 + (1 : Int32)) h k0
        · refine J.zle (pc := 32) (tgt := 61) dX9_crowdedPlace_32 (by decide) (fun q => absurd q hc) (fun _ => ?_)
          refine J.iinc (pc := 61) (j := 4) ([(3, .int (v3 + (1 : Int32))), (4, .int r7), (0, .ref v0), (1, .int v1), (2, .int v2)]) dX9_crowdedPlace_61 rfl (iincv ic_1) (Nat.le_of_ble_eq_true rfl) rfl ?_
          refine J.goto (pc := 64) (tgt := 6) dX9_crowdedPlace_64 (by decide) ?_
          refine J.pick [2, 3, 4, 0] rfl ?_
          exact ih v0 v1 v2 (v3 + (1 : Int32)) h k0
    · refine J.cge (pc := 9) (tgt := 67) dX9_crowdedPlace_9 (by decide) (fun q => absurd q hc) (fun _ => ?_)
      refine J.iload_n (pc := 67) dX9_crowdedPlace_67 rfl 1 rfl ?_
      cases h
      exact J.iret (pc := 68) dX9_crowdedPlace_68 rfl ⟨rfl, rfl, hN, trivial⟩
def fX9_crowdedPlace (v0 : Nat) (μ : Mem) : Option (Int32) :=
  (fX9_crowdedPlace_6 μ fuel) v0 (-1 : Int32) (0 : Int32) (0 : Int32)
set_option maxHeartbeats 4000000 in
theorem tX9_crowdedPlace {ω : Wd} {l : Launch} (d : Nat) {v0 : Nat} {μ : Mem} {res : Int32} (h : fX9_crowdedPlace v0 μ = some res) (hN : μ.1 = NN) (k0 : (kd v0).1 = 19) : Ct ω l mX9_crowdedPlace (d + 1) [.ref v0] μ 0 0 (PE (.inl (some (.int res))) μ True) := by
  refine Ct.of pn_RX9 (Nat.le_of_ble_eq_true rfl) ?_
  show J ω l mX9_crowdedPlace (d + 1) 0 [(0, .ref v0)] [] μ 0 0 _
  unfold fX9_crowdedPlace at h
  refine J.iconst (pc := 0) dX9_crowdedPlace_0 ic_m1 ?_
  refine J.istore_n (pc := 1) ([(1, .int (-1 : Int32)), (0, .ref v0)]) dX9_crowdedPlace_1 rfl (Nat.le_of_ble_eq_true rfl) rfl ?_
  refine J.iconst (pc := 2) dX9_crowdedPlace_2 ic_0 ?_
  refine J.istore_n (pc := 3) ([(2, .int (0 : Int32)), (1, .int (-1 : Int32)), (0, .ref v0)]) dX9_crowdedPlace_3 rfl (Nat.le_of_ble_eq_true rfl) rfl ?_
  refine J.iconst (pc := 4) dX9_crowdedPlace_4 ic_0 ?_
  refine J.istore_n (pc := 5) ([(3, .int (0 : Int32)), (2, .int (0 : Int32)), (1, .int (-1 : Int32)), (0, .ref v0)]) dX9_crowdedPlace_5 rfl (Nat.le_of_ble_eq_true rfl) rfl ?_
  refine J.pick [3, 2, 1, 0] rfl ?_
  exact (tX9_crowdedPlace_6 d hN fuel) v0 (-1 : Int32) (0 : Int32) (0 : Int32) h k0
def fX10_later (v0 : Nat) (v1 : Int32) (v2 : Int32) (μ : Mem) : Option ((Int32 ⊕ Nat) × Mem) :=
  (fX10_needWhat v0 v2 (3 : Int32)).bind fun
  | .inl _ =>
    (fX10_needWithin v0 v1 (0 : Int32) (60 : Int32)).bind fun
    | .inl _ =>
      (fX10_runAhead v0 v1 μ).bind fun μ8 =>
      if v2 = (2 : Int32) then
        (gR μ8 v0 14 12).bind fun a11 =>
        (gR μ8 a11 0 19).bind fun a14 =>
        (fX10_inked v0 a14 μ8).bind fun r18 =>
        some (.inl r18, μ8)
      else
        (gR μ8 v0 14 12).bind fun a21 =>
        (gR μ8 a21 0 19).bind fun a24 =>
        (fX9_crowdedPlace a24 μ8).bind fun r28 =>
        if v2 = 0 then
          (gR μ8 v0 14 12).bind fun a31 =>
          (gR μ8 a31 0 19).bind fun a34 =>
          (fX9_crowd a34 r28 μ8).bind fun r38 =>
          some (.inl r38, μ8)
        else
          some (.inl (fX10_outside r28), μ8)
    | .inr i44 =>
      some (.inr i44, μ)
  | .inr i45 =>
    some (.inr i45, μ)
set_option maxHeartbeats 4000000 in
theorem tX10_later {ω : Wd} {l : Launch} (d : Nat) {v0 : Nat} {v1 : Int32} {v2 : Int32} {μ : Mem} {res : (Int32 ⊕ Nat) × Mem} (h : fX10_later v0 v1 v2 μ = some res) (hN : μ.1 = NN) (k0 : (kd v0).1 = 20) : Ct ω l mX10_later (d + 9) [.ref v0, .int v1, .int v2] μ 2 12 (PE (oI res.1) res.2 True) := by
  refine Ct.of pn_RX10 (Nat.le_of_ble_eq_true rfl) ?_
  show J ω l mX10_later (d + 9) 0 [(0, .ref v0), (1, .int v1), (2, .int v2)] [] μ 2 12 _
  unfold fX10_later at h
  refine J.aload_n (pc := 0) dX10_later_0 rfl 0 rfl ?_
  refine J.iload_n (pc := 1) dX10_later_1 rfl 2 rfl ?_
  refine J.iconst (pc := 2) dX10_later_2 ic_3 ?_
  obtain ⟨q, e1, h⟩ := bnd h
  rcases q with u | i45
  · try dsimp only at h
    refine J.callV (Y := mX10_later) (Z := mX10_needWhat) (pc := 3) (st := []) (k2 := 1) (n2 := 6) dX10_later_3 ml_RX10_140 mo_X10_needWhat mv_X10_needWhat rfl (tX10_needWhat d e1 hN k0) k0 (okN hN k0 (by decide)).1 (okN hN k0 (by decide)).2 cq_10 (by decide) rfl rfl (Nat.le_of_ble_eq_true rfl) (by decide) (by decide) (fun v ν hp => ?_) (fun i ν hp => nrm hp.1)
    obtain ⟨rfl, rfl, hN2, hb3⟩ := QEl hp
    show J _ _ _ _ 6 _ ([]) _ _ _ _
    refine J.aload_n (pc := 6) dX10_later_6 rfl 0 rfl ?_
    refine J.iload_n (pc := 7) dX10_later_7 rfl 1 rfl ?_
    refine J.iconst (pc := 8) dX10_later_8 ic_0 ?_
    refine J.bipush (pc := 9) dX10_later_9 ib_60 ?_
    obtain ⟨q, e4, h⟩ := bnd h
    rcases q with u | i44
    · try dsimp only at h
      refine J.callV (Y := mX10_later) (Z := mX10_needWithin) (pc := 11) (st := []) (k2 := 0) (n2 := 0) dX10_later_11 ml_RX10_260 mo_X10_needWithin mv_X10_needWithin rfl (tX10_needWithin d e4 hN2 k0) k0 (okN hN2 k0 (by decide)).1 (okN hN2 k0 (by decide)).2 cq_10 (by decide) rfl rfl (Nat.le_of_ble_eq_true rfl) (by decide) (by decide) (fun v ν hp => ?_) (fun i ν hp => nrm hp.1)
      obtain ⟨rfl, rfl, hN5, hb6⟩ := QEl hp
      show J _ _ _ _ 14 _ ([]) _ _ _ _
      refine J.aload_n (pc := 14) dX10_later_14 rfl 0 rfl ?_
      refine J.iload_n (pc := 15) dX10_later_15 rfl 1 rfl ?_
      obtain ⟨μ8, e7, h⟩ := bnd h
      refine J.callV (Y := mX10_later) (Z := mX10_runAhead) (pc := 16) (st := []) (k2 := 0) (n2 := 0) dX10_later_16 ml_RX10_239 mo_X10_runAhead mv_X10_runAhead rfl (tX10_runAhead (d + 3) e7 hN5 k0) k0 (okN hN5 k0 (by decide)).1 (okN hN5 k0 (by decide)).2 cq_10 (by decide) rfl rfl (Nat.le_of_ble_eq_true rfl) (by decide) (by decide) (fun v ν hp => ?_) (fun i ν hp => nrm hp.1)
      obtain ⟨rfl, rfl, hN9, hb10⟩ := QEl hp
      show J _ _ _ _ 19 _ ([]) _ _ _ _
      refine J.iload_n (pc := 19) dX10_later_19 rfl 2 rfl ?_
      refine J.iconst (pc := 20) dX10_later_20 ic_2 ?_
      rcases ifc h with ⟨hc, h⟩ | ⟨hc, h⟩
      · refine J.cne (pc := 21) (tgt := 36) dX10_later_21 (by decide) (fun _ => ?_) (fun q => absurd hc q)
        refine J.aload_n (pc := 24) dX10_later_24 rfl 0 rfl ?_
        refine J.aload_n (pc := 25) dX10_later_25 rfl 0 rfl ?_
        obtain ⟨a11, e12, h⟩ := bnd h
        have k13 : (kd a11).1 = 12 := gR_k e12
        refine J.fR (pc := 26) dX10_later_26 fl_RX10_79 k0 (okN hN9 k0 (by decide)) rfl e12 ?_
        obtain ⟨a14, e15, h⟩ := bnd h
        have k16 : (kd a14).1 = 19 := gR_k e15
        refine J.fR (pc := 29) dX10_later_29 fl_RX10_242 k13 (okN hN9 k13 (by decide)) rfl e15 ?_
        obtain ⟨r18, e17, h⟩ := bnd h
        refine J.callV (Y := mX10_later) (Z := mX10_inked) (pc := 32) (st := []) (k2 := 0) (n2 := 0) dX10_later_32 ml_RX10_171 mo_X10_inked mv_X10_inked rfl (tX10_inked (d + 7) e17 hN9 k0 k16) k0 (okN hN9 k0 (by decide)).1 (okN hN9 k0 (by decide)).2 cq_10 (by decide) rfl rfl (Nat.le_of_ble_eq_true rfl) (by decide) (by decide) (fun v ν hp => ?_) (fun i ν hp => nrm hp.1)
        obtain ⟨rfl, rfl, hN19, hb20⟩ := QEl hp
        show J _ _ _ _ 35 _ ([.int r18]) _ _ _ _
        cases h
        exact J.iret (pc := 35) dX10_later_35 rfl ⟨rfl, rfl, hN19, trivial⟩
      · refine J.cne (pc := 21) (tgt := 36) dX10_later_21 (by decide) (fun q => absurd q hc) (fun _ => ?_)
        refine J.aload_n (pc := 36) dX10_later_36 rfl 0 rfl ?_
        obtain ⟨a21, e22, h⟩ := bnd h
        have k23 : (kd a21).1 = 12 := gR_k e22
        refine J.fR (pc := 37) dX10_later_37 fl_RX10_79 k0 (okN hN9 k0 (by decide)) rfl e22 ?_
        obtain ⟨a24, e25, h⟩ := bnd h
        have k26 : (kd a24).1 = 19 := gR_k e25
        refine J.fR (pc := 40) dX10_later_40 fl_RX10_242 k23 (okN hN9 k23 (by decide)) rfl e25 ?_
        obtain ⟨r28, e27, h⟩ := bnd h
        refine J.callV (Y := mX10_later) (Z := mX9_crowdedPlace) (pc := 43) (st := []) (k2 := 0) (n2 := 0) dX10_later_43 ml_RX10_275 mo_X9_crowdedPlace mv_X9_crowdedPlace rfl (tX9_crowdedPlace (d + 7) e27 hN9 k26) k26 (okN hN9 k26 (by decide)).1 (okN hN9 k26 (by decide)).2 cq_9 (by decide) rfl rfl (Nat.le_of_ble_eq_true rfl) (by decide) (by decide) (fun v ν hp => ?_) (fun i ν hp => nrm hp.1)
        obtain ⟨rfl, rfl, hN29, hb30⟩ := QEl hp
        show J _ _ _ _ 46 _ ([.int r28]) _ _ _ _
        refine J.istore_n (pc := 46) ([(3, .int r28), (0, .ref v0), (1, .int v1), (2, .int v2)]) dX10_later_46 rfl (Nat.le_of_ble_eq_true rfl) rfl ?_
        refine J.iload_n (pc := 47) dX10_later_47 rfl 3 rfl ?_
        rcases ifc h with ⟨hc, h⟩ | ⟨hc, h⟩
        · refine J.zne (pc := 48) (tgt := 65) dX10_later_48 (by decide) (fun _ => ?_) (fun q => absurd hc q)
          refine J.aload_n (pc := 51) dX10_later_51 rfl 1 rfl ?_
          obtain ⟨a31, e32, h⟩ := bnd h
          have k33 : (kd a31).1 = 12 := gR_k e32
          refine J.fR (pc := 52) dX10_later_52 fl_RX10_79 k0 (okN hN29 k0 (by decide)) rfl e32 ?_
          obtain ⟨a34, e35, h⟩ := bnd h
          have k36 : (kd a34).1 = 19 := gR_k e35
          refine J.fR (pc := 55) dX10_later_55 fl_RX10_242 k33 (okN hN29 k33 (by decide)) rfl e35 ?_
          refine J.iload_n (pc := 58) dX10_later_58 rfl 0 rfl ?_
          obtain ⟨r38, e37, h⟩ := bnd h
          refine J.callV (Y := mX10_later) (Z := mX9_crowd) (pc := 59) (st := []) (k2 := 0) (n2 := 0) dX10_later_59 ml_RX10_278 mo_X9_crowd mv_X9_crowd rfl (tX9_crowd (d + 8) e37 hN29 k36) k36 (okN hN29 k36 (by decide)).1 (okN hN29 k36 (by decide)).2 cq_9 (by decide) rfl rfl (Nat.le_of_ble_eq_true rfl) (by decide) (by decide) (fun v ν hp => ?_) (fun i ν hp => nrm hp.1)
          obtain ⟨rfl, rfl, hN39, hb40⟩ := QEl hp
          show J _ _ _ _ 62 _ ([.int r38]) _ _ _ _
          refine J.goto (pc := 62) (tgt := 69) dX10_later_62 (by decide) ?_
          cases h
          exact J.iret (pc := 69) dX10_later_69 rfl ⟨rfl, rfl, hN39, trivial⟩
        · refine J.zne (pc := 48) (tgt := 65) dX10_later_48 (by decide) (fun q => absurd q hc) (fun _ => ?_)
          refine J.iload_n (pc := 65) dX10_later_65 rfl 0 rfl ?_
          refine J.callS (Y := mX10_later) (Z := mX10_outside) (pc := 66) (st := []) (k2 := 0) (n2 := 0) dX10_later_66 ml_RX10_214 mo_X10_outside ms_X10_outside rfl (tX10_outside (d + 8) r28 μ8 hN29 ) rfl rfl (Nat.le_of_ble_eq_true rfl) (by decide) (by decide) (fun v ν hp => ?_) (fun i ν hp => nrm hp.1)
          obtain ⟨rfl, rfl, hN42, hb43⟩ := QEl hp
          show J _ _ _ _ 69 _ ([.int (fX10_outside r28)]) _ _ _ _
          cases h
          exact J.iret (pc := 69) dX10_later_69 rfl ⟨rfl, rfl, hN42, trivial⟩
    · try dsimp only at h
      refine J.callV (Y := mX10_later) (Z := mX10_needWithin) (pc := 11) (st := []) (k2 := 0) (n2 := 0) dX10_later_11 ml_RX10_260 mo_X10_needWithin mv_X10_needWithin rfl (tX10_needWithin d e4 hN2 k0) k0 (okN hN2 k0 (by decide)).1 (okN hN2 k0 (by decide)).2 cq_10 (by decide) rfl rfl (Nat.le_of_ble_eq_true rfl) (by decide) (by decide) (fun v ν hp => nlm hp.1) (fun i ν hp => ?_)
      obtain ⟨rfl, rfl, hN9, -⟩ := QEr hp
      cases h
      exact JX.out rfl ⟨rfl, rfl, hN9, trivial⟩
  · try dsimp only at h
    refine J.callV (Y := mX10_later) (Z := mX10_needWhat) (pc := 3) (st := []) (k2 := 1) (n2 := 6) dX10_later_3 ml_RX10_140 mo_X10_needWhat mv_X10_needWhat rfl (tX10_needWhat d e1 hN k0) k0 (okN hN k0 (by decide)).1 (okN hN k0 (by decide)).2 cq_10 (by decide) rfl rfl (Nat.le_of_ble_eq_true rfl) (by decide) (by decide) (fun v ν hp => nlm hp.1) (fun i ν hp => ?_)
    obtain ⟨rfl, rfl, hN9, -⟩ := QEr hp
    cases h
    exact JX.out rfl ⟨rfl, rfl, hN9, trivial⟩
def fL_later (v0 : Nat) (v1 : Int32) (v2 : Int32) (v3 : Nat) (μ : Mem) : Option (Int32 × Mem) :=
  (fX10_later v0 v1 v2 μ).bind fun
  | (.inl r3, μ2) =>
    (stL μ2 v3 (0 : Int32) (r3.toInt64)).bind fun μ6 =>
    some ((0 : Int32), μ6)
  | (.inr i9, μ2) =>
    if i9 = 0 then some ((1 : Int32), μ2) else
    if i9 = 1 then some ((2 : Int32), μ2) else
    none
set_option maxHeartbeats 4000000 in
theorem tL_later {ω : Wd} {l : Launch} (d : Nat) {v0 : Nat} {v1 : Int32} {v2 : Int32} {v3 : Nat} {μ : Mem} {res : Int32 × Mem} (h : fL_later v0 v1 v2 v3 μ = some res) (hN : μ.1 = NN) (k0 : (kd v0).1 = 20) (k3 : (kd v3).1 = 1) : Ct ω l mL_later (d + 10) [.ref v0, .int v1, .int v2, .ref v3] μ 2 12 (PE (.inl (some (.int res.1))) res.2 True) := by
  refine Ct.of pn_RL (Nat.le_of_ble_eq_true rfl) ?_
  show J ω l mL_later (d + 10) 0 [(0, .ref v0), (1, .int v1), (2, .int v2), (3, .ref v3)] [] μ 2 12 _
  unfold fL_later at h
  refine J.aload_n (pc := 0) dL_later_0 rfl 3 rfl ?_
  refine J.iconst (pc := 1) dL_later_1 ic_0 ?_
  refine J.aload_n (pc := 2) dL_later_2 rfl 0 rfl ?_
  refine J.iload_n (pc := 3) dL_later_3 rfl 1 rfl ?_
  refine J.iload_n (pc := 4) dL_later_4 rfl 2 rfl ?_
  obtain ⟨⟨q, μ2⟩, e1, h⟩ := bnd h
  rcases q with r3 | i9
  · try dsimp only at h
    refine J.callV (Y := mL_later) (Z := mX10_later) (pc := 5) (st := [.int (0 : Int32), .ref v3]) (k2 := 0) (n2 := 0) dL_later_5 ml_RL_53 mo_X10_later mv_X10_later rfl (tX10_later d e1 hN k0) k0 (okN hN k0 (by decide)).1 (okN hN k0 (by decide)).2 cq_10 (by decide) rfl rfl (Nat.le_of_ble_eq_true rfl) (by decide) (by decide) (fun v ν hp => ?_) (fun i ν hp => nrm hp.1)
    obtain ⟨rfl, rfl, hN4, hb5⟩ := QEl hp
    show J _ _ _ _ 8 _ ([.int r3, .int (0 : Int32), .ref v3]) _ _ _ _
    refine J.i2l (pc := 8) dL_later_8 ?_
    obtain ⟨μ6, e7, h⟩ := bnd h
    have hN8 : μ6.1 = NN := stL_N e7 hN4
    refine J.wL (pc := 9) dL_later_9 k3 (okN hN4 k3 (by decide)) e7 ?_
    refine J.goto (pc := 10) (tgt := 21) dL_later_10 (by decide) ?_
    refine J.iconst (pc := 21) dL_later_21 ic_0 ?_
    cases h
    exact J.iret (pc := 22) dL_later_22 rfl ⟨rfl, rfl, hN8, trivial⟩
  · try dsimp only at h
    refine J.callV (Y := mL_later) (Z := mX10_later) (pc := 5) (st := [.int (0 : Int32), .ref v3]) (k2 := 0) (n2 := 0) dL_later_5 ml_RL_53 mo_X10_later mv_X10_later rfl (tX10_later d e1 hN k0) k0 (okN hN k0 (by decide)).1 (okN hN k0 (by decide)).2 cq_10 (by decide) rfl rfl (Nat.le_of_ble_eq_true rfl) (by decide) (by decide) (fun v ν hp => nlm hp.1) (fun i ν hp => ?_)
    obtain ⟨rfl, rfl, hN9, -⟩ := QEr hp
    rcases ifc h with ⟨hc, h⟩ | ⟨hc, h⟩
    · subst hc
      cases h
      exact JX.catch1 (i := 0) (by decide) rfl rfl (Nat.le_of_ble_eq_true rfl) (Nat.le_of_ble_eq_true rfl) (Or.inl ⟨4, Nat.le_of_ble_eq_true rfl, rfl, dL_later_13⟩) dL_later_15 ic_1 dL_later_16 rfl ⟨rfl, rfl, hN9, trivial⟩
    rcases ifc h with ⟨hc, h⟩ | ⟨hc, h⟩
    · subst hc
      cases h
      exact JX.catch2 rfl rfl (Nat.le_of_ble_eq_true rfl) (Nat.le_of_ble_eq_true rfl) (Or.inl ⟨4, Nat.le_of_ble_eq_true rfl, rfl, dL_later_17⟩) dL_later_19 ic_2 dL_later_20 rfl ⟨rfl, rfl, hN9, trivial⟩
    cases h
def fX0_keep (v0 : Nat) (v1 : Nat) (μ : Mem) : Option (Mem) :=
  if (μ.2.1 v0 0) = (40 : Int32) then
    (some (sI μ v0 1 (((μ.2.1 v0 1) + (1 : Int32)) - ((μ.2.1 v0 1) + (1 : Int32)) / (40 : Int32) * (40 : Int32)))).bind fun μ1 =>
    (some (sI μ1 v0 0 ((μ1.2.1 v0 0) - (1 : Int32)))).bind fun μ4 =>
    (gR μ4 v0 2 4).bind fun a7 =>
    (ldR μ4 a7 (((μ4.2.1 v0 1) + (μ4.2.1 v0 0)) - ((μ4.2.1 v0 1) + (μ4.2.1 v0 0)) / (40 : Int32) * (40 : Int32)) 19).bind fun a10 =>
    (fX9_copyFrom a10 v1 μ4).bind fun μ14 =>
    (some (sI μ14 v0 0 ((μ14.2.1 v0 0) + (1 : Int32)))).bind fun μ17 =>
    some μ17
  else
    (gR μ v0 2 4).bind fun a20 =>
    (ldR μ a20 (((μ.2.1 v0 1) + (μ.2.1 v0 0)) - ((μ.2.1 v0 1) + (μ.2.1 v0 0)) / (40 : Int32) * (40 : Int32)) 19).bind fun a23 =>
    (fX9_copyFrom a23 v1 μ).bind fun μ27 =>
    (some (sI μ27 v0 0 ((μ27.2.1 v0 0) + (1 : Int32)))).bind fun μ30 =>
    some μ30
set_option maxHeartbeats 4000000 in
theorem tX0_keep {ω : Wd} {l : Launch} (d : Nat) {v0 : Nat} {v1 : Nat} {μ : Mem} {res : Mem} (h : fX0_keep v0 v1 μ = some res) (hN : μ.1 = NN) (k0 : (kd v0).1 = 10) (k1 : (kd v1).1 = 19) : Ct ω l mX0_keep (d + 2) [.ref v0, .ref v1] μ 0 0 (PE (.inl none) res True) := by
  refine Ct.of pn_RX0 (Nat.le_of_ble_eq_true rfl) ?_
  show J ω l mX0_keep (d + 2) 0 [(0, .ref v0), (1, .ref v1)] [] μ 0 0 _
  unfold fX0_keep at h
  refine J.aload_n (pc := 0) dX0_keep_0 rfl 0 rfl ?_
  refine J.fI (pc := 1) dX0_keep_1 fl_RX0_9 k0 (okN hN k0 (by decide)) (Or.inl rfl) ?_
  refine J.bipush (pc := 4) dX0_keep_4 ib_40 ?_
  rcases ifc h with ⟨hc, h⟩ | ⟨hc, h⟩
  · refine J.cne (pc := 6) (tgt := 32) dX0_keep_6 (by decide) (fun _ => ?_) (fun q => absurd hc q)
    refine J.aload_n (pc := 9) dX0_keep_9 rfl 0 rfl ?_
    refine J.aload_n (pc := 10) dX0_keep_10 rfl 0 rfl ?_
    refine J.fI (pc := 11) dX0_keep_11 fl_RX0_15 k0 (okN hN k0 (by decide)) (Or.inl rfl) ?_
    refine J.iconst (pc := 14) dX0_keep_14 ic_1 ?_
    refine J.iadd (pc := 15) dX0_keep_15 ?_
    refine J.bipush (pc := 16) dX0_keep_16 ib_40 ?_
    refine J.irem (pc := 18) dX0_keep_18 (by decide) ?_
    obtain ⟨μ1, e2, h⟩ := bnd h
    have hN3 : μ1.1 = NN := smN e2 hN
    refine J.qI (pc := 19) dX0_keep_19 fl_RX0_15 k0 (okN hN k0 (by decide)) rfl rfl e2 ?_
    refine J.aload_n (pc := 22) dX0_keep_22 rfl 0 rfl ?_
    refine J.dup (pc := 23) dX0_keep_23 rfl ?_
    refine J.fI (pc := 24) dX0_keep_24 fl_RX0_9 k0 (okN hN3 k0 (by decide)) (Or.inl rfl) ?_
    refine J.iconst (pc := 27) dX0_keep_27 ic_1 ?_
    refine J.isub (pc := 28) dX0_keep_28 ?_
    obtain ⟨μ4, e5, h⟩ := bnd h
    have hN6 : μ4.1 = NN := smN e5 hN3
    refine J.qI (pc := 29) dX0_keep_29 fl_RX0_9 k0 (okN hN3 k0 (by decide)) rfl rfl e5 ?_
    refine J.aload_n (pc := 32) dX0_keep_32 rfl 0 rfl ?_
    obtain ⟨a7, e8, h⟩ := bnd h
    have k9 : (kd a7).1 = 4 := gR_k e8
    refine J.fR (pc := 33) dX0_keep_33 fl_RX0_20 k0 (okN hN6 k0 (by decide)) rfl e8 ?_
    refine J.aload_n (pc := 36) dX0_keep_36 rfl 0 rfl ?_
    refine J.fI (pc := 37) dX0_keep_37 fl_RX0_15 k0 (okN hN6 k0 (by decide)) (Or.inl rfl) ?_
    refine J.aload_n (pc := 40) dX0_keep_40 rfl 0 rfl ?_
    refine J.fI (pc := 41) dX0_keep_41 fl_RX0_9 k0 (okN hN6 k0 (by decide)) (Or.inl rfl) ?_
    refine J.iadd (pc := 44) dX0_keep_44 ?_
    refine J.bipush (pc := 45) dX0_keep_45 ib_40 ?_
    refine J.irem (pc := 47) dX0_keep_47 (by decide) ?_
    obtain ⟨a10, e11, h⟩ := bnd h
    have k12 : (kd a10).1 = 19 := ldR_k e11
    refine J.aR (pc := 48) dX0_keep_48 (Or.inr k9) (okN hN6 k9 (by decide)) e11 ?_
    refine J.aload_n (pc := 49) dX0_keep_49 rfl 1 rfl ?_
    obtain ⟨μ14, e13, h⟩ := bnd h
    refine J.callV (Y := mX0_keep) (Z := mX9_copyFrom) (pc := 50) (st := []) (k2 := 0) (n2 := 0) dX0_keep_50 ml_RX0_25 mo_X9_copyFrom mv_X9_copyFrom rfl (tX9_copyFrom d e13 hN6 k12 k1) k12 (okN hN6 k12 (by decide)).1 (okN hN6 k12 (by decide)).2 cq_9 (by decide) rfl rfl (Nat.le_of_ble_eq_true rfl) (by decide) (by decide) (fun v ν hp => ?_) (fun i ν hp => nrm hp.1)
    obtain ⟨rfl, rfl, hN15, hb16⟩ := QEl hp
    show J _ _ _ _ 53 _ ([]) _ _ _ _
    refine J.aload_n (pc := 53) dX0_keep_53 rfl 0 rfl ?_
    refine J.dup (pc := 54) dX0_keep_54 rfl ?_
    refine J.fI (pc := 55) dX0_keep_55 fl_RX0_9 k0 (okN hN15 k0 (by decide)) (Or.inl rfl) ?_
    refine J.iconst (pc := 58) dX0_keep_58 ic_1 ?_
    refine J.iadd (pc := 59) dX0_keep_59 ?_
    obtain ⟨μ17, e18, h⟩ := bnd h
    have hN19 : μ17.1 = NN := smN e18 hN15
    refine J.qI (pc := 60) dX0_keep_60 fl_RX0_9 k0 (okN hN15 k0 (by decide)) rfl rfl e18 ?_
    cases h
    exact J.vret (pc := 63) dX0_keep_63 rfl ⟨rfl, rfl, hN19, trivial⟩
  · refine J.cne (pc := 6) (tgt := 32) dX0_keep_6 (by decide) (fun q => absurd q hc) (fun _ => ?_)
    refine J.aload_n (pc := 32) dX0_keep_32 rfl 0 rfl ?_
    obtain ⟨a20, e21, h⟩ := bnd h
    have k22 : (kd a20).1 = 4 := gR_k e21
    refine J.fR (pc := 33) dX0_keep_33 fl_RX0_20 k0 (okN hN k0 (by decide)) rfl e21 ?_
    refine J.aload_n (pc := 36) dX0_keep_36 rfl 0 rfl ?_
    refine J.fI (pc := 37) dX0_keep_37 fl_RX0_15 k0 (okN hN k0 (by decide)) (Or.inl rfl) ?_
    refine J.aload_n (pc := 40) dX0_keep_40 rfl 0 rfl ?_
    refine J.fI (pc := 41) dX0_keep_41 fl_RX0_9 k0 (okN hN k0 (by decide)) (Or.inl rfl) ?_
    refine J.iadd (pc := 44) dX0_keep_44 ?_
    refine J.bipush (pc := 45) dX0_keep_45 ib_40 ?_
    refine J.irem (pc := 47) dX0_keep_47 (by decide) ?_
    obtain ⟨a23, e24, h⟩ := bnd h
    have k25 : (kd a23).1 = 19 := ldR_k e24
    refine J.aR (pc := 48) dX0_keep_48 (Or.inr k22) (okN hN k22 (by decide)) e24 ?_
    refine J.aload_n (pc := 49) dX0_keep_49 rfl 1 rfl ?_
    obtain ⟨μ27, e26, h⟩ := bnd h
    refine J.callV (Y := mX0_keep) (Z := mX9_copyFrom) (pc := 50) (st := []) (k2 := 0) (n2 := 0) dX0_keep_50 ml_RX0_25 mo_X9_copyFrom mv_X9_copyFrom rfl (tX9_copyFrom d e26 hN k25 k1) k25 (okN hN k25 (by decide)).1 (okN hN k25 (by decide)).2 cq_9 (by decide) rfl rfl (Nat.le_of_ble_eq_true rfl) (by decide) (by decide) (fun v ν hp => ?_) (fun i ν hp => nrm hp.1)
    obtain ⟨rfl, rfl, hN28, hb29⟩ := QEl hp
    show J _ _ _ _ 53 _ ([]) _ _ _ _
    refine J.aload_n (pc := 53) dX0_keep_53 rfl 0 rfl ?_
    refine J.dup (pc := 54) dX0_keep_54 rfl ?_
    refine J.fI (pc := 55) dX0_keep_55 fl_RX0_9 k0 (okN hN28 k0 (by decide)) (Or.inl rfl) ?_
    refine J.iconst (pc := 58) dX0_keep_58 ic_1 ?_
    refine J.iadd (pc := 59) dX0_keep_59 ?_
    obtain ⟨μ30, e31, h⟩ := bnd h
    have hN32 : μ30.1 = NN := smN e31 hN28
    refine J.qI (pc := 60) dX0_keep_60 fl_RX0_9 k0 (okN hN28 k0 (by decide)) rfl rfl e31 ?_
    cases h
    exact J.vret (pc := 63) dX0_keep_63 rfl ⟨rfl, rfl, hN32, trivial⟩
def fX10_let (v0 : Nat) (v1 : Int32) (v2 : Int32) (μ : Mem) : Option ((Int32 ⊕ Nat) × Mem) :=
  (fX10_needPerson v0 v1 μ).bind fun
  | .inl _ =>
    (fX10_inside v0 v2 μ).bind fun
    | .inl r5 =>
      (gR μ v0 7 19).bind fun a8 =>
      (gR μ a8 4 0).bind fun a11 =>
      (ldI μ a11 v1).bind fun x14 =>
      if x14 = r5 then
        (gR μ v0 3 0).bind fun a16 =>
        (ldI μ a16 (1 : Int32)).bind fun x19 =>
        (stI μ a16 (1 : Int32) (x19 + (1 : Int32))).bind fun μ21 =>
        some (.inl (-1 : Int32), μ21)
      else
        (gR μ v0 7 19).bind fun a24 =>
        (gR μ a24 3 0).bind fun a27 =>
        (ldI μ a27 r5).bind fun x30 =>
        if x30 = 0 then
          (gR μ v0 8 10).bind fun a32 =>
          (gR μ v0 7 19).bind fun a35 =>
          (fX0_keep a32 a35 μ).bind fun μ39 =>
          (gR μ39 v0 7 19).bind fun a42 =>
          (gR μ39 a42 4 0).bind fun a45 =>
          (stI μ39 a45 v1 r5).bind fun μ48 =>
          some (.inl (fX10_outside x14), μ48)
        else
          (gR μ v0 3 0).bind fun a54 =>
          (ldI μ a54 (1 : Int32)).bind fun x57 =>
          (stI μ a54 (1 : Int32) (x57 + (1 : Int32))).bind fun μ59 =>
          some (.inl (-1 : Int32), μ59)
    | .inr i62 =>
      some (.inr i62, μ)
  | .inr i63 =>
    some (.inr i63, μ)
set_option maxHeartbeats 4000000 in
theorem tX10_let {ω : Wd} {l : Launch} (d : Nat) {v0 : Nat} {v1 : Int32} {v2 : Int32} {μ : Mem} {res : (Int32 ⊕ Nat) × Mem} (h : fX10_let v0 v1 v2 μ = some res) (hN : μ.1 = NN) (k0 : (kd v0).1 = 20) : Ct ω l mX10_let (d + 9) [.ref v0, .int v1, .int v2] μ 2 12 (PE (oI res.1) res.2 True) := by
  refine Ct.of pn_RX10 (Nat.le_of_ble_eq_true rfl) ?_
  show J ω l mX10_let (d + 9) 0 [(0, .ref v0), (1, .int v1), (2, .int v2)] [] μ 2 12 _
  unfold fX10_let at h
  refine J.aload_n (pc := 0) dX10_let_0 rfl 0 rfl ?_
  refine J.iload_n (pc := 1) dX10_let_1 rfl 1 rfl ?_
  obtain ⟨q, e1, h⟩ := bnd h
  rcases q with u | i63
  · try dsimp only at h
    refine J.callV (Y := mX10_let) (Z := mX10_needPerson) (pc := 2) (st := []) (k2 := 1) (n2 := 6) dX10_let_2 ml_RX10_211 mo_X10_needPerson mv_X10_needPerson rfl (tX10_needPerson d e1 hN k0) k0 (okN hN k0 (by decide)).1 (okN hN k0 (by decide)).2 cq_10 (by decide) rfl rfl (Nat.le_of_ble_eq_true rfl) (by decide) (by decide) (fun v ν hp => ?_) (fun i ν hp => nrm hp.1)
    obtain ⟨rfl, rfl, hN2, hb3⟩ := QEl hp
    show J _ _ _ _ 5 _ ([]) _ _ _ _
    refine J.aload_n (pc := 5) dX10_let_5 rfl 0 rfl ?_
    refine J.iload_n (pc := 6) dX10_let_6 rfl 2 rfl ?_
    obtain ⟨q, e4, h⟩ := bnd h
    rcases q with r5 | i62
    · try dsimp only at h
      refine J.callV (Y := mX10_let) (Z := mX10_inside) (pc := 7) (st := []) (k2 := 0) (n2 := 0) dX10_let_7 ml_RX10_233 mo_X10_inside mv_X10_inside rfl (tX10_inside d e4 hN2 k0) k0 (okN hN2 k0 (by decide)).1 (okN hN2 k0 (by decide)).2 cq_10 (by decide) rfl rfl (Nat.le_of_ble_eq_true rfl) (by decide) (by decide) (fun v ν hp => ?_) (fun i ν hp => nrm hp.1)
      obtain ⟨rfl, rfl, hN6, hb7⟩ := QEl hp
      show J _ _ _ _ 10 _ ([.int r5]) _ _ _ _
      refine J.istore_n (pc := 10) ([(3, .int r5), (0, .ref v0), (1, .int v1), (2, .int v2)]) dX10_let_10 rfl (Nat.le_of_ble_eq_true rfl) rfl ?_
      refine J.aload_n (pc := 11) dX10_let_11 rfl 1 rfl ?_
      obtain ⟨a8, e9, h⟩ := bnd h
      have k10 : (kd a8).1 = 19 := gR_k e9
      refine J.fR (pc := 12) dX10_let_12 fl_RX10_45 k0 (okN hN6 k0 (by decide)) rfl e9 ?_
      obtain ⟨a11, e12, h⟩ := bnd h
      have k13 : (kd a11).1 = 0 := gR_k e12
      refine J.fR (pc := 15) dX10_let_15 fl_RX10_208 k10 (okN hN6 k10 (by decide)) rfl e12 ?_
      refine J.iload_n (pc := 18) dX10_let_18 rfl 2 rfl ?_
      obtain ⟨x14, e15, h⟩ := bnd h
      refine J.aI (pc := 19) dX10_let_19 k13 (okN hN6 k13 (by decide)) e15 ?_
      refine J.istore (pc := 20) ([(4, .int x14), (3, .int r5), (0, .ref v0), (1, .int v1), (2, .int v2)]) dX10_let_20 (Nat.le_of_ble_eq_true rfl) rfl ?_
      refine J.iload (pc := 22) dX10_let_22 0 rfl ?_
      refine J.iload_n (pc := 24) dX10_let_24 rfl 1 rfl ?_
      rcases ifc h with ⟨hc, h⟩ | ⟨hc, h⟩
      · refine J.ceq (pc := 25) (tgt := 40) dX10_let_25 (by decide) (fun _ => ?_) (fun q => absurd hc q)
        refine J.aload_n (pc := 40) dX10_let_40 rfl 2 rfl ?_
        obtain ⟨a16, e17, h⟩ := bnd h
        have k18 : (kd a16).1 = 0 := gR_k e17
        refine J.fR (pc := 41) dX10_let_41 fl_RX10_20 k0 (okN hN6 k0 (by decide)) rfl e17 ?_
        refine J.iconst (pc := 44) dX10_let_44 ic_1 ?_
        refine J.dup2 (pc := 45) dX10_let_45 rfl rfl ?_
        obtain ⟨x19, e20, h⟩ := bnd h
        refine J.aI (pc := 46) dX10_let_46 k18 (okN hN6 k18 (by decide)) e20 ?_
        refine J.iconst (pc := 47) dX10_let_47 ic_1 ?_
        refine J.iadd (pc := 48) dX10_let_48 ?_
        obtain ⟨μ21, e22, h⟩ := bnd h
        have hN23 : μ21.1 = NN := stI_N e22 hN6
        refine J.wI (pc := 49) dX10_let_49 k18 (okN hN6 k18 (by decide)) e22 ?_
        refine J.iconst (pc := 50) dX10_let_50 ic_m1 ?_
        cases h
        exact J.iret (pc := 51) dX10_let_51 rfl ⟨rfl, rfl, hN23, trivial⟩
      · refine J.ceq (pc := 25) (tgt := 40) dX10_let_25 (by decide) (fun q => absurd q hc) (fun _ => ?_)
        refine J.aload_n (pc := 28) dX10_let_28 rfl 2 rfl ?_
        obtain ⟨a24, e25, h⟩ := bnd h
        have k26 : (kd a24).1 = 19 := gR_k e25
        refine J.fR (pc := 29) dX10_let_29 fl_RX10_45 k0 (okN hN6 k0 (by decide)) rfl e25 ?_
        obtain ⟨a27, e28, h⟩ := bnd h
        have k29 : (kd a27).1 = 0 := gR_k e28
        refine J.fR (pc := 32) dX10_let_32 fl_RX10_205 k26 (okN hN6 k26 (by decide)) rfl e28 ?_
        refine J.iload_n (pc := 35) dX10_let_35 rfl 1 rfl ?_
        obtain ⟨x30, e31, h⟩ := bnd h
        refine J.aI (pc := 36) dX10_let_36 k29 (okN hN6 k29 (by decide)) e31 ?_
        rcases ifc h with ⟨hc, h⟩ | ⟨hc, h⟩
        · refine J.zeq (pc := 37) (tgt := 52) dX10_let_37 (by decide) (fun _ => ?_) (fun q => absurd hc q)
          refine J.aload_n (pc := 52) dX10_let_52 rfl 2 rfl ?_
          obtain ⟨a32, e33, h⟩ := bnd h
          have k34 : (kd a32).1 = 10 := gR_k e33
          refine J.fR (pc := 53) dX10_let_53 fl_RX10_52 k0 (okN hN6 k0 (by decide)) rfl e33 ?_
          refine J.aload_n (pc := 56) dX10_let_56 rfl 2 rfl ?_
          obtain ⟨a35, e36, h⟩ := bnd h
          have k37 : (kd a35).1 = 19 := gR_k e36
          refine J.fR (pc := 57) dX10_let_57 fl_RX10_45 k0 (okN hN6 k0 (by decide)) rfl e36 ?_
          obtain ⟨μ39, e38, h⟩ := bnd h
          refine J.callV (Y := mX10_let) (Z := mX0_keep) (pc := 60) (st := []) (k2 := 0) (n2 := 0) dX10_let_60 ml_RX10_236 mo_X0_keep mv_X0_keep rfl (tX0_keep (d + 6) e38 hN6 k34 k37) k34 (okN hN6 k34 (by decide)).1 (okN hN6 k34 (by decide)).2 cq_0 (by decide) rfl rfl (Nat.le_of_ble_eq_true rfl) (by decide) (by decide) (fun v ν hp => ?_) (fun i ν hp => nrm hp.1)
          obtain ⟨rfl, rfl, hN40, hb41⟩ := QEl hp
          show J _ _ _ _ 63 _ ([]) _ _ _ _
          refine J.aload_n (pc := 63) dX10_let_63 rfl 2 rfl ?_
          obtain ⟨a42, e43, h⟩ := bnd h
          have k44 : (kd a42).1 = 19 := gR_k e43
          refine J.fR (pc := 64) dX10_let_64 fl_RX10_45 k0 (okN hN40 k0 (by decide)) rfl e43 ?_
          obtain ⟨a45, e46, h⟩ := bnd h
          have k47 : (kd a45).1 = 0 := gR_k e46
          refine J.fR (pc := 67) dX10_let_67 fl_RX10_208 k44 (okN hN40 k44 (by decide)) rfl e46 ?_
          refine J.iload_n (pc := 70) dX10_let_70 rfl 3 rfl ?_
          refine J.iload_n (pc := 71) dX10_let_71 rfl 1 rfl ?_
          obtain ⟨μ48, e49, h⟩ := bnd h
          have hN50 : μ48.1 = NN := stI_N e49 hN40
          refine J.wI (pc := 72) dX10_let_72 k47 (okN hN40 k47 (by decide)) e49 ?_
          refine J.iload (pc := 73) dX10_let_73 0 rfl ?_
          refine J.callS (Y := mX10_let) (Z := mX10_outside) (pc := 75) (st := []) (k2 := 0) (n2 := 0) dX10_let_75 ml_RX10_214 mo_X10_outside ms_X10_outside rfl (tX10_outside (d + 8) x14 μ48 hN50 ) rfl rfl (Nat.le_of_ble_eq_true rfl) (by decide) (by decide) (fun v ν hp => ?_) (fun i ν hp => nrm hp.1)
          obtain ⟨rfl, rfl, hN52, hb53⟩ := QEl hp
          show J _ _ _ _ 78 _ ([.int (fX10_outside x14)]) _ _ _ _
          cases h
          exact J.iret (pc := 78) dX10_let_78 rfl ⟨rfl, rfl, hN52, trivial⟩
        · refine J.zeq (pc := 37) (tgt := 52) dX10_let_37 (by decide) (fun q => absurd q hc) (fun _ => ?_)
          refine J.aload_n (pc := 40) dX10_let_40 rfl 2 rfl ?_
          obtain ⟨a54, e55, h⟩ := bnd h
          have k56 : (kd a54).1 = 0 := gR_k e55
          refine J.fR (pc := 41) dX10_let_41 fl_RX10_20 k0 (okN hN6 k0 (by decide)) rfl e55 ?_
          refine J.iconst (pc := 44) dX10_let_44 ic_1 ?_
          refine J.dup2 (pc := 45) dX10_let_45 rfl rfl ?_
          obtain ⟨x57, e58, h⟩ := bnd h
          refine J.aI (pc := 46) dX10_let_46 k56 (okN hN6 k56 (by decide)) e58 ?_
          refine J.iconst (pc := 47) dX10_let_47 ic_1 ?_
          refine J.iadd (pc := 48) dX10_let_48 ?_
          obtain ⟨μ59, e60, h⟩ := bnd h
          have hN61 : μ59.1 = NN := stI_N e60 hN6
          refine J.wI (pc := 49) dX10_let_49 k56 (okN hN6 k56 (by decide)) e60 ?_
          refine J.iconst (pc := 50) dX10_let_50 ic_m1 ?_
          cases h
          exact J.iret (pc := 51) dX10_let_51 rfl ⟨rfl, rfl, hN61, trivial⟩
    · try dsimp only at h
      refine J.callV (Y := mX10_let) (Z := mX10_inside) (pc := 7) (st := []) (k2 := 0) (n2 := 0) dX10_let_7 ml_RX10_233 mo_X10_inside mv_X10_inside rfl (tX10_inside d e4 hN2 k0) k0 (okN hN2 k0 (by decide)).1 (okN hN2 k0 (by decide)).2 cq_10 (by decide) rfl rfl (Nat.le_of_ble_eq_true rfl) (by decide) (by decide) (fun v ν hp => nlm hp.1) (fun i ν hp => ?_)
      obtain ⟨rfl, rfl, hN9, -⟩ := QEr hp
      cases h
      exact JX.out rfl ⟨rfl, rfl, hN9, trivial⟩
  · try dsimp only at h
    refine J.callV (Y := mX10_let) (Z := mX10_needPerson) (pc := 2) (st := []) (k2 := 1) (n2 := 6) dX10_let_2 ml_RX10_211 mo_X10_needPerson mv_X10_needPerson rfl (tX10_needPerson d e1 hN k0) k0 (okN hN k0 (by decide)).1 (okN hN k0 (by decide)).2 cq_10 (by decide) rfl rfl (Nat.le_of_ble_eq_true rfl) (by decide) (by decide) (fun v ν hp => nlm hp.1) (fun i ν hp => ?_)
    obtain ⟨rfl, rfl, hN9, -⟩ := QEr hp
    cases h
    exact JX.out rfl ⟨rfl, rfl, hN9, trivial⟩
def fL_let (v0 : Nat) (v1 : Int32) (v2 : Int32) (v3 : Nat) (μ : Mem) : Option (Int32 × Mem) :=
  (fX10_let v0 v1 v2 μ).bind fun
  | (.inl r3, μ2) =>
    (stL μ2 v3 (0 : Int32) (r3.toInt64)).bind fun μ6 =>
    some ((0 : Int32), μ6)
  | (.inr i9, μ2) =>
    if i9 = 0 then some ((1 : Int32), μ2) else
    none
set_option maxHeartbeats 4000000 in
theorem tL_let {ω : Wd} {l : Launch} (d : Nat) {v0 : Nat} {v1 : Int32} {v2 : Int32} {v3 : Nat} {μ : Mem} {res : Int32 × Mem} (h : fL_let v0 v1 v2 v3 μ = some res) (hN : μ.1 = NN) (k0 : (kd v0).1 = 20) (k3 : (kd v3).1 = 1) : Ct ω l mL_let (d + 10) [.ref v0, .int v1, .int v2, .ref v3] μ 2 12 (PE (.inl (some (.int res.1))) res.2 True) := by
  refine Ct.of pn_RL (Nat.le_of_ble_eq_true rfl) ?_
  show J ω l mL_let (d + 10) 0 [(0, .ref v0), (1, .int v1), (2, .int v2), (3, .ref v3)] [] μ 2 12 _
  unfold fL_let at h
  refine J.aload_n (pc := 0) dL_let_0 rfl 3 rfl ?_
  refine J.iconst (pc := 1) dL_let_1 ic_0 ?_
  refine J.aload_n (pc := 2) dL_let_2 rfl 0 rfl ?_
  refine J.iload_n (pc := 3) dL_let_3 rfl 1 rfl ?_
  refine J.iload_n (pc := 4) dL_let_4 rfl 2 rfl ?_
  obtain ⟨⟨q, μ2⟩, e1, h⟩ := bnd h
  rcases q with r3 | i9
  · try dsimp only at h
    refine J.callV (Y := mL_let) (Z := mX10_let) (pc := 5) (st := [.int (0 : Int32), .ref v3]) (k2 := 0) (n2 := 0) dL_let_5 ml_RL_40 mo_X10_let mv_X10_let rfl (tX10_let d e1 hN k0) k0 (okN hN k0 (by decide)).1 (okN hN k0 (by decide)).2 cq_10 (by decide) rfl rfl (Nat.le_of_ble_eq_true rfl) (by decide) (by decide) (fun v ν hp => ?_) (fun i ν hp => nrm hp.1)
    obtain ⟨rfl, rfl, hN4, hb5⟩ := QEl hp
    show J _ _ _ _ 8 _ ([.int r3, .int (0 : Int32), .ref v3]) _ _ _ _
    refine J.i2l (pc := 8) dL_let_8 ?_
    obtain ⟨μ6, e7, h⟩ := bnd h
    have hN8 : μ6.1 = NN := stL_N e7 hN4
    refine J.wL (pc := 9) dL_let_9 k3 (okN hN4 k3 (by decide)) e7 ?_
    refine J.goto (pc := 10) (tgt := 17) dL_let_10 (by decide) ?_
    refine J.iconst (pc := 17) dL_let_17 ic_0 ?_
    cases h
    exact J.iret (pc := 18) dL_let_18 rfl ⟨rfl, rfl, hN8, trivial⟩
  · try dsimp only at h
    refine J.callV (Y := mL_let) (Z := mX10_let) (pc := 5) (st := [.int (0 : Int32), .ref v3]) (k2 := 0) (n2 := 0) dL_let_5 ml_RL_40 mo_X10_let mv_X10_let rfl (tX10_let d e1 hN k0) k0 (okN hN k0 (by decide)).1 (okN hN k0 (by decide)).2 cq_10 (by decide) rfl rfl (Nat.le_of_ble_eq_true rfl) (by decide) (by decide) (fun v ν hp => nlm hp.1) (fun i ν hp => ?_)
    obtain ⟨rfl, rfl, hN9, -⟩ := QEr hp
    rcases ifc h with ⟨hc, h⟩ | ⟨hc, h⟩
    · subst hc
      cases h
      exact JX.catch1 (i := 0) (by decide) rfl rfl (Nat.le_of_ble_eq_true rfl) (Nat.le_of_ble_eq_true rfl) (Or.inl ⟨4, Nat.le_of_ble_eq_true rfl, rfl, dL_let_13⟩) dL_let_15 ic_1 dL_let_16 rfl ⟨rfl, rfl, hN9, trivial⟩
    cases h
def fX10_beginWith (v0 : Nat) (v1 : Int32) (v2 : Int32) (μ : Mem) : Option (Mem) :=
  (gR μ v0 14 12).bind fun a1 =>
  (gR μ v0 4 11).bind fun a4 =>
  (gR μ v0 7 19).bind fun a7 =>
  (fX2_begin a1 a4 a7 μ).bind fun μ11 =>
  if v1 < 0 then
    some μ11
  else
    if v1 < (6 : Int32) then
      (gR μ11 v0 14 12).bind fun a14 =>
      (gR μ11 a14 2 0).bind fun a17 =>
      (stI μ11 a17 v1 v2).bind fun μ20 =>
      some μ20
    else
      some μ11
set_option maxHeartbeats 4000000 in
theorem tX10_beginWith {ω : Wd} {l : Launch} (d : Nat) {v0 : Nat} {v1 : Int32} {v2 : Int32} {μ : Mem} {res : Mem} (h : fX10_beginWith v0 v1 v2 μ = some res) (hN : μ.1 = NN) (k0 : (kd v0).1 = 20) : Ct ω l mX10_beginWith (d + 3) [.ref v0, .int v1, .int v2] μ 0 0 (PE (.inl none) res True) := by
  refine Ct.of pn_RX10 (Nat.le_of_ble_eq_true rfl) ?_
  show J ω l mX10_beginWith (d + 3) 0 [(0, .ref v0), (1, .int v1), (2, .int v2)] [] μ 0 0 _
  unfold fX10_beginWith at h
  refine J.aload_n (pc := 0) dX10_beginWith_0 rfl 0 rfl ?_
  obtain ⟨a1, e2, h⟩ := bnd h
  have k3 : (kd a1).1 = 12 := gR_k e2
  refine J.fR (pc := 1) dX10_beginWith_1 fl_RX10_79 k0 (okN hN k0 (by decide)) rfl e2 ?_
  refine J.aload_n (pc := 4) dX10_beginWith_4 rfl 0 rfl ?_
  obtain ⟨a4, e5, h⟩ := bnd h
  have k6 : (kd a4).1 = 11 := gR_k e5
  refine J.fR (pc := 5) dX10_beginWith_5 fl_RX10_26 k0 (okN hN k0 (by decide)) rfl e5 ?_
  refine J.aload_n (pc := 8) dX10_beginWith_8 rfl 0 rfl ?_
  obtain ⟨a7, e8, h⟩ := bnd h
  have k9 : (kd a7).1 = 19 := gR_k e8
  refine J.fR (pc := 9) dX10_beginWith_9 fl_RX10_45 k0 (okN hN k0 (by decide)) rfl e8 ?_
  obtain ⟨μ11, e10, h⟩ := bnd h
  refine J.callV (Y := mX10_beginWith) (Z := mX2_begin) (pc := 12) (st := []) (k2 := 0) (n2 := 0) dX10_beginWith_12 ml_RX10_264 mo_X2_begin mv_X2_begin rfl (tX2_begin d e10 hN k3 k6 k9) k3 (okN hN k3 (by decide)).1 (okN hN k3 (by decide)).2 cq_2 (by decide) rfl rfl (Nat.le_of_ble_eq_true rfl) (by decide) (by decide) (fun v ν hp => ?_) (fun i ν hp => nrm hp.1)
  obtain ⟨rfl, rfl, hN12, hb13⟩ := QEl hp
  show J _ _ _ _ 15 _ ([]) _ _ _ _
  refine J.iload_n (pc := 15) dX10_beginWith_15 rfl 1 rfl ?_
  rcases ifc h with ⟨hc, h⟩ | ⟨hc, h⟩
  · refine J.zlt (pc := 16) (tgt := 35) dX10_beginWith_16 (by decide) (fun _ => ?_) (fun q => absurd hc q)
    cases h
    exact J.vret (pc := 35) dX10_beginWith_35 rfl ⟨rfl, rfl, hN12, trivial⟩
  · refine J.zlt (pc := 16) (tgt := 35) dX10_beginWith_16 (by decide) (fun q => absurd q hc) (fun _ => ?_)
    refine J.iload_n (pc := 19) dX10_beginWith_19 rfl 1 rfl ?_
    refine J.bipush (pc := 20) dX10_beginWith_20 ib_6 ?_
    rcases ifc h with ⟨hc, h⟩ | ⟨hc, h⟩
    · refine J.cge (pc := 22) (tgt := 35) dX10_beginWith_22 (by decide) (fun _ => ?_) (fun q => absurd hc q)
      refine J.aload_n (pc := 25) dX10_beginWith_25 rfl 0 rfl ?_
      obtain ⟨a14, e15, h⟩ := bnd h
      have k16 : (kd a14).1 = 12 := gR_k e15
      refine J.fR (pc := 26) dX10_beginWith_26 fl_RX10_79 k0 (okN hN12 k0 (by decide)) rfl e15 ?_
      obtain ⟨a17, e18, h⟩ := bnd h
      have k19 : (kd a17).1 = 0 := gR_k e18
      refine J.fR (pc := 29) dX10_beginWith_29 fl_RX10_351 k16 (okN hN12 k16 (by decide)) rfl e18 ?_
      refine J.iload_n (pc := 32) dX10_beginWith_32 rfl 1 rfl ?_
      refine J.iload_n (pc := 33) dX10_beginWith_33 rfl 2 rfl ?_
      obtain ⟨μ20, e21, h⟩ := bnd h
      have hN22 : μ20.1 = NN := stI_N e21 hN12
      refine J.wI (pc := 34) dX10_beginWith_34 k19 (okN hN12 k19 (by decide)) e21 ?_
      cases h
      exact J.vret (pc := 35) dX10_beginWith_35 rfl ⟨rfl, rfl, hN22, trivial⟩
    · refine J.cge (pc := 22) (tgt := 35) dX10_beginWith_22 (by decide) (fun q => absurd q hc) (fun _ => ?_)
      cases h
      exact J.vret (pc := 35) dX10_beginWith_35 rfl ⟨rfl, rfl, hN12, trivial⟩
def fX10_addPlacesWith_29  : Nat → Nat → Int32 → Mem → Option (Mem)
  | 0, _, _, _ => none
  | n + 1, v0, v3, μ =>
    (gR μ v0 4 11).bind fun a1 =>
    if v3 < (μ.2.1 a1 1) then
      (gR μ v0 18 1).bind fun a4 =>
      (ldL μ a4 v3).bind fun x7 =>
      (gR μ v0 14 12).bind fun a9 =>
      (gR μ a9 0 19).bind fun a12 =>
      (gR μ a12 4 0).bind fun a15 =>
      (ldI μ a15 v3).bind fun x18 =>
      (stL μ a4 v3 (x7 ||| (fX10_bit x18))).bind fun μ23 =>
      (fX10_addPlacesWith_29 n) v0 (v3 + (1 : Int32)) μ23
    else
      some μ
set_option maxHeartbeats 4000000 in
theorem tX10_addPlacesWith_29 {ω : Wd} {l : Launch} (d : Nat) {res : Mem} : ∀ n : Nat, ∀ (v0 : Nat) (v3 : Int32) (μ : Mem), fX10_addPlacesWith_29 n v0 v3 μ = some res → μ.1 = NN → (kd v0).1 = 20 → J ω l mX10_addPlacesWith (d + 5) 29 [(0, .ref v0), (3, .int v3)] [] μ 0 0 (PE (.inl none) res True) := by
  intro n
  induction n with
  | zero =>
    intro v0 v3 μ h hN k0
    have h9 : (none : Option (Mem)) = some res := h
    cases h9
  | succ n ih =>
    intro v0 v3 μ h hN k0
    unfold fX10_addPlacesWith_29 at h
    refine J.iload_n (pc := 29) dX10_addPlacesWith_29 rfl 1 rfl ?_
    refine J.aload_n (pc := 30) dX10_addPlacesWith_30 rfl 0 rfl ?_
    obtain ⟨a1, e2, h⟩ := bnd h
    have k3 : (kd a1).1 = 11 := gR_k e2
    refine J.fR (pc := 31) dX10_addPlacesWith_31 fl_RX10_26 k0 (okN hN k0 (by decide)) rfl e2 ?_
    refine J.fI (pc := 34) dX10_addPlacesWith_34 fl_RX10_147 k3 (okN hN k3 (by decide)) (Or.inl rfl) ?_
    rcases ifc h with ⟨hc, h⟩ | ⟨hc, h⟩
    · refine J.cge (pc := 37) (tgt := 70) dX10_addPlacesWith_37 (by decide) (fun _ => ?_) (fun q => absurd hc q)
      refine J.aload_n (pc := 40) dX10_addPlacesWith_40 rfl 0 rfl ?_
      obtain ⟨a4, e5, h⟩ := bnd h
      have k6 : (kd a4).1 = 1 := gR_k e5
      refine J.fR (pc := 41) dX10_addPlacesWith_41 fl_RX10_104 k0 (okN hN k0 (by decide)) rfl e5 ?_
      refine J.iload_n (pc := 44) dX10_addPlacesWith_44 rfl 1 rfl ?_
      refine J.dup2 (pc := 45) dX10_addPlacesWith_45 rfl rfl ?_
      obtain ⟨x7, e8, h⟩ := bnd h
      refine J.aL (pc := 46) dX10_addPlacesWith_46 k6 (okN hN k6 (by decide)) e8 ?_
      refine J.aload_n (pc := 47) dX10_addPlacesWith_47 rfl 0 rfl ?_
      obtain ⟨a9, e10, h⟩ := bnd h
      have k11 : (kd a9).1 = 12 := gR_k e10
      refine J.fR (pc := 48) dX10_addPlacesWith_48 fl_RX10_79 k0 (okN hN k0 (by decide)) rfl e10 ?_
      obtain ⟨a12, e13, h⟩ := bnd h
      have k14 : (kd a12).1 = 19 := gR_k e13
      refine J.fR (pc := 51) dX10_addPlacesWith_51 fl_RX10_242 k11 (okN hN k11 (by decide)) rfl e13 ?_
      obtain ⟨a15, e16, h⟩ := bnd h
      have k17 : (kd a15).1 = 0 := gR_k e16
      refine J.fR (pc := 54) dX10_addPlacesWith_54 fl_RX10_208 k14 (okN hN k14 (by decide)) rfl e16 ?_
      refine J.iload_n (pc := 57) dX10_addPlacesWith_57 rfl 1 rfl ?_
      obtain ⟨x18, e19, h⟩ := bnd h
      refine J.aI (pc := 58) dX10_addPlacesWith_58 k17 (okN hN k17 (by decide)) e19 ?_
      refine J.callS (Y := mX10_addPlacesWith) (Z := mX10_bit) (pc := 59) (st := [.long x7, .int v3, .ref a4]) (k2 := 0) (n2 := 0) dX10_addPlacesWith_59 ml_RX10_248 mo_X10_bit ms_X10_bit rfl (tX10_bit (d + 4) x18 μ hN ) rfl rfl (Nat.le_of_ble_eq_true rfl) (by decide) (by decide) (fun v ν hp => ?_) (fun i ν hp => nrm hp.1)
      obtain ⟨rfl, rfl, hN21, hb22⟩ := QEl hp
      show J _ _ _ _ 62 _ ([.long (fX10_bit x18), .long x7, .int v3, .ref a4]) _ _ _ _
      refine J.lor (pc := 62) dX10_addPlacesWith_62 ?_
      obtain ⟨μ23, e24, h⟩ := bnd h
      have hN25 : μ23.1 = NN := stL_N e24 hN21
      refine J.wL (pc := 63) dX10_addPlacesWith_63 k6 (okN hN21 k6 (by decide)) e24 ?_
      refine J.iinc (pc := 64) (j := 1) ([(3, .int (v3 + (1 : Int32))), (0, .ref v0)]) dX10_addPlacesWith_64 rfl (iincv ic_1) (Nat.le_of_ble_eq_true rfl) rfl ?_
      refine J.goto (pc := 67) (tgt := 29) dX10_addPlacesWith_67 (by decide) ?_
      refine J.pick [1, 0] rfl ?_
      exact ih v0 (v3 + (1 : Int32)) μ23 h hN25 k0
    · refine J.cge (pc := 37) (tgt := 70) dX10_addPlacesWith_37 (by decide) (fun q => absurd q hc) (fun _ => ?_)
      cases h
      exact J.vret (pc := 70) dX10_addPlacesWith_70 rfl ⟨rfl, rfl, hN, trivial⟩
def fX10_addPlacesWith_8  : Nat → Nat → Int32 → Mem → Option (Mem)
  | 0, _, _, _ => none
  | n + 1, v0, v3, μ =>
    if v3 < (4 : Int32) then
      (gR μ v0 14 12).bind fun a1 =>
      (fX2_pass a1 (1 : Int32) μ).bind fun μ5 =>
      (fX10_addPlacesWith_8 n) v0 (v3 + (1 : Int32)) μ5
    else
      (fX10_addPlacesWith_29 fuel) v0 (0 : Int32) μ
set_option maxHeartbeats 4000000 in
theorem tX10_addPlacesWith_8 {ω : Wd} {l : Launch} (d : Nat) {res : Mem} : ∀ n : Nat, ∀ (v0 : Nat) (v3 : Int32) (μ : Mem), fX10_addPlacesWith_8 n v0 v3 μ = some res → μ.1 = NN → (kd v0).1 = 20 → J ω l mX10_addPlacesWith (d + 5) 8 [(0, .ref v0), (3, .int v3)] [] μ 0 0 (PE (.inl none) res True) := by
  intro n
  induction n with
  | zero =>
    intro v0 v3 μ h hN k0
    have h9 : (none : Option (Mem)) = some res := h
    cases h9
  | succ n ih =>
    intro v0 v3 μ h hN k0
    unfold fX10_addPlacesWith_8 at h
    refine J.iload_n (pc := 8) dX10_addPlacesWith_8 rfl 1 rfl ?_
    refine J.iconst (pc := 9) dX10_addPlacesWith_9 ic_4 ?_
    rcases ifc h with ⟨hc, h⟩ | ⟨hc, h⟩
    · refine J.cge (pc := 10) (tgt := 27) dX10_addPlacesWith_10 (by decide) (fun _ => ?_) (fun q => absurd hc q)
      refine J.aload_n (pc := 13) dX10_addPlacesWith_13 rfl 0 rfl ?_
      obtain ⟨a1, e2, h⟩ := bnd h
      have k3 : (kd a1).1 = 12 := gR_k e2
      refine J.fR (pc := 14) dX10_addPlacesWith_14 fl_RX10_79 k0 (okN hN k0 (by decide)) rfl e2 ?_
      refine J.iconst (pc := 17) dX10_addPlacesWith_17 ic_1 ?_
      obtain ⟨μ5, e4, h⟩ := bnd h
      refine J.callV (Y := mX10_addPlacesWith) (Z := mX2_pass) (pc := 18) (st := []) (k2 := 0) (n2 := 0) dX10_addPlacesWith_18 ml_RX10_268 mo_X2_pass mv_X2_pass rfl (tX2_pass d e4 hN k3) k3 (okN hN k3 (by decide)).1 (okN hN k3 (by decide)).2 cq_2 (by decide) rfl rfl (Nat.le_of_ble_eq_true rfl) (by decide) (by decide) (fun v ν hp => ?_) (fun i ν hp => nrm hp.1)
      obtain ⟨rfl, rfl, hN6, hb7⟩ := QEl hp
      show J _ _ _ _ 21 _ ([]) _ _ _ _
      refine J.iinc (pc := 21) (j := 1) ([(3, .int (v3 + (1 : Int32))), (0, .ref v0)]) dX10_addPlacesWith_21 rfl (iincv ic_1) (Nat.le_of_ble_eq_true rfl) rfl ?_
      refine J.goto (pc := 24) (tgt := 8) dX10_addPlacesWith_24 (by decide) ?_
      refine J.pick [1, 0] rfl ?_
      exact ih v0 (v3 + (1 : Int32)) μ5 h hN6 k0
    · refine J.cge (pc := 10) (tgt := 27) dX10_addPlacesWith_10 (by decide) (fun q => absurd q hc) (fun _ => ?_)
      refine J.iconst (pc := 27) dX10_addPlacesWith_27 ic_0 ?_
      refine J.istore_n (pc := 28) ([(3, .int (0 : Int32)), (0, .ref v0)]) dX10_addPlacesWith_28 rfl (Nat.le_of_ble_eq_true rfl) rfl ?_
      refine J.pick [1, 0] rfl ?_
      exact (tX10_addPlacesWith_29 d fuel) v0 (0 : Int32) μ h hN k0
def fX10_addPlacesWith (v0 : Nat) (v1 : Int32) (v2 : Int32) (μ : Mem) : Option (Mem) :=
  (fX10_beginWith v0 v1 v2 μ).bind fun μ2 =>
  (fX10_addPlacesWith_8 fuel) v0 (0 : Int32) μ2
set_option maxHeartbeats 4000000 in
theorem tX10_addPlacesWith {ω : Wd} {l : Launch} (d : Nat) {v0 : Nat} {v1 : Int32} {v2 : Int32} {μ : Mem} {res : Mem} (h : fX10_addPlacesWith v0 v1 v2 μ = some res) (hN : μ.1 = NN) (k0 : (kd v0).1 = 20) : Ct ω l mX10_addPlacesWith (d + 5) [.ref v0, .int v1, .int v2] μ 0 0 (PE (.inl none) res True) := by
  refine Ct.of pn_RX10 (Nat.le_of_ble_eq_true rfl) ?_
  show J ω l mX10_addPlacesWith (d + 5) 0 [(0, .ref v0), (1, .int v1), (2, .int v2)] [] μ 0 0 _
  unfold fX10_addPlacesWith at h
  refine J.aload_n (pc := 0) dX10_addPlacesWith_0 rfl 0 rfl ?_
  refine J.iload_n (pc := 1) dX10_addPlacesWith_1 rfl 1 rfl ?_
  refine J.iload_n (pc := 2) dX10_addPlacesWith_2 rfl 2 rfl ?_
  obtain ⟨μ2, e1, h⟩ := bnd h
  refine J.callV (Y := mX10_addPlacesWith) (Z := mX10_beginWith) (pc := 3) (st := []) (k2 := 0) (n2 := 0) dX10_addPlacesWith_3 ml_RX10_341 mo_X10_beginWith mv_X10_beginWith rfl (tX10_beginWith (d + 1) e1 hN k0) k0 (okN hN k0 (by decide)).1 (okN hN k0 (by decide)).2 cq_10 (by decide) rfl rfl (Nat.le_of_ble_eq_true rfl) (by decide) (by decide) (fun v ν hp => ?_) (fun i ν hp => nrm hp.1)
  obtain ⟨rfl, rfl, hN3, hb4⟩ := QEl hp
  show J _ _ _ _ 6 _ ([]) _ _ _ _
  refine J.iconst (pc := 6) dX10_addPlacesWith_6 ic_0 ?_
  refine J.istore_n (pc := 7) ([(3, .int (0 : Int32)), (0, .ref v0), (1, .int v1), (2, .int v2)]) dX10_addPlacesWith_7 rfl (Nat.le_of_ble_eq_true rfl) rfl ?_
  refine J.pick [1, 0] rfl ?_
  exact (tX10_addPlacesWith_8 d fuel) v0 (0 : Int32) μ2 h hN3 k0
def fX8_agreesOn_2 (μ : Mem) : Nat → Nat → Int32 → Nat → Int32 → Option (Int32)
  | 0, _, _, _, _ => none
  | n + 1, v0, v1, v2, v3 =>
    if v3 < (μ.2.1 v0 0) then
      (gR μ v0 3 0).bind fun a1 =>
      (ldI μ a1 v3).bind fun x4 =>
      if x4 = v1 then
        (gR μ v2 4 0).bind fun a6 =>
        (gR μ v0 1 0).bind fun a9 =>
        (ldI μ a9 v3).bind fun x12 =>
        (ldI μ a6 x12).bind fun x14 =>
        (gR μ v0 2 0).bind fun a16 =>
        (ldI μ a16 v3).bind fun x19 =>
        if (x14 / (8 : Int32)) = x19 then
          (fX8_agreesOn_2 μ n) v0 v1 v2 (v3 + (1 : Int32))
        else
          some (0 : Int32)
      else
        (fX8_agreesOn_2 μ n) v0 v1 v2 (v3 + (1 : Int32))
    else
      some (1 : Int32)
set_option maxHeartbeats 4000000 in
theorem tX8_agreesOn_2 {ω : Wd} {l : Launch} (d : Nat) {μ : Mem} (hN : μ.1 = NN) {res : Int32} : ∀ n : Nat, ∀ (v0 : Nat) (v1 : Int32) (v2 : Nat) (v3 : Int32), fX8_agreesOn_2 μ n v0 v1 v2 v3 = some res → (kd v0).1 = 18 → (kd v2).1 = 19 → J ω l mX8_agreesOn d 2 [(0, .ref v0), (1, .int v1), (2, .ref v2), (3, .int v3)] [] μ 0 0 (PE (.inl (some (.int res))) μ (isB res)) := by
  intro n
  induction n with
  | zero =>
    intro v0 v1 v2 v3 h k0 k2
    have h9 : (none : Option (Int32)) = some res := h
    cases h9
  | succ n ih =>
    intro v0 v1 v2 v3 h k0 k2
    unfold fX8_agreesOn_2 at h
    refine J.iload_n (pc := 2) dX8_agreesOn_2 rfl 3 rfl ?_
    refine J.aload_n (pc := 3) dX8_agreesOn_3 rfl 0 rfl ?_
    refine J.fI (pc := 4) dX8_agreesOn_4 fl_RX8_9 k0 (okN hN k0 (by decide)) (Or.inl rfl) ?_
    rcases ifc h with ⟨hc, h⟩ | ⟨hc, h⟩
    · refine J.cge (pc := 7) (tgt := 51) dX8_agreesOn_7 (by decide) (fun _ => ?_) (fun q => absurd hc q)
      refine J.aload_n (pc := 10) dX8_agreesOn_10 rfl 0 rfl ?_
      obtain ⟨a1, e2, h⟩ := bnd h
      have k3 : (kd a1).1 = 0 := gR_k e2
      refine J.fR (pc := 11) dX8_agreesOn_11 fl_RX8_22 k0 (okN hN k0 (by decide)) rfl e2 ?_
      refine J.iload_n (pc := 14) dX8_agreesOn_14 rfl 3 rfl ?_
      obtain ⟨x4, e5, h⟩ := bnd h
      refine J.aI (pc := 15) dX8_agreesOn_15 k3 (okN hN k3 (by decide)) e5 ?_
      refine J.iload_n (pc := 16) dX8_agreesOn_16 rfl 1 rfl ?_
      rcases ifc h with ⟨hc, h⟩ | ⟨hc, h⟩
      · refine J.cne (pc := 17) (tgt := 45) dX8_agreesOn_17 (by decide) (fun _ => ?_) (fun q => absurd hc q)
        refine J.aload_n (pc := 20) dX8_agreesOn_20 rfl 2 rfl ?_
        obtain ⟨a6, e7, h⟩ := bnd h
        have k8 : (kd a6).1 = 0 := gR_k e7
        refine J.fR (pc := 21) dX8_agreesOn_21 fl_RX8_37 k2 (okN hN k2 (by decide)) rfl e7 ?_
        refine J.aload_n (pc := 24) dX8_agreesOn_24 rfl 0 rfl ?_
        obtain ⟨a9, e10, h⟩ := bnd h
        have k11 : (kd a9).1 = 0 := gR_k e10
        refine J.fR (pc := 25) dX8_agreesOn_25 fl_RX8_15 k0 (okN hN k0 (by decide)) rfl e10 ?_
        refine J.iload_n (pc := 28) dX8_agreesOn_28 rfl 3 rfl ?_
        obtain ⟨x12, e13, h⟩ := bnd h
        refine J.aI (pc := 29) dX8_agreesOn_29 k11 (okN hN k11 (by decide)) e13 ?_
        obtain ⟨x14, e15, h⟩ := bnd h
        refine J.aI (pc := 30) dX8_agreesOn_30 k8 (okN hN k8 (by decide)) e15 ?_
        refine J.bipush (pc := 31) dX8_agreesOn_31 ib_8 ?_
        refine J.idiv (pc := 33) dX8_agreesOn_33 (by decide) ?_
        refine J.aload_n (pc := 34) dX8_agreesOn_34 rfl 0 rfl ?_
        obtain ⟨a16, e17, h⟩ := bnd h
        have k18 : (kd a16).1 = 0 := gR_k e17
        refine J.fR (pc := 35) dX8_agreesOn_35 fl_RX8_19 k0 (okN hN k0 (by decide)) rfl e17 ?_
        refine J.iload_n (pc := 38) dX8_agreesOn_38 rfl 3 rfl ?_
        obtain ⟨x19, e20, h⟩ := bnd h
        refine J.aI (pc := 39) dX8_agreesOn_39 k18 (okN hN k18 (by decide)) e20 ?_
        rcases ifc h with ⟨hc, h⟩ | ⟨hc, h⟩
        · refine J.ceq (pc := 40) (tgt := 45) dX8_agreesOn_40 (by decide) (fun _ => ?_) (fun q => absurd hc q)
          refine J.iinc (pc := 45) (j := 3) ([(3, .int (v3 + (1 : Int32))), (0, .ref v0), (1, .int v1), (2, .ref v2)]) dX8_agreesOn_45 rfl (iincv ic_1) (Nat.le_of_ble_eq_true rfl) rfl ?_
          refine J.goto (pc := 48) (tgt := 2) dX8_agreesOn_48 (by decide) ?_
          refine J.pick [1, 2, 3, 0] rfl ?_
          exact ih v0 v1 v2 (v3 + (1 : Int32)) h k0 k2
        · refine J.ceq (pc := 40) (tgt := 45) dX8_agreesOn_40 (by decide) (fun q => absurd q hc) (fun _ => ?_)
          refine J.iconst (pc := 43) dX8_agreesOn_43 ic_0 ?_
          cases h
          exact J.zret (pc := 44) dX8_agreesOn_44 rfl (narB (Or.inl rfl)) ⟨rfl, rfl, hN, (Or.inl rfl)⟩
      · refine J.cne (pc := 17) (tgt := 45) dX8_agreesOn_17 (by decide) (fun q => absurd q hc) (fun _ => ?_)
        refine J.iinc (pc := 45) (j := 3) ([(3, .int (v3 + (1 : Int32))), (0, .ref v0), (1, .int v1), (2, .ref v2)]) dX8_agreesOn_45 rfl (iincv ic_1) (Nat.le_of_ble_eq_true rfl) rfl ?_
        refine J.goto (pc := 48) (tgt := 2) dX8_agreesOn_48 (by decide) ?_
        refine J.pick [1, 2, 3, 0] rfl ?_
        exact ih v0 v1 v2 (v3 + (1 : Int32)) h k0 k2
    · refine J.cge (pc := 7) (tgt := 51) dX8_agreesOn_7 (by decide) (fun q => absurd q hc) (fun _ => ?_)
      refine J.iconst (pc := 51) dX8_agreesOn_51 ic_1 ?_
      cases h
      exact J.zret (pc := 52) dX8_agreesOn_52 rfl (narB (Or.inr rfl)) ⟨rfl, rfl, hN, (Or.inr rfl)⟩
def fX8_agreesOn (v0 : Nat) (v1 : Int32) (v2 : Nat) (μ : Mem) : Option (Int32) :=
  (fX8_agreesOn_2 μ fuel) v0 v1 v2 (0 : Int32)
set_option maxHeartbeats 4000000 in
theorem tX8_agreesOn {ω : Wd} {l : Launch} (d : Nat) {v0 : Nat} {v1 : Int32} {v2 : Nat} {μ : Mem} {res : Int32} (h : fX8_agreesOn v0 v1 v2 μ = some res) (hN : μ.1 = NN) (k0 : (kd v0).1 = 18) (k2 : (kd v2).1 = 19) : Ct ω l mX8_agreesOn d [.ref v0, .int v1, .ref v2] μ 0 0 (PE (.inl (some (.int res))) μ (isB res)) := by
  refine Ct.of pn_RX8 (Nat.le_of_ble_eq_true rfl) ?_
  show J ω l mX8_agreesOn d 0 [(0, .ref v0), (1, .int v1), (2, .ref v2)] [] μ 0 0 _
  unfold fX8_agreesOn at h
  refine J.iconst (pc := 0) dX8_agreesOn_0 ic_0 ?_
  refine J.istore_n (pc := 1) ([(3, .int (0 : Int32)), (0, .ref v0), (1, .int v1), (2, .ref v2)]) dX8_agreesOn_1 rfl (Nat.le_of_ble_eq_true rfl) rfl ?_
  refine J.pick [1, 2, 3, 0] rfl ?_
  exact (tX8_agreesOn_2 d hN fuel) v0 v1 v2 (0 : Int32) h k0 k2
def fX8_lastDay_4 (μ : Mem) : Nat → Nat → Int32 → Int32 → Option (Int32)
  | 0, _, _, _ => none
  | n + 1, v0, v1, v2 =>
    if v2 < (μ.2.1 v0 0) then
      (gR μ v0 3 0).bind fun a1 =>
      (ldI μ a1 v2).bind fun x4 =>
      (fX8_lastDay_4 μ n) v0 (mxI v1 x4) (v2 + (1 : Int32))
    else
      some v1
set_option maxHeartbeats 4000000 in
theorem tX8_lastDay_4 {ω : Wd} {l : Launch} (d : Nat) {μ : Mem} (hN : μ.1 = NN) {res : Int32} : ∀ n : Nat, ∀ (v0 : Nat) (v1 : Int32) (v2 : Int32), fX8_lastDay_4 μ n v0 v1 v2 = some res → (kd v0).1 = 18 → J ω l mX8_lastDay (d + 1) 4 [(0, .ref v0), (1, .int v1), (2, .int v2)] [] μ 0 0 (PE (.inl (some (.int res))) μ True) := by
  intro n
  induction n with
  | zero =>
    intro v0 v1 v2 h k0
    have h9 : (none : Option (Int32)) = some res := h
    cases h9
  | succ n ih =>
    intro v0 v1 v2 h k0
    unfold fX8_lastDay_4 at h
    refine J.iload_n (pc := 4) dX8_lastDay_4 rfl 2 rfl ?_
    refine J.aload_n (pc := 5) dX8_lastDay_5 rfl 0 rfl ?_
    refine J.fI (pc := 6) dX8_lastDay_6 fl_RX8_9 k0 (okN hN k0 (by decide)) (Or.inl rfl) ?_
    rcases ifc h with ⟨hc, h⟩ | ⟨hc, h⟩
    · refine J.cge (pc := 9) (tgt := 29) dX8_lastDay_9 (by decide) (fun _ => ?_) (fun q => absurd hc q)
      refine J.iload_n (pc := 12) dX8_lastDay_12 rfl 1 rfl ?_
      refine J.aload_n (pc := 13) dX8_lastDay_13 rfl 0 rfl ?_
      obtain ⟨a1, e2, h⟩ := bnd h
      have k3 : (kd a1).1 = 0 := gR_k e2
      refine J.fR (pc := 14) dX8_lastDay_14 fl_RX8_22 k0 (okN hN k0 (by decide)) rfl e2 ?_
      refine J.iload_n (pc := 17) dX8_lastDay_17 rfl 2 rfl ?_
      obtain ⟨x4, e5, h⟩ := bnd h
      refine J.aI (pc := 18) dX8_lastDay_18 k3 (okN hN k3 (by decide)) e5 ?_
      refine J.mmax (pc := 19) dX8_lastDay_19 ml_RX8_31 (Nat.le_of_ble_eq_true rfl) ?_
      refine J.istore_n (pc := 22) ([(1, .int (mxI v1 x4)), (0, .ref v0), (2, .int v2)]) dX8_lastDay_22 rfl (Nat.le_of_ble_eq_true rfl) rfl ?_
      refine J.iinc (pc := 23) (j := 2) ([(2, .int (v2 + (1 : Int32))), (1, .int (mxI v1 x4)), (0, .ref v0)]) dX8_lastDay_23 rfl (iincv ic_1) (Nat.le_of_ble_eq_true rfl) rfl ?_
      refine J.goto (pc := 26) (tgt := 4) dX8_lastDay_26 (by decide) ?_
      refine J.pick [2, 1, 0] rfl ?_
      exact ih v0 (mxI v1 x4) (v2 + (1 : Int32)) h k0
    · refine J.cge (pc := 9) (tgt := 29) dX8_lastDay_9 (by decide) (fun q => absurd q hc) (fun _ => ?_)
      refine J.iload_n (pc := 29) dX8_lastDay_29 rfl 1 rfl ?_
      cases h
      exact J.iret (pc := 30) dX8_lastDay_30 rfl ⟨rfl, rfl, hN, trivial⟩
def fX8_lastDay (v0 : Nat) (μ : Mem) : Option (Int32) :=
  (fX8_lastDay_4 μ fuel) v0 (-1 : Int32) (0 : Int32)
set_option maxHeartbeats 4000000 in
theorem tX8_lastDay {ω : Wd} {l : Launch} (d : Nat) {v0 : Nat} {μ : Mem} {res : Int32} (h : fX8_lastDay v0 μ = some res) (hN : μ.1 = NN) (k0 : (kd v0).1 = 18) : Ct ω l mX8_lastDay (d + 1) [.ref v0] μ 0 0 (PE (.inl (some (.int res))) μ True) := by
  refine Ct.of pn_RX8 (Nat.le_of_ble_eq_true rfl) ?_
  show J ω l mX8_lastDay (d + 1) 0 [(0, .ref v0)] [] μ 0 0 _
  unfold fX8_lastDay at h
  refine J.iconst (pc := 0) dX8_lastDay_0 ic_m1 ?_
  refine J.istore_n (pc := 1) ([(1, .int (-1 : Int32)), (0, .ref v0)]) dX8_lastDay_1 rfl (Nat.le_of_ble_eq_true rfl) rfl ?_
  refine J.iconst (pc := 2) dX8_lastDay_2 ic_0 ?_
  refine J.istore_n (pc := 3) ([(2, .int (0 : Int32)), (1, .int (-1 : Int32)), (0, .ref v0)]) dX8_lastDay_3 rfl (Nat.le_of_ble_eq_true rfl) rfl ?_
  refine J.pick [2, 1, 0] rfl ?_
  exact (tX8_lastDay_4 d hN fuel) v0 (-1 : Int32) (0 : Int32) h k0
