def fX11_needed_19  : Nat → Nat → Int32 → Int32 → Int32 → Int32 → Mem → Option (Int32 × Mem)
  | 0, _, _, _, _, _, _ => none
  | n + 1, v0, v1, v2, v3, v4, μ =>
    if v4 < (48 : Int32) then
      (fX11_isThere v0 v4 μ).bind fun r2 =>
      if r2 = 0 then
        (fX11_needed_19 n) v0 v1 v2 v3 (v4 + (1 : Int32)) μ
      else
        (fX11_isWhite v0 (0 : Int32) v4 μ).bind fun r6 =>
        if r6 = 0 then
          (fX11_needed_19 n) v0 v1 v2 v3 (v4 + (1 : Int32)) μ
        else
          if v4 = v1 then
            (fX11_needed_19 n) v0 v1 v2 v3 (v4 + (1 : Int32)) μ
          else
            if v4 = v2 then
              (fX11_needed_19 n) v0 v1 v2 v3 (v4 + (1 : Int32)) μ
            else
              (some (sI μ v0 41 v4)).bind fun μ9 =>
              (fX11_howFar v0 v1 v2 μ9).bind fun (r14, μ13) =>
              if r14 < (9999 : Int32) then
                (fX11_needed_19 n) v0 v1 v2 (v3 + (0 : Int32)) (v4 + (1 : Int32)) μ13
              else
                (fX11_needed_19 n) v0 v1 v2 (v3 + (1 : Int32)) (v4 + (1 : Int32)) μ13
    else
      (some (sI μ v0 41 (-1 : Int32))).bind fun μ17 =>
      some (v3, μ17)
set_option maxHeartbeats 4000000 in
theorem tX11_needed_19 {ω : Wd} {l : Launch} (d : Nat) {res : Int32 × Mem} : ∀ n : Nat, ∀ (v0 : Nat) (v1 : Int32) (v2 : Int32) (v3 : Int32) (v4 : Int32) (μ : Mem), fX11_needed_19 n v0 v1 v2 v3 v4 μ = some res → μ.1 = NN → (kd v0).1 = 21 → J ω l mX11_needed (d + 3) 19 [(0, .ref v0), (1, .int v1), (2, .int v2), (3, .int v3), (4, .int v4)] [] μ 0 0 (PE (.inl (some (.int res.1))) res.2 True) := by
  intro n
  induction n with
  | zero =>
    intro v0 v1 v2 v3 v4 μ h hN k0
    have h9 : (none : Option (Int32 × Mem)) = some res := h
    cases h9
  | succ n ih =>
    intro v0 v1 v2 v3 v4 μ h hN k0
    unfold fX11_needed_19 at h
    refine J.iload (pc := 19) dX11_needed_19 4 rfl ?_
    refine J.bipush (pc := 21) dX11_needed_21 ib_48 ?_
    rcases ifc h with ⟨hc, h⟩ | ⟨hc, h⟩
    · refine J.cge (pc := 23) (tgt := 92) dX11_needed_23 (by decide) (fun _ => ?_) (fun q => absurd hc q)
      refine J.aload_n (pc := 26) dX11_needed_26 rfl 0 rfl ?_
      refine J.iload (pc := 27) dX11_needed_27 4 rfl ?_
      obtain ⟨r2, e1, h⟩ := bnd h
      refine J.callV (Y := mX11_needed) (Z := mX11_isThere) (pc := 29) (st := []) (k2 := 0) (n2 := 0) dX11_needed_29 ml_RX11_332 mo_X11_isThere mv_X11_isThere rfl (tX11_isThere (d + 2) e1 hN k0) k0 (okN hN k0 (by decide)).1 (okN hN k0 (by decide)).2 cq_11 (by decide) rfl rfl (Nat.le_of_ble_eq_true rfl) (by decide) (by decide) (fun v ν hp => ?_) (fun i ν hp => nrm hp.1)
      obtain ⟨rfl, rfl, hN3, hb4⟩ := QEl hp
      show J _ _ _ _ 32 _ ([.int r2]) _ _ _ _
      rcases ifc h with ⟨hc, h⟩ | ⟨hc, h⟩
      · refine J.zeq (pc := 32) (tgt := 86) dX11_needed_32 (by decide) (fun _ => ?_) (fun q => absurd hc q)
        refine J.iinc (pc := 86) (j := 4) ([(4, .int (v4 + (1 : Int32))), (0, .ref v0), (1, .int v1), (2, .int v2), (3, .int v3)]) dX11_needed_86 rfl (iincv ic_1) (Nat.le_of_ble_eq_true rfl) rfl ?_
        refine J.goto (pc := 89) (tgt := 19) dX11_needed_89 (by decide) ?_
        refine J.pick [1, 2, 3, 4, 0] rfl ?_
        exact ih v0 v1 v2 v3 (v4 + (1 : Int32)) μ h hN3 k0
      · refine J.zeq (pc := 32) (tgt := 86) dX11_needed_32 (by decide) (fun q => absurd q hc) (fun _ => ?_)
        refine J.aload_n (pc := 35) dX11_needed_35 rfl 0 rfl ?_
        refine J.iconst (pc := 36) dX11_needed_36 ic_0 ?_
        refine J.iload (pc := 37) dX11_needed_37 4 rfl ?_
        obtain ⟨r6, e5, h⟩ := bnd h
        refine J.callV (Y := mX11_needed) (Z := mX11_isWhite) (pc := 39) (st := []) (k2 := 0) (n2 := 0) dX11_needed_39 ml_RX11_297 mo_X11_isWhite mv_X11_isWhite rfl (tX11_isWhite (d + 2) e5 hN3 k0) k0 (okN hN3 k0 (by decide)).1 (okN hN3 k0 (by decide)).2 cq_11 (by decide) rfl rfl (Nat.le_of_ble_eq_true rfl) (by decide) (by decide) (fun v ν hp => ?_) (fun i ν hp => nrm hp.1)
        obtain ⟨rfl, rfl, hN7, hb8⟩ := QEl hp
        show J _ _ _ _ 42 _ ([.int r6]) _ _ _ _
        rcases ifc h with ⟨hc, h⟩ | ⟨hc, h⟩
        · refine J.zeq (pc := 42) (tgt := 86) dX11_needed_42 (by decide) (fun _ => ?_) (fun q => absurd hc q)
          refine J.iinc (pc := 86) (j := 4) ([(4, .int (v4 + (1 : Int32))), (0, .ref v0), (1, .int v1), (2, .int v2), (3, .int v3)]) dX11_needed_86 rfl (iincv ic_1) (Nat.le_of_ble_eq_true rfl) rfl ?_
          refine J.goto (pc := 89) (tgt := 19) dX11_needed_89 (by decide) ?_
          refine J.pick [1, 2, 3, 4, 0] rfl ?_
          exact ih v0 v1 v2 v3 (v4 + (1 : Int32)) μ h hN7 k0
        · refine J.zeq (pc := 42) (tgt := 86) dX11_needed_42 (by decide) (fun q => absurd q hc) (fun _ => ?_)
          refine J.iload (pc := 45) dX11_needed_45 4 rfl ?_
          refine J.iload_n (pc := 47) dX11_needed_47 rfl 1 rfl ?_
          rcases ifc h with ⟨hc, h⟩ | ⟨hc, h⟩
          · refine J.ceq (pc := 48) (tgt := 86) dX11_needed_48 (by decide) (fun _ => ?_) (fun q => absurd hc q)
            refine J.iinc (pc := 86) (j := 4) ([(4, .int (v4 + (1 : Int32))), (0, .ref v0), (1, .int v1), (2, .int v2), (3, .int v3)]) dX11_needed_86 rfl (iincv ic_1) (Nat.le_of_ble_eq_true rfl) rfl ?_
            refine J.goto (pc := 89) (tgt := 19) dX11_needed_89 (by decide) ?_
            refine J.pick [1, 2, 3, 4, 0] rfl ?_
            exact ih v0 v1 v2 v3 (v4 + (1 : Int32)) μ h hN7 k0
          · refine J.ceq (pc := 48) (tgt := 86) dX11_needed_48 (by decide) (fun q => absurd q hc) (fun _ => ?_)
            refine J.iload (pc := 51) dX11_needed_51 4 rfl ?_
            refine J.iload_n (pc := 53) dX11_needed_53 rfl 2 rfl ?_
            rcases ifc h with ⟨hc, h⟩ | ⟨hc, h⟩
            · refine J.cne (pc := 54) (tgt := 60) dX11_needed_54 (by decide) (fun _ => ?_) (fun q => absurd hc q)
              refine J.goto (pc := 57) (tgt := 86) dX11_needed_57 (by decide) ?_
              refine J.iinc (pc := 86) (j := 4) ([(4, .int (v4 + (1 : Int32))), (0, .ref v0), (1, .int v1), (2, .int v2), (3, .int v3)]) dX11_needed_86 rfl (iincv ic_1) (Nat.le_of_ble_eq_true rfl) rfl ?_
              refine J.goto (pc := 89) (tgt := 19) dX11_needed_89 (by decide) ?_
              refine J.pick [1, 2, 3, 4, 0] rfl ?_
              exact ih v0 v1 v2 v3 (v4 + (1 : Int32)) μ h hN7 k0
            · refine J.cne (pc := 54) (tgt := 60) dX11_needed_54 (by decide) (fun q => absurd q hc) (fun _ => ?_)
              refine J.aload_n (pc := 60) dX11_needed_60 rfl 0 rfl ?_
              refine J.iload (pc := 61) dX11_needed_61 4 rfl ?_
              obtain ⟨μ9, e10, h⟩ := bnd h
              have hN11 : μ9.1 = NN := smN e10 hN7
              refine J.qI (pc := 63) dX11_needed_63 fl_RX11_66 k0 (okN hN7 k0 (by decide)) rfl rfl e10 ?_
              refine J.iload_n (pc := 66) dX11_needed_66 rfl 3 rfl ?_
              refine J.aload_n (pc := 67) dX11_needed_67 rfl 0 rfl ?_
              refine J.iload_n (pc := 68) dX11_needed_68 rfl 1 rfl ?_
              refine J.iload_n (pc := 69) dX11_needed_69 rfl 2 rfl ?_
              obtain ⟨⟨r14, μ13⟩, e12, h⟩ := bnd h
              try dsimp only at h
              refine J.callV (Y := mX11_needed) (Z := mX11_howFar) (pc := 70) (st := [.int v3]) (k2 := 0) (n2 := 0) dX11_needed_70 ml_RX11_374 mo_X11_howFar mv_X11_howFar rfl (tX11_howFar d e12 hN11 k0) k0 (okN hN11 k0 (by decide)).1 (okN hN11 k0 (by decide)).2 cq_11 (by decide) rfl rfl (Nat.le_of_ble_eq_true rfl) (by decide) (by decide) (fun v ν hp => ?_) (fun i ν hp => nrm hp.1)
              obtain ⟨rfl, rfl, hN15, hb16⟩ := QEl hp
              show J _ _ _ _ 73 _ ([.int r14, .int v3]) _ _ _ _
              refine J.sipush (pc := 73) dX11_needed_73 is_9999 ?_
              rcases ifc h with ⟨hc, h⟩ | ⟨hc, h⟩
              · refine J.clt (pc := 76) (tgt := 83) dX11_needed_76 (by decide) (fun _ => ?_) (fun q => absurd hc q)
                refine J.iconst (pc := 83) dX11_needed_83 ic_0 ?_
                refine J.iadd (pc := 84) dX11_needed_84 ?_
                refine J.istore_n (pc := 85) ([(3, .int (v3 + (0 : Int32))), (0, .ref v0), (1, .int v1), (2, .int v2), (4, .int v4)]) dX11_needed_85 rfl (Nat.le_of_ble_eq_true rfl) rfl ?_
                refine J.iinc (pc := 86) (j := 4) ([(4, .int (v4 + (1 : Int32))), (3, .int (v3 + (0 : Int32))), (0, .ref v0), (1, .int v1), (2, .int v2)]) dX11_needed_86 rfl (iincv ic_1) (Nat.le_of_ble_eq_true rfl) rfl ?_
                refine J.goto (pc := 89) (tgt := 19) dX11_needed_89 (by decide) ?_
                refine J.pick [2, 3, 4, 1, 0] rfl ?_
                exact ih v0 v1 v2 (v3 + (0 : Int32)) (v4 + (1 : Int32)) μ13 h hN15 k0
              · refine J.clt (pc := 76) (tgt := 83) dX11_needed_76 (by decide) (fun q => absurd q hc) (fun _ => ?_)
                refine J.iconst (pc := 79) dX11_needed_79 ic_1 ?_
                refine J.goto (pc := 80) (tgt := 84) dX11_needed_80 (by decide) ?_
                refine J.iadd (pc := 84) dX11_needed_84 ?_
                refine J.istore_n (pc := 85) ([(3, .int (v3 + (1 : Int32))), (0, .ref v0), (1, .int v1), (2, .int v2), (4, .int v4)]) dX11_needed_85 rfl (Nat.le_of_ble_eq_true rfl) rfl ?_
                refine J.iinc (pc := 86) (j := 4) ([(4, .int (v4 + (1 : Int32))), (3, .int (v3 + (1 : Int32))), (0, .ref v0), (1, .int v1), (2, .int v2)]) dX11_needed_86 rfl (iincv ic_1) (Nat.le_of_ble_eq_true rfl) rfl ?_
                refine J.goto (pc := 89) (tgt := 19) dX11_needed_89 (by decide) ?_
                refine J.pick [2, 3, 4, 1, 0] rfl ?_
                exact ih v0 v1 v2 (v3 + (1 : Int32)) (v4 + (1 : Int32)) μ13 h hN15 k0
    · refine J.cge (pc := 23) (tgt := 92) dX11_needed_23 (by decide) (fun q => absurd q hc) (fun _ => ?_)
      refine J.aload_n (pc := 92) dX11_needed_92 rfl 0 rfl ?_
      refine J.iconst (pc := 93) dX11_needed_93 ic_m1 ?_
      obtain ⟨μ17, e18, h⟩ := bnd h
      have hN19 : μ17.1 = NN := smN e18 hN
      refine J.qI (pc := 94) dX11_needed_94 fl_RX11_66 k0 (okN hN k0 (by decide)) rfl rfl e18 ?_
      refine J.iload_n (pc := 97) dX11_needed_97 rfl 3 rfl ?_
      cases h
      exact J.iret (pc := 98) dX11_needed_98 rfl ⟨rfl, rfl, hN19, trivial⟩
def fX11_needed (v0 : Nat) (v1 : Int32) (v2 : Int32) (μ : Mem) : Option (Int32 × Mem) :=
  (fX11_howFar v0 v1 v2 μ).bind fun (r3, μ2) =>
  if r3 < (9999 : Int32) then
    (fX11_needed_19 fuel) v0 v1 v2 (0 : Int32) (0 : Int32) μ2
  else
    some ((0 : Int32), μ2)
set_option maxHeartbeats 4000000 in
theorem tX11_needed {ω : Wd} {l : Launch} (d : Nat) {v0 : Nat} {v1 : Int32} {v2 : Int32} {μ : Mem} {res : Int32 × Mem} (h : fX11_needed v0 v1 v2 μ = some res) (hN : μ.1 = NN) (k0 : (kd v0).1 = 21) : Ct ω l mX11_needed (d + 3) [.ref v0, .int v1, .int v2] μ 0 0 (PE (.inl (some (.int res.1))) res.2 True) := by
  refine Ct.of pn_RX11 (Nat.le_of_ble_eq_true rfl) ?_
  show J ω l mX11_needed (d + 3) 0 [(0, .ref v0), (1, .int v1), (2, .int v2)] [] μ 0 0 _
  unfold fX11_needed at h
  refine J.aload_n (pc := 0) dX11_needed_0 rfl 0 rfl ?_
  refine J.iload_n (pc := 1) dX11_needed_1 rfl 1 rfl ?_
  refine J.iload_n (pc := 2) dX11_needed_2 rfl 2 rfl ?_
  obtain ⟨⟨r3, μ2⟩, e1, h⟩ := bnd h
  try dsimp only at h
  refine J.callV (Y := mX11_needed) (Z := mX11_howFar) (pc := 3) (st := []) (k2 := 0) (n2 := 0) dX11_needed_3 ml_RX11_374 mo_X11_howFar mv_X11_howFar rfl (tX11_howFar d e1 hN k0) k0 (okN hN k0 (by decide)).1 (okN hN k0 (by decide)).2 cq_11 (by decide) rfl rfl (Nat.le_of_ble_eq_true rfl) (by decide) (by decide) (fun v ν hp => ?_) (fun i ν hp => nrm hp.1)
  obtain ⟨rfl, rfl, hN4, hb5⟩ := QEl hp
  show J _ _ _ _ 6 _ ([.int r3]) _ _ _ _
  refine J.sipush (pc := 6) dX11_needed_6 is_9999 ?_
  rcases ifc h with ⟨hc, h⟩ | ⟨hc, h⟩
  · refine J.clt (pc := 9) (tgt := 14) dX11_needed_9 (by decide) (fun _ => ?_) (fun q => absurd hc q)
    refine J.iconst (pc := 14) dX11_needed_14 ic_0 ?_
    refine J.istore_n (pc := 15) ([(3, .int (0 : Int32)), (0, .ref v0), (1, .int v1), (2, .int v2)]) dX11_needed_15 rfl (Nat.le_of_ble_eq_true rfl) rfl ?_
    refine J.iconst (pc := 16) dX11_needed_16 ic_0 ?_
    refine J.istore (pc := 17) ([(4, .int (0 : Int32)), (3, .int (0 : Int32)), (0, .ref v0), (1, .int v1), (2, .int v2)]) dX11_needed_17 (Nat.le_of_ble_eq_true rfl) rfl ?_
    refine J.pick [2, 3, 4, 1, 0] rfl ?_
    exact (tX11_needed_19 d fuel) v0 v1 v2 (0 : Int32) (0 : Int32) μ2 h hN4 k0
  · refine J.clt (pc := 9) (tgt := 14) dX11_needed_9 (by decide) (fun q => absurd q hc) (fun _ => ?_)
    refine J.iconst (pc := 12) dX11_needed_12 ic_0 ?_
    cases h
    exact J.iret (pc := 13) dX11_needed_13 rfl ⟨rfl, rfl, hN4, trivial⟩
def fX11_orNone (v0 : Int32) : Int32 :=
  if v0 < (9999 : Int32) then
    v0
  else
    (-1 : Int32)
set_option maxHeartbeats 4000000 in
theorem tX11_orNone {ω : Wd} {l : Launch} (d : Nat) (v0 : Int32) (μ : Mem) (hN : μ.1 = NN) : Ct ω l mX11_orNone d [.int v0] μ 0 0 (PE (.inl (some (.int (fX11_orNone v0)))) μ True) := by
  refine Ct.of pn_RX11 (Nat.le_of_ble_eq_true rfl) ?_
  show J ω l mX11_orNone d 0 [(0, .int v0)] [] μ 0 0 _
  generalize h : fX11_orNone v0 = res
  unfold fX11_orNone at h
  refine J.iload_n (pc := 0) dX11_orNone_0 rfl 0 rfl ?_
  refine J.sipush (pc := 1) dX11_orNone_1 is_9999 ?_
  rcases ifc h with ⟨hc, h⟩ | ⟨hc, h⟩
  · refine J.clt (pc := 4) (tgt := 11) dX11_orNone_4 (by decide) (fun _ => ?_) (fun q => absurd hc q)
    refine J.iload_n (pc := 11) dX11_orNone_11 rfl 0 rfl ?_
    cases h
    exact J.iret (pc := 12) dX11_orNone_12 rfl ⟨rfl, rfl, hN, trivial⟩
  · refine J.clt (pc := 4) (tgt := 11) dX11_orNone_4 (by decide) (fun q => absurd q hc) (fun _ => ?_)
    refine J.iconst (pc := 7) dX11_orNone_7 ic_m1 ?_
    refine J.goto (pc := 8) (tgt := 12) dX11_orNone_8 (by decide) ?_
    cases h
    exact J.iret (pc := 12) dX11_orNone_12 rfl ⟨rfl, rfl, hN, trivial⟩
def fX11_person (v0 : Nat) (v1 : Int32) (v2 : Int32) (μ : Mem) : Option (Int32 × Mem) :=
  (some (sI μ v0 0 (0 : Int32))).bind fun μ1 =>
  (fX11_isPerson v0 v1 μ1).bind fun (r6, μ5) =>
  if r6 = 0 then
    some ((0 : Int32), μ5)
  else
    (fX11_isWhat v0 v2 (5 : Int32) μ5).bind fun (r11, μ10) =>
    if r11 = 0 then
      some ((0 : Int32), μ10)
    else
      if v2 = (0 : Int32) then
        (gR μ10 v0 34 0).bind fun a14 =>
        (ldI μ10 a14 ((55 : Int32) + v1)).bind fun x17 =>
        some ((fX11_toldAs x17), μ10)
      else
      if v2 = (1 : Int32) then
        (gR μ10 v0 34 0).bind fun a22 =>
        (ldI μ10 a22 ((73 : Int32) + v1)).bind fun x25 =>
        some (x25, μ10)
      else
      if v2 = (2 : Int32) then
        (gR μ10 v0 34 0).bind fun a27 =>
        (ldI μ10 a27 ((61 : Int32) + v1)).bind fun x30 =>
        some ((fX11_toldAs x30), μ10)
      else
      if v2 = (3 : Int32) then
        (gR μ10 v0 34 0).bind fun a35 =>
        (ldI μ10 a35 ((67 : Int32) + v1)).bind fun x38 =>
        some (x38, μ10)
      else
      if v2 = (4 : Int32) then
        (gR μ10 v0 34 0).bind fun a40 =>
        (ldI μ10 a40 ((61 : Int32) + v1)).bind fun x43 =>
        if x43 = (-1 : Int32) then
          some ((-1 : Int32), μ10)
        else
          (gR μ10 v0 34 0).bind fun a45 =>
          (ldI μ10 a45 ((55 : Int32) + v1)).bind fun x48 =>
          (gR μ10 v0 34 0).bind fun a50 =>
          (ldI μ10 a50 ((61 : Int32) + v1)).bind fun x53 =>
          (fX11_howFar v0 x48 x53 μ10).bind fun (r57, μ56) =>
          some ((fX11_orNone r57), μ56)
      else
      (gR μ10 v0 34 0).bind fun a63 =>
      (ldI μ10 a63 ((55 : Int32) + v1)).bind fun x66 =>
      (fX11_standAt v0 (0 : Int32) x66 μ10).bind fun r69 =>
      some ((r69 - (1 : Int32)), μ10)
set_option maxHeartbeats 4000000 in
theorem tX11_person {ω : Wd} {l : Launch} (d : Nat) {v0 : Nat} {v1 : Int32} {v2 : Int32} {μ : Mem} {res : Int32 × Mem} (h : fX11_person v0 v1 v2 μ = some res) (hN : μ.1 = NN) (k0 : (kd v0).1 = 21) : Ct ω l mX11_person (d + 3) [.ref v0, .int v1, .int v2] μ 0 0 (PE (.inl (some (.int res.1))) res.2 True) := by
  refine Ct.of pn_RX11 (Nat.le_of_ble_eq_true rfl) ?_
  show J ω l mX11_person (d + 3) 0 [(0, .ref v0), (1, .int v1), (2, .int v2)] [] μ 0 0 _
  unfold fX11_person at h
  refine J.aload_n (pc := 0) dX11_person_0 rfl 0 rfl ?_
  refine J.iconst (pc := 1) dX11_person_1 ic_0 ?_
  obtain ⟨μ1, e2, h⟩ := bnd h
  have hN3 : μ1.1 = NN := smN e2 hN
  refine J.qI (pc := 2) dX11_person_2 fl_RX11_99 k0 (okN hN k0 (by decide)) rfl rfl e2 ?_
  refine J.aload_n (pc := 5) dX11_person_5 rfl 0 rfl ?_
  refine J.iload_n (pc := 6) dX11_person_6 rfl 1 rfl ?_
  obtain ⟨⟨r6, μ5⟩, e4, h⟩ := bnd h
  try dsimp only at h
  refine J.callV (Y := mX11_person) (Z := mX11_isPerson) (pc := 7) (st := []) (k2 := 0) (n2 := 0) dX11_person_7 ml_RX11_368 mo_X11_isPerson mv_X11_isPerson rfl (tX11_isPerson (d + 1) e4 hN3 k0) k0 (okN hN3 k0 (by decide)).1 (okN hN3 k0 (by decide)).2 cq_11 (by decide) rfl rfl (Nat.le_of_ble_eq_true rfl) (by decide) (by decide) (fun v ν hp => ?_) (fun i ν hp => nrm hp.1)
  obtain ⟨rfl, rfl, hN7, hb8⟩ := QEl hp
  show J _ _ _ _ 10 _ ([.int r6]) _ _ _ _
  rcases ifc h with ⟨hc, h⟩ | ⟨hc, h⟩
  · refine J.zeq (pc := 10) (tgt := 22) dX11_person_10 (by decide) (fun _ => ?_) (fun q => absurd hc q)
    refine J.iconst (pc := 22) dX11_person_22 ic_0 ?_
    cases h
    exact J.iret (pc := 23) dX11_person_23 rfl ⟨rfl, rfl, hN7, trivial⟩
  · refine J.zeq (pc := 10) (tgt := 22) dX11_person_10 (by decide) (fun q => absurd q hc) (fun _ => ?_)
    refine J.aload_n (pc := 13) dX11_person_13 rfl 0 rfl ?_
    refine J.iload_n (pc := 14) dX11_person_14 rfl 2 rfl ?_
    refine J.iconst (pc := 15) dX11_person_15 ic_5 ?_
    obtain ⟨⟨r11, μ10⟩, e9, h⟩ := bnd h
    try dsimp only at h
    refine J.callV (Y := mX11_person) (Z := mX11_isWhat) (pc := 16) (st := []) (k2 := 0) (n2 := 0) dX11_person_16 ml_RX11_365 mo_X11_isWhat mv_X11_isWhat rfl (tX11_isWhat (d + 1) e9 hN7 k0) k0 (okN hN7 k0 (by decide)).1 (okN hN7 k0 (by decide)).2 cq_11 (by decide) rfl rfl (Nat.le_of_ble_eq_true rfl) (by decide) (by decide) (fun v ν hp => ?_) (fun i ν hp => nrm hp.1)
    obtain ⟨rfl, rfl, hN12, hb13⟩ := QEl hp
    show J _ _ _ _ 19 _ ([.int r11]) _ _ _ _
    rcases ifc h with ⟨hc, h⟩ | ⟨hc, h⟩
    · refine J.zne (pc := 19) (tgt := 24) dX11_person_19 (by decide) (fun _ => ?_) (fun q => absurd hc q)
      refine J.iconst (pc := 22) dX11_person_22 ic_0 ?_
      cases h
      exact J.iret (pc := 23) dX11_person_23 rfl ⟨rfl, rfl, hN12, trivial⟩
    · refine J.zne (pc := 19) (tgt := 24) dX11_person_19 (by decide) (fun q => absurd q hc) (fun _ => ?_)
      refine J.iload_n (pc := 24) dX11_person_24 rfl 2 rfl ?_
      rcases ifc h with ⟨hc, h⟩ | ⟨ns72, h⟩
      · refine J.tableIn (pc := 25) (off := 35) (tgt := 60) dX11_person_25 (by rw [hc]; decide) (by rw [hc]; decide) (by rw [hc]; decide) (by decide) ?_
        refine J.aload_n (pc := 60) dX11_person_60 rfl 0 rfl ?_
        obtain ⟨a14, e15, h⟩ := bnd h
        have k16 : (kd a14).1 = 0 := gR_k e15
        refine J.fR (pc := 61) dX11_person_61 fl_RX11_48 k0 (okN hN12 k0 (by decide)) rfl e15 ?_
        refine J.bipush (pc := 64) dX11_person_64 ib_55 ?_
        refine J.iload_n (pc := 66) dX11_person_66 rfl 1 rfl ?_
        refine J.iadd (pc := 67) dX11_person_67 ?_
        obtain ⟨x17, e18, h⟩ := bnd h
        refine J.aI (pc := 68) dX11_person_68 k16 (okN hN12 k16 (by decide)) e18 ?_
        refine J.callS (Y := mX11_person) (Z := mX11_toldAs) (pc := 69) (st := []) (k2 := 0) (n2 := 0) dX11_person_69 ml_RX11_371 mo_X11_toldAs ms_X11_toldAs rfl (tX11_toldAs (d + 2) x17 μ10 hN12 ) rfl rfl (Nat.le_of_ble_eq_true rfl) (by decide) (by decide) (fun v ν hp => ?_) (fun i ν hp => nrm hp.1)
        obtain ⟨rfl, rfl, hN20, hb21⟩ := QEl hp
        show J _ _ _ _ 72 _ ([.int (fX11_toldAs x17)]) _ _ _ _
        cases h
        exact J.iret (pc := 72) dX11_person_72 rfl ⟨rfl, rfl, hN20, trivial⟩
      rcases ifc h with ⟨hc, h⟩ | ⟨ns73, h⟩
      · refine J.tableIn (pc := 25) (off := 48) (tgt := 73) dX11_person_25 (by rw [hc]; decide) (by rw [hc]; decide) (by rw [hc]; decide) (by decide) ?_
        refine J.aload_n (pc := 73) dX11_person_73 rfl 0 rfl ?_
        obtain ⟨a22, e23, h⟩ := bnd h
        have k24 : (kd a22).1 = 0 := gR_k e23
        refine J.fR (pc := 74) dX11_person_74 fl_RX11_48 k0 (okN hN12 k0 (by decide)) rfl e23 ?_
        refine J.bipush (pc := 77) dX11_person_77 ib_73 ?_
        refine J.iload_n (pc := 79) dX11_person_79 rfl 1 rfl ?_
        refine J.iadd (pc := 80) dX11_person_80 ?_
        obtain ⟨x25, e26, h⟩ := bnd h
        refine J.aI (pc := 81) dX11_person_81 k24 (okN hN12 k24 (by decide)) e26 ?_
        cases h
        exact J.iret (pc := 82) dX11_person_82 rfl ⟨rfl, rfl, hN12, trivial⟩
      rcases ifc h with ⟨hc, h⟩ | ⟨ns74, h⟩
      · refine J.tableIn (pc := 25) (off := 58) (tgt := 83) dX11_person_25 (by rw [hc]; decide) (by rw [hc]; decide) (by rw [hc]; decide) (by decide) ?_
        refine J.aload_n (pc := 83) dX11_person_83 rfl 0 rfl ?_
        obtain ⟨a27, e28, h⟩ := bnd h
        have k29 : (kd a27).1 = 0 := gR_k e28
        refine J.fR (pc := 84) dX11_person_84 fl_RX11_48 k0 (okN hN12 k0 (by decide)) rfl e28 ?_
        refine J.bipush (pc := 87) dX11_person_87 ib_61 ?_
        refine J.iload_n (pc := 89) dX11_person_89 rfl 1 rfl ?_
        refine J.iadd (pc := 90) dX11_person_90 ?_
        obtain ⟨x30, e31, h⟩ := bnd h
        refine J.aI (pc := 91) dX11_person_91 k29 (okN hN12 k29 (by decide)) e31 ?_
        refine J.callS (Y := mX11_person) (Z := mX11_toldAs) (pc := 92) (st := []) (k2 := 0) (n2 := 0) dX11_person_92 ml_RX11_371 mo_X11_toldAs ms_X11_toldAs rfl (tX11_toldAs (d + 2) x30 μ10 hN12 ) rfl rfl (Nat.le_of_ble_eq_true rfl) (by decide) (by decide) (fun v ν hp => ?_) (fun i ν hp => nrm hp.1)
        obtain ⟨rfl, rfl, hN33, hb34⟩ := QEl hp
        show J _ _ _ _ 95 _ ([.int (fX11_toldAs x30)]) _ _ _ _
        cases h
        exact J.iret (pc := 95) dX11_person_95 rfl ⟨rfl, rfl, hN33, trivial⟩
      rcases ifc h with ⟨hc, h⟩ | ⟨ns75, h⟩
      · refine J.tableIn (pc := 25) (off := 71) (tgt := 96) dX11_person_25 (by rw [hc]; decide) (by rw [hc]; decide) (by rw [hc]; decide) (by decide) ?_
        refine J.aload_n (pc := 96) dX11_person_96 rfl 0 rfl ?_
        obtain ⟨a35, e36, h⟩ := bnd h
        have k37 : (kd a35).1 = 0 := gR_k e36
        refine J.fR (pc := 97) dX11_person_97 fl_RX11_48 k0 (okN hN12 k0 (by decide)) rfl e36 ?_
        refine J.bipush (pc := 100) dX11_person_100 ib_67 ?_
        refine J.iload_n (pc := 102) dX11_person_102 rfl 1 rfl ?_
        refine J.iadd (pc := 103) dX11_person_103 ?_
        obtain ⟨x38, e39, h⟩ := bnd h
        refine J.aI (pc := 104) dX11_person_104 k37 (okN hN12 k37 (by decide)) e39 ?_
        cases h
        exact J.iret (pc := 105) dX11_person_105 rfl ⟨rfl, rfl, hN12, trivial⟩
      rcases ifc h with ⟨hc, h⟩ | ⟨ns76, h⟩
      · refine J.tableIn (pc := 25) (off := 81) (tgt := 106) dX11_person_25 (by rw [hc]; decide) (by rw [hc]; decide) (by rw [hc]; decide) (by decide) ?_
        refine J.aload_n (pc := 106) dX11_person_106 rfl 0 rfl ?_
        obtain ⟨a40, e41, h⟩ := bnd h
        have k42 : (kd a40).1 = 0 := gR_k e41
        refine J.fR (pc := 107) dX11_person_107 fl_RX11_48 k0 (okN hN12 k0 (by decide)) rfl e41 ?_
        refine J.bipush (pc := 110) dX11_person_110 ib_61 ?_
        refine J.iload_n (pc := 112) dX11_person_112 rfl 1 rfl ?_
        refine J.iadd (pc := 113) dX11_person_113 ?_
        obtain ⟨x43, e44, h⟩ := bnd h
        refine J.aI (pc := 114) dX11_person_114 k42 (okN hN12 k42 (by decide)) e44 ?_
        refine J.iconst (pc := 115) dX11_person_115 ic_m1 ?_
        rcases ifc h with ⟨hc, h⟩ | ⟨hc, h⟩
        · refine J.cne (pc := 116) (tgt := 123) dX11_person_116 (by decide) (fun _ => ?_) (fun q => absurd hc q)
          refine J.iconst (pc := 119) dX11_person_119 ic_m1 ?_
          refine J.goto (pc := 120) (tgt := 148) dX11_person_120 (by decide) ?_
          cases h
          exact J.iret (pc := 148) dX11_person_148 rfl ⟨rfl, rfl, hN12, trivial⟩
        · refine J.cne (pc := 116) (tgt := 123) dX11_person_116 (by decide) (fun q => absurd q hc) (fun _ => ?_)
          refine J.aload_n (pc := 123) dX11_person_123 rfl 0 rfl ?_
          refine J.aload_n (pc := 124) dX11_person_124 rfl 0 rfl ?_
          obtain ⟨a45, e46, h⟩ := bnd h
          have k47 : (kd a45).1 = 0 := gR_k e46
          refine J.fR (pc := 125) dX11_person_125 fl_RX11_48 k0 (okN hN12 k0 (by decide)) rfl e46 ?_
          refine J.bipush (pc := 128) dX11_person_128 ib_55 ?_
          refine J.iload_n (pc := 130) dX11_person_130 rfl 1 rfl ?_
          refine J.iadd (pc := 131) dX11_person_131 ?_
          obtain ⟨x48, e49, h⟩ := bnd h
          refine J.aI (pc := 132) dX11_person_132 k47 (okN hN12 k47 (by decide)) e49 ?_
          refine J.aload_n (pc := 133) dX11_person_133 rfl 0 rfl ?_
          obtain ⟨a50, e51, h⟩ := bnd h
          have k52 : (kd a50).1 = 0 := gR_k e51
          refine J.fR (pc := 134) dX11_person_134 fl_RX11_48 k0 (okN hN12 k0 (by decide)) rfl e51 ?_
          refine J.bipush (pc := 137) dX11_person_137 ib_61 ?_
          refine J.iload_n (pc := 139) dX11_person_139 rfl 1 rfl ?_
          refine J.iadd (pc := 140) dX11_person_140 ?_
          obtain ⟨x53, e54, h⟩ := bnd h
          refine J.aI (pc := 141) dX11_person_141 k52 (okN hN12 k52 (by decide)) e54 ?_
          obtain ⟨⟨r57, μ56⟩, e55, h⟩ := bnd h
          try dsimp only at h
          refine J.callV (Y := mX11_person) (Z := mX11_howFar) (pc := 142) (st := []) (k2 := 0) (n2 := 0) dX11_person_142 ml_RX11_374 mo_X11_howFar mv_X11_howFar rfl (tX11_howFar d e55 hN12 k0) k0 (okN hN12 k0 (by decide)).1 (okN hN12 k0 (by decide)).2 cq_11 (by decide) rfl rfl (Nat.le_of_ble_eq_true rfl) (by decide) (by decide) (fun v ν hp => ?_) (fun i ν hp => nrm hp.1)
          obtain ⟨rfl, rfl, hN58, hb59⟩ := QEl hp
          show J _ _ _ _ 145 _ ([.int r57]) _ _ _ _
          refine J.callS (Y := mX11_person) (Z := mX11_orNone) (pc := 145) (st := []) (k2 := 0) (n2 := 0) dX11_person_145 ml_RX11_377 mo_X11_orNone ms_X11_orNone rfl (tX11_orNone (d + 2) r57 μ56 hN58 ) rfl rfl (Nat.le_of_ble_eq_true rfl) (by decide) (by decide) (fun v ν hp => ?_) (fun i ν hp => nrm hp.1)
          obtain ⟨rfl, rfl, hN61, hb62⟩ := QEl hp
          show J _ _ _ _ 148 _ ([.int (fX11_orNone r57)]) _ _ _ _
          cases h
          exact J.iret (pc := 148) dX11_person_148 rfl ⟨rfl, rfl, hN61, trivial⟩
      refine J.tableOut (pc := 25) (tgt := 149) dX11_person_25 (sw_out (vs := [(0 : Int32), (1 : Int32), (2 : Int32), (3 : Int32), (4 : Int32)]) (List.forall_mem_cons.mpr ⟨ns72, (List.forall_mem_cons.mpr ⟨ns73, (List.forall_mem_cons.mpr ⟨ns74, (List.forall_mem_cons.mpr ⟨ns75, (List.forall_mem_cons.mpr ⟨ns76, (fun _ q => nomatch q)⟩)⟩)⟩)⟩)⟩) (sw_hv (by decide))) (by decide) ?_
      refine J.aload_n (pc := 149) dX11_person_149 rfl 0 rfl ?_
      refine J.iconst (pc := 150) dX11_person_150 ic_0 ?_
      refine J.aload_n (pc := 151) dX11_person_151 rfl 0 rfl ?_
      obtain ⟨a63, e64, h⟩ := bnd h
      have k65 : (kd a63).1 = 0 := gR_k e64
      refine J.fR (pc := 152) dX11_person_152 fl_RX11_48 k0 (okN hN12 k0 (by decide)) rfl e64 ?_
      refine J.bipush (pc := 155) dX11_person_155 ib_55 ?_
      refine J.iload_n (pc := 157) dX11_person_157 rfl 1 rfl ?_
      refine J.iadd (pc := 158) dX11_person_158 ?_
      obtain ⟨x66, e67, h⟩ := bnd h
      refine J.aI (pc := 159) dX11_person_159 k65 (okN hN12 k65 (by decide)) e67 ?_
      obtain ⟨r69, e68, h⟩ := bnd h
      refine J.callV (Y := mX11_person) (Z := mX11_standAt) (pc := 160) (st := []) (k2 := 0) (n2 := 0) dX11_person_160 ml_RX11_304 mo_X11_standAt mv_X11_standAt rfl (tX11_standAt (d + 2) e68 hN12 k0) k0 (okN hN12 k0 (by decide)).1 (okN hN12 k0 (by decide)).2 cq_11 (by decide) rfl rfl (Nat.le_of_ble_eq_true rfl) (by decide) (by decide) (fun v ν hp => ?_) (fun i ν hp => nrm hp.1)
      obtain ⟨rfl, rfl, hN70, hb71⟩ := QEl hp
      show J _ _ _ _ 163 _ ([.int r69]) _ _ _ _
      refine J.iconst (pc := 163) dX11_person_163 ic_1 ?_
      refine J.isub (pc := 164) dX11_person_164 ?_
      cases h
      exact J.iret (pc := 165) dX11_person_165 rfl ⟨rfl, rfl, hN70, trivial⟩
def fX11_quick_45  : Nat → Nat → Int32 → Int32 → Int32 → Int32 → Mem → Option (Int32 × Mem)
  | 0, _, _, _, _, _, _ => none
  | n + 1, v0, v1, v2, v3, v4, μ =>
    if v4 < ((10 : Int32) * (μ.2.1 v0 2)) then
      (fX11_isGuess v0 v4 μ).bind fun (r3, μ2) =>
      if r3 = 0 then
        (fX11_quick_45 n) v0 v1 v2 v3 (v4 + (1 : Int32)) μ2
      else
        if v3 = (-1 : Int32) then
          (fX11_quick_45 n) v0 v1 (v2 + (1 : Int32)) v4 (v4 + (1 : Int32)) μ2
        else
          (fX11_quick_45 n) v0 v1 (v2 + (1 : Int32)) v3 (v4 + (1 : Int32)) μ2
    else
      if v1 = 0 then
        some (v2, μ)
      else
        some (v3, μ)
set_option maxHeartbeats 4000000 in
theorem tX11_quick_45 {ω : Wd} {l : Launch} (d : Nat) {res : Int32 × Mem} : ∀ n : Nat, ∀ (v0 : Nat) (v1 : Int32) (v2 : Int32) (v3 : Int32) (v4 : Int32) (μ : Mem), fX11_quick_45 n v0 v1 v2 v3 v4 μ = some res → μ.1 = NN → (kd v0).1 = 21 → J ω l mX11_quick (d + 7) 45 [(0, .ref v0), (1, .int v1), (2, .int v2), (3, .int v3), (4, .int v4)] [] μ 0 0 (PE (.inl (some (.int res.1))) res.2 True) := by
  intro n
  induction n with
  | zero =>
    intro v0 v1 v2 v3 v4 μ h hN k0
    have h9 : (none : Option (Int32 × Mem)) = some res := h
    cases h9
  | succ n ih =>
    intro v0 v1 v2 v3 v4 μ h hN k0
    unfold fX11_quick_45 at h
    refine J.iload (pc := 45) dX11_quick_45 4 rfl ?_
    refine J.bipush (pc := 47) dX11_quick_47 ib_10 ?_
    refine J.aload_n (pc := 49) dX11_quick_49 rfl 0 rfl ?_
    refine J.fI (pc := 50) dX11_quick_50 fl_RX11_276 k0 (okN hN k0 (by decide)) (Or.inl rfl) ?_
    refine J.imul (pc := 53) dX11_quick_53 ?_
    rcases ifc h with ⟨hc, h⟩ | ⟨hc, h⟩
    · refine J.cge (pc := 54) (tgt := 86) dX11_quick_54 (by decide) (fun _ => ?_) (fun q => absurd hc q)
      refine J.aload_n (pc := 57) dX11_quick_57 rfl 0 rfl ?_
      refine J.iload (pc := 58) dX11_quick_58 4 rfl ?_
      obtain ⟨⟨r3, μ2⟩, e1, h⟩ := bnd h
      try dsimp only at h
      refine J.callV (Y := mX11_quick) (Z := mX11_isGuess) (pc := 60) (st := []) (k2 := 0) (n2 := 0) dX11_quick_60 ml_RX11_422 mo_X11_isGuess mv_X11_isGuess rfl (tX11_isGuess d e1 hN k0) k0 (okN hN k0 (by decide)).1 (okN hN k0 (by decide)).2 cq_11 (by decide) rfl rfl (Nat.le_of_ble_eq_true rfl) (by decide) (by decide) (fun v ν hp => ?_) (fun i ν hp => nrm hp.1)
      obtain ⟨rfl, rfl, hN4, hb5⟩ := QEl hp
      show J _ _ _ _ 63 _ ([.int r3]) _ _ _ _
      rcases ifc h with ⟨hc, h⟩ | ⟨hc, h⟩
      · refine J.zne (pc := 63) (tgt := 69) dX11_quick_63 (by decide) (fun _ => ?_) (fun q => absurd hc q)
        refine J.goto (pc := 66) (tgt := 80) dX11_quick_66 (by decide) ?_
        refine J.iinc (pc := 80) (j := 4) ([(4, .int (v4 + (1 : Int32))), (0, .ref v0), (1, .int v1), (2, .int v2), (3, .int v3)]) dX11_quick_80 rfl (iincv ic_1) (Nat.le_of_ble_eq_true rfl) rfl ?_
        refine J.goto (pc := 83) (tgt := 45) dX11_quick_83 (by decide) ?_
        refine J.pick [1, 2, 3, 4, 0] rfl ?_
        exact ih v0 v1 v2 v3 (v4 + (1 : Int32)) μ2 h hN4 k0
      · refine J.zne (pc := 63) (tgt := 69) dX11_quick_63 (by decide) (fun q => absurd q hc) (fun _ => ?_)
        refine J.iinc (pc := 69) (j := 2) ([(2, .int (v2 + (1 : Int32))), (0, .ref v0), (1, .int v1), (3, .int v3), (4, .int v4)]) dX11_quick_69 rfl (iincv ic_1) (Nat.le_of_ble_eq_true rfl) rfl ?_
        refine J.iload_n (pc := 72) dX11_quick_72 rfl 3 rfl ?_
        refine J.iconst (pc := 73) dX11_quick_73 ic_m1 ?_
        rcases ifc h with ⟨hc, h⟩ | ⟨hc, h⟩
        · refine J.cne (pc := 74) (tgt := 80) dX11_quick_74 (by decide) (fun _ => ?_) (fun q => absurd hc q)
          refine J.iload (pc := 77) dX11_quick_77 4 rfl ?_
          refine J.istore_n (pc := 79) ([(3, .int v4), (2, .int (v2 + (1 : Int32))), (0, .ref v0), (1, .int v1), (4, .int v4)]) dX11_quick_79 rfl (Nat.le_of_ble_eq_true rfl) rfl ?_
          refine J.iinc (pc := 80) (j := 4) ([(4, .int (v4 + (1 : Int32))), (3, .int v4), (2, .int (v2 + (1 : Int32))), (0, .ref v0), (1, .int v1)]) dX11_quick_80 rfl (iincv ic_1) (Nat.le_of_ble_eq_true rfl) rfl ?_
          refine J.goto (pc := 83) (tgt := 45) dX11_quick_83 (by decide) ?_
          refine J.pick [3, 4, 2, 1, 0] rfl ?_
          exact ih v0 v1 (v2 + (1 : Int32)) v4 (v4 + (1 : Int32)) μ2 h hN4 k0
        · refine J.cne (pc := 74) (tgt := 80) dX11_quick_74 (by decide) (fun q => absurd q hc) (fun _ => ?_)
          refine J.iinc (pc := 80) (j := 4) ([(4, .int (v4 + (1 : Int32))), (2, .int (v2 + (1 : Int32))), (0, .ref v0), (1, .int v1), (3, .int v3)]) dX11_quick_80 rfl (iincv ic_1) (Nat.le_of_ble_eq_true rfl) rfl ?_
          refine J.goto (pc := 83) (tgt := 45) dX11_quick_83 (by decide) ?_
          refine J.pick [2, 3, 1, 4, 0] rfl ?_
          exact ih v0 v1 (v2 + (1 : Int32)) v3 (v4 + (1 : Int32)) μ2 h hN4 k0
    · refine J.cge (pc := 54) (tgt := 86) dX11_quick_54 (by decide) (fun q => absurd q hc) (fun _ => ?_)
      refine J.iload_n (pc := 86) dX11_quick_86 rfl 1 rfl ?_
      rcases ifc h with ⟨hc, h⟩ | ⟨hc, h⟩
      · refine J.zne (pc := 87) (tgt := 94) dX11_quick_87 (by decide) (fun _ => ?_) (fun q => absurd hc q)
        refine J.iload_n (pc := 90) dX11_quick_90 rfl 2 rfl ?_
        refine J.goto (pc := 91) (tgt := 95) dX11_quick_91 (by decide) ?_
        cases h
        exact J.iret (pc := 95) dX11_quick_95 rfl ⟨rfl, rfl, hN, trivial⟩
      · refine J.zne (pc := 87) (tgt := 94) dX11_quick_87 (by decide) (fun q => absurd q hc) (fun _ => ?_)
        refine J.iload_n (pc := 94) dX11_quick_94 rfl 3 rfl ?_
        cases h
        exact J.iret (pc := 95) dX11_quick_95 rfl ⟨rfl, rfl, hN, trivial⟩
def fX11_quick (v0 : Nat) (v1 : Int32) (μ : Mem) : Option (Int32 × Mem) :=
  (some (sI μ v0 0 (0 : Int32))).bind fun μ1 =>
  (fX11_isWhat v0 v1 (2 : Int32) μ1).bind fun (r6, μ5) =>
  if r6 = 0 then
    some ((0 : Int32), μ5)
  else
    if v1 = (2 : Int32) then
      (fX11_tries v0 μ5).bind fun μ10 =>
      (fX11_isSeen v0 μ10).bind fun (r15, μ14) =>
      if r15 = 0 then
        some ((0 : Int32), μ14)
      else
        some ((1 : Int32), μ14)
    else
      (fX11_quick_45 fuel) v0 v1 (0 : Int32) (-1 : Int32) (0 : Int32) μ5
set_option maxHeartbeats 4000000 in
theorem tX11_quick {ω : Wd} {l : Launch} (d : Nat) {v0 : Nat} {v1 : Int32} {μ : Mem} {res : Int32 × Mem} (h : fX11_quick v0 v1 μ = some res) (hN : μ.1 = NN) (k0 : (kd v0).1 = 21) : Ct ω l mX11_quick (d + 7) [.ref v0, .int v1] μ 0 0 (PE (.inl (some (.int res.1))) res.2 True) := by
  refine Ct.of pn_RX11 (Nat.le_of_ble_eq_true rfl) ?_
  show J ω l mX11_quick (d + 7) 0 [(0, .ref v0), (1, .int v1)] [] μ 0 0 _
  unfold fX11_quick at h
  refine J.aload_n (pc := 0) dX11_quick_0 rfl 0 rfl ?_
  refine J.iconst (pc := 1) dX11_quick_1 ic_0 ?_
  obtain ⟨μ1, e2, h⟩ := bnd h
  have hN3 : μ1.1 = NN := smN e2 hN
  refine J.qI (pc := 2) dX11_quick_2 fl_RX11_99 k0 (okN hN k0 (by decide)) rfl rfl e2 ?_
  refine J.aload_n (pc := 5) dX11_quick_5 rfl 0 rfl ?_
  refine J.iload_n (pc := 6) dX11_quick_6 rfl 1 rfl ?_
  refine J.iconst (pc := 7) dX11_quick_7 ic_2 ?_
  obtain ⟨⟨r6, μ5⟩, e4, h⟩ := bnd h
  try dsimp only at h
  refine J.callV (Y := mX11_quick) (Z := mX11_isWhat) (pc := 8) (st := []) (k2 := 0) (n2 := 0) dX11_quick_8 ml_RX11_365 mo_X11_isWhat mv_X11_isWhat rfl (tX11_isWhat (d + 5) e4 hN3 k0) k0 (okN hN3 k0 (by decide)).1 (okN hN3 k0 (by decide)).2 cq_11 (by decide) rfl rfl (Nat.le_of_ble_eq_true rfl) (by decide) (by decide) (fun v ν hp => ?_) (fun i ν hp => nrm hp.1)
  obtain ⟨rfl, rfl, hN7, hb8⟩ := QEl hp
  show J _ _ _ _ 11 _ ([.int r6]) _ _ _ _
  rcases ifc h with ⟨hc, h⟩ | ⟨hc, h⟩
  · refine J.zne (pc := 11) (tgt := 16) dX11_quick_11 (by decide) (fun _ => ?_) (fun q => absurd hc q)
    refine J.iconst (pc := 14) dX11_quick_14 ic_0 ?_
    cases h
    exact J.iret (pc := 15) dX11_quick_15 rfl ⟨rfl, rfl, hN7, trivial⟩
  · refine J.zne (pc := 11) (tgt := 16) dX11_quick_11 (by decide) (fun q => absurd q hc) (fun _ => ?_)
    refine J.iload_n (pc := 16) dX11_quick_16 rfl 1 rfl ?_
    refine J.iconst (pc := 17) dX11_quick_17 ic_2 ?_
    rcases ifc h with ⟨hc, h⟩ | ⟨hc, h⟩
    · refine J.cne (pc := 18) (tgt := 38) dX11_quick_18 (by decide) (fun _ => ?_) (fun q => absurd hc q)
      refine J.aload_n (pc := 21) dX11_quick_21 rfl 0 rfl ?_
      obtain ⟨μ10, e9, h⟩ := bnd h
      refine J.callV (Y := mX11_quick) (Z := mX11_tries) (pc := 22) (st := []) (k2 := 0) (n2 := 0) dX11_quick_22 ml_RX11_389 mo_X11_tries mv_X11_tries rfl (tX11_tries (d + 6) e9 hN7 k0) k0 (okN hN7 k0 (by decide)).1 (okN hN7 k0 (by decide)).2 cq_11 (by decide) rfl rfl (Nat.le_of_ble_eq_true rfl) (by decide) (by decide) (fun v ν hp => ?_) (fun i ν hp => nrm hp.1)
      obtain ⟨rfl, rfl, hN11, hb12⟩ := QEl hp
      show J _ _ _ _ 25 _ ([]) _ _ _ _
      refine J.aload_n (pc := 25) dX11_quick_25 rfl 0 rfl ?_
      obtain ⟨⟨r15, μ14⟩, e13, h⟩ := bnd h
      try dsimp only at h
      refine J.callV (Y := mX11_quick) (Z := mX11_isSeen) (pc := 26) (st := []) (k2 := 0) (n2 := 0) dX11_quick_26 ml_RX11_419 mo_X11_isSeen mv_X11_isSeen rfl (tX11_isSeen (d + 1) e13 hN11 k0) k0 (okN hN11 k0 (by decide)).1 (okN hN11 k0 (by decide)).2 cq_11 (by decide) rfl rfl (Nat.le_of_ble_eq_true rfl) (by decide) (by decide) (fun v ν hp => ?_) (fun i ν hp => nrm hp.1)
      obtain ⟨rfl, rfl, hN16, hb17⟩ := QEl hp
      show J _ _ _ _ 29 _ ([.int r15]) _ _ _ _
      rcases ifc h with ⟨hc, h⟩ | ⟨hc, h⟩
      · refine J.zeq (pc := 29) (tgt := 36) dX11_quick_29 (by decide) (fun _ => ?_) (fun q => absurd hc q)
        refine J.iconst (pc := 36) dX11_quick_36 ic_0 ?_
        cases h
        exact J.iret (pc := 37) dX11_quick_37 rfl ⟨rfl, rfl, hN16, trivial⟩
      · refine J.zeq (pc := 29) (tgt := 36) dX11_quick_29 (by decide) (fun q => absurd q hc) (fun _ => ?_)
        refine J.iconst (pc := 32) dX11_quick_32 ic_1 ?_
        refine J.goto (pc := 33) (tgt := 37) dX11_quick_33 (by decide) ?_
        cases h
        exact J.iret (pc := 37) dX11_quick_37 rfl ⟨rfl, rfl, hN16, trivial⟩
    · refine J.cne (pc := 18) (tgt := 38) dX11_quick_18 (by decide) (fun q => absurd q hc) (fun _ => ?_)
      refine J.iconst (pc := 38) dX11_quick_38 ic_0 ?_
      refine J.istore_n (pc := 39) ([(2, .int (0 : Int32)), (0, .ref v0), (1, .int v1)]) dX11_quick_39 rfl (Nat.le_of_ble_eq_true rfl) rfl ?_
      refine J.iconst (pc := 40) dX11_quick_40 ic_m1 ?_
      refine J.istore_n (pc := 41) ([(3, .int (-1 : Int32)), (2, .int (0 : Int32)), (0, .ref v0), (1, .int v1)]) dX11_quick_41 rfl (Nat.le_of_ble_eq_true rfl) rfl ?_
      refine J.iconst (pc := 42) dX11_quick_42 ic_0 ?_
      refine J.istore (pc := 43) ([(4, .int (0 : Int32)), (3, .int (-1 : Int32)), (2, .int (0 : Int32)), (0, .ref v0), (1, .int v1)]) dX11_quick_43 (Nat.le_of_ble_eq_true rfl) rfl ?_
      refine J.pick [3, 4, 2, 1, 0] rfl ?_
      exact (tX11_quick_45 d fuel) v0 v1 (0 : Int32) (-1 : Int32) (0 : Int32) μ5 h hN7 k0
def fX11_reached_32  : Nat → Nat → Int32 → Int32 → Int32 → Int32 → Mem → Option (Int32 × Mem)
  | 0, _, _, _, _, _, _ => none
  | n + 1, v0, v2, v3, v4, v5, μ =>
    (gR μ v0 5 0).bind fun a1 =>
    (ldI μ a1 v2).bind fun x4 =>
    if v5 < x4 then
      (fX11_howFar v0 v3 (((8 : Int32) * v2) + v5) μ).bind fun (r8, μ7) =>
      if r8 < (9999 : Int32) then
        (fX11_reached_32 n) v0 v2 v3 (v4 ||| ((1 : Int32) <<< (v5 &&& 31))) (v5 + (1 : Int32)) μ7
      else
        (fX11_reached_32 n) v0 v2 v3 (v4 ||| (0 : Int32)) (v5 + (1 : Int32)) μ7
    else
      some (v4, μ)
set_option maxHeartbeats 4000000 in
theorem tX11_reached_32 {ω : Wd} {l : Launch} (d : Nat) {res : Int32 × Mem} : ∀ n : Nat, ∀ (v0 : Nat) (v2 : Int32) (v3 : Int32) (v4 : Int32) (v5 : Int32) (μ : Mem), fX11_reached_32 n v0 v2 v3 v4 v5 μ = some res → μ.1 = NN → (kd v0).1 = 21 → J ω l mX11_reached (d + 3) 32 [(0, .ref v0), (2, .int v2), (3, .int v3), (4, .int v4), (5, .int v5)] [] μ 0 0 (PE (.inl (some (.int res.1))) res.2 True) := by
  intro n
  induction n with
  | zero =>
    intro v0 v2 v3 v4 v5 μ h hN k0
    have h9 : (none : Option (Int32 × Mem)) = some res := h
    cases h9
  | succ n ih =>
    intro v0 v2 v3 v4 v5 μ h hN k0
    unfold fX11_reached_32 at h
    refine J.iload (pc := 32) dX11_reached_32 4 rfl ?_
    refine J.aload_n (pc := 34) dX11_reached_34 rfl 0 rfl ?_
    obtain ⟨a1, e2, h⟩ := bnd h
    have k3 : (kd a1).1 = 0 := gR_k e2
    refine J.fR (pc := 35) dX11_reached_35 fl_RX11_16 k0 (okN hN k0 (by decide)) rfl e2 ?_
    refine J.iload_n (pc := 38) dX11_reached_38 rfl 1 rfl ?_
    obtain ⟨x4, e5, h⟩ := bnd h
    refine J.aI (pc := 39) dX11_reached_39 k3 (okN hN k3 (by decide)) e5 ?_
    rcases ifc h with ⟨hc, h⟩ | ⟨hc, h⟩
    · refine J.cge (pc := 40) (tgt := 80) dX11_reached_40 (by decide) (fun _ => ?_) (fun q => absurd hc q)
      refine J.iload (pc := 43) dX11_reached_43 3 rfl ?_
      refine J.aload_n (pc := 45) dX11_reached_45 rfl 0 rfl ?_
      refine J.iload_n (pc := 46) dX11_reached_46 rfl 2 rfl ?_
      refine J.bipush (pc := 47) dX11_reached_47 ib_8 ?_
      refine J.iload_n (pc := 49) dX11_reached_49 rfl 1 rfl ?_
      refine J.imul (pc := 50) dX11_reached_50 ?_
      refine J.iload (pc := 51) dX11_reached_51 4 rfl ?_
      refine J.iadd (pc := 53) dX11_reached_53 ?_
      obtain ⟨⟨r8, μ7⟩, e6, h⟩ := bnd h
      try dsimp only at h
      refine J.callV (Y := mX11_reached) (Z := mX11_howFar) (pc := 54) (st := [.int v4]) (k2 := 0) (n2 := 0) dX11_reached_54 ml_RX11_374 mo_X11_howFar mv_X11_howFar rfl (tX11_howFar d e6 hN k0) k0 (okN hN k0 (by decide)).1 (okN hN k0 (by decide)).2 cq_11 (by decide) rfl rfl (Nat.le_of_ble_eq_true rfl) (by decide) (by decide) (fun v ν hp => ?_) (fun i ν hp => nrm hp.1)
      obtain ⟨rfl, rfl, hN9, hb10⟩ := QEl hp
      show J _ _ _ _ 57 _ ([.int r8, .int v4]) _ _ _ _
      refine J.sipush (pc := 57) dX11_reached_57 is_9999 ?_
      rcases ifc h with ⟨hc, h⟩ | ⟨hc, h⟩
      · refine J.cge (pc := 60) (tgt := 70) dX11_reached_60 (by decide) (fun _ => ?_) (fun q => absurd hc q)
        refine J.iconst (pc := 63) dX11_reached_63 ic_1 ?_
        refine J.iload (pc := 64) dX11_reached_64 4 rfl ?_
        refine J.ishl (pc := 66) dX11_reached_66 ?_
        refine J.goto (pc := 67) (tgt := 71) dX11_reached_67 (by decide) ?_
        refine J.ior (pc := 71) dX11_reached_71 ?_
        refine J.istore (pc := 72) ([(4, .int (v4 ||| ((1 : Int32) <<< (v5 &&& 31)))), (0, .ref v0), (2, .int v2), (3, .int v3), (5, .int v5)]) dX11_reached_72 (Nat.le_of_ble_eq_true rfl) rfl ?_
        refine J.iinc (pc := 74) (j := 4) ([(5, .int (v5 + (1 : Int32))), (4, .int (v4 ||| ((1 : Int32) <<< (v5 &&& 31)))), (0, .ref v0), (2, .int v2), (3, .int v3)]) dX11_reached_74 rfl (iincv ic_1) (Nat.le_of_ble_eq_true rfl) rfl ?_
        refine J.goto (pc := 77) (tgt := 32) dX11_reached_77 (by decide) ?_
        refine J.pick [2, 3, 4, 1, 0] rfl ?_
        exact ih v0 v2 v3 (v4 ||| ((1 : Int32) <<< (v5 &&& 31))) (v5 + (1 : Int32)) μ7 h hN9 k0
      · refine J.cge (pc := 60) (tgt := 70) dX11_reached_60 (by decide) (fun q => absurd q hc) (fun _ => ?_)
        refine J.iconst (pc := 70) dX11_reached_70 ic_0 ?_
        refine J.ior (pc := 71) dX11_reached_71 ?_
        refine J.istore (pc := 72) ([(4, .int (v4 ||| (0 : Int32))), (0, .ref v0), (2, .int v2), (3, .int v3), (5, .int v5)]) dX11_reached_72 (Nat.le_of_ble_eq_true rfl) rfl ?_
        refine J.iinc (pc := 74) (j := 4) ([(5, .int (v5 + (1 : Int32))), (4, .int (v4 ||| (0 : Int32))), (0, .ref v0), (2, .int v2), (3, .int v3)]) dX11_reached_74 rfl (iincv ic_1) (Nat.le_of_ble_eq_true rfl) rfl ?_
        refine J.goto (pc := 77) (tgt := 32) dX11_reached_77 (by decide) ?_
        refine J.pick [2, 3, 4, 1, 0] rfl ?_
        exact ih v0 v2 v3 (v4 ||| (0 : Int32)) (v5 + (1 : Int32)) μ7 h hN9 k0
    · refine J.cge (pc := 40) (tgt := 80) dX11_reached_40 (by decide) (fun q => absurd q hc) (fun _ => ?_)
      refine J.iload (pc := 80) dX11_reached_80 3 rfl ?_
      cases h
      exact J.iret (pc := 82) dX11_reached_82 rfl ⟨rfl, rfl, hN, trivial⟩
def fX11_reached (v0 : Nat) (v1 : Int32) (v2 : Int32) (μ : Mem) : Option (Int32 × Mem) :=
  (some (sI μ v0 0 (0 : Int32))).bind fun μ1 =>
  (fX11_placeOf v0 v1 μ1).bind fun (r6, μ5) =>
  if r6 = (-1 : Int32) then
    some ((0 : Int32), μ5)
  else
    (fX11_isDeed v0 v2 μ5).bind fun (r11, μ10) =>
    if r11 = 0 then
      some ((0 : Int32), μ10)
    else
      (fX11_reached_32 fuel) v0 v2 r6 (0 : Int32) (0 : Int32) μ10
set_option maxHeartbeats 4000000 in
theorem tX11_reached {ω : Wd} {l : Launch} (d : Nat) {v0 : Nat} {v1 : Int32} {v2 : Int32} {μ : Mem} {res : Int32 × Mem} (h : fX11_reached v0 v1 v2 μ = some res) (hN : μ.1 = NN) (k0 : (kd v0).1 = 21) : Ct ω l mX11_reached (d + 3) [.ref v0, .int v1, .int v2] μ 0 0 (PE (.inl (some (.int res.1))) res.2 True) := by
  refine Ct.of pn_RX11 (Nat.le_of_ble_eq_true rfl) ?_
  show J ω l mX11_reached (d + 3) 0 [(0, .ref v0), (1, .int v1), (2, .int v2)] [] μ 0 0 _
  unfold fX11_reached at h
  refine J.aload_n (pc := 0) dX11_reached_0 rfl 0 rfl ?_
  refine J.iconst (pc := 1) dX11_reached_1 ic_0 ?_
  obtain ⟨μ1, e2, h⟩ := bnd h
  have hN3 : μ1.1 = NN := smN e2 hN
  refine J.qI (pc := 2) dX11_reached_2 fl_RX11_99 k0 (okN hN k0 (by decide)) rfl rfl e2 ?_
  refine J.aload_n (pc := 5) dX11_reached_5 rfl 0 rfl ?_
  refine J.iload_n (pc := 6) dX11_reached_6 rfl 1 rfl ?_
  obtain ⟨⟨r6, μ5⟩, e4, h⟩ := bnd h
  try dsimp only at h
  refine J.callV (Y := mX11_reached) (Z := mX11_placeOf) (pc := 7) (st := []) (k2 := 0) (n2 := 0) dX11_reached_7 ml_RX11_380 mo_X11_placeOf mv_X11_placeOf rfl (tX11_placeOf (d + 1) e4 hN3 k0) k0 (okN hN3 k0 (by decide)).1 (okN hN3 k0 (by decide)).2 cq_11 (by decide) rfl rfl (Nat.le_of_ble_eq_true rfl) (by decide) (by decide) (fun v ν hp => ?_) (fun i ν hp => nrm hp.1)
  obtain ⟨rfl, rfl, hN7, hb8⟩ := QEl hp
  show J _ _ _ _ 10 _ ([.int r6]) _ _ _ _
  refine J.istore_n (pc := 10) ([(3, .int r6), (0, .ref v0), (1, .int v1), (2, .int v2)]) dX11_reached_10 rfl (Nat.le_of_ble_eq_true rfl) rfl ?_
  refine J.iload_n (pc := 11) dX11_reached_11 rfl 0 rfl ?_
  refine J.iconst (pc := 12) dX11_reached_12 ic_m1 ?_
  rcases ifc h with ⟨hc, h⟩ | ⟨hc, h⟩
  · refine J.ceq (pc := 13) (tgt := 24) dX11_reached_13 (by decide) (fun _ => ?_) (fun q => absurd hc q)
    refine J.iconst (pc := 24) dX11_reached_24 ic_0 ?_
    cases h
    exact J.iret (pc := 25) dX11_reached_25 rfl ⟨rfl, rfl, hN7, trivial⟩
  · refine J.ceq (pc := 13) (tgt := 24) dX11_reached_13 (by decide) (fun q => absurd q hc) (fun _ => ?_)
    refine J.aload_n (pc := 16) dX11_reached_16 rfl 1 rfl ?_
    refine J.iload_n (pc := 17) dX11_reached_17 rfl 3 rfl ?_
    obtain ⟨⟨r11, μ10⟩, e9, h⟩ := bnd h
    try dsimp only at h
    refine J.callV (Y := mX11_reached) (Z := mX11_isDeed) (pc := 18) (st := []) (k2 := 0) (n2 := 0) dX11_reached_18 ml_RX11_362 mo_X11_isDeed mv_X11_isDeed rfl (tX11_isDeed (d + 1) e9 hN7 k0) k0 (okN hN7 k0 (by decide)).1 (okN hN7 k0 (by decide)).2 cq_11 (by decide) rfl rfl (Nat.le_of_ble_eq_true rfl) (by decide) (by decide) (fun v ν hp => ?_) (fun i ν hp => nrm hp.1)
    obtain ⟨rfl, rfl, hN12, hb13⟩ := QEl hp
    show J _ _ _ _ 21 _ ([.int r11]) _ _ _ _
    rcases ifc h with ⟨hc, h⟩ | ⟨hc, h⟩
    · refine J.zne (pc := 21) (tgt := 26) dX11_reached_21 (by decide) (fun _ => ?_) (fun q => absurd hc q)
      refine J.iconst (pc := 24) dX11_reached_24 ic_0 ?_
      cases h
      exact J.iret (pc := 25) dX11_reached_25 rfl ⟨rfl, rfl, hN12, trivial⟩
    · refine J.zne (pc := 21) (tgt := 26) dX11_reached_21 (by decide) (fun q => absurd q hc) (fun _ => ?_)
      refine J.iconst (pc := 26) dX11_reached_26 ic_0 ?_
      refine J.istore (pc := 27) ([(4, .int (0 : Int32)), (3, .int r6), (0, .ref v0), (1, .int v1), (2, .int v2)]) dX11_reached_27 (Nat.le_of_ble_eq_true rfl) rfl ?_
      refine J.iconst (pc := 29) dX11_reached_29 ic_0 ?_
      refine J.istore (pc := 30) ([(5, .int (0 : Int32)), (4, .int (0 : Int32)), (3, .int r6), (0, .ref v0), (1, .int v1), (2, .int v2)]) dX11_reached_30 (Nat.le_of_ble_eq_true rfl) rfl ?_
      refine J.pick [3, 5, 2, 1, 0] rfl ?_
      exact (tX11_reached_32 d fuel) v0 v2 r6 (0 : Int32) (0 : Int32) μ10 h hN12 k0
def fX11_restore_32  : Nat → Nat → Int32 → Mem → Option (Int32 × Mem)
  | 0, _, _, _ => none
  | n + 1, v0, v1, μ =>
    if v1 < (79 : Int32) then
      (gR μ v0 34 0).bind fun a1 =>
      (gR μ v0 57 0).bind fun a4 =>
      (ldI μ a4 v1).bind fun x7 =>
      (stI μ a1 v1 x7).bind fun μ9 =>
      (fX11_restore_32 n) v0 (v1 + (1 : Int32)) μ9
    else
      (gR μ v0 58 0).bind fun a12 =>
      (gR μ v0 35 0).bind fun a15 =>
      (fX11_copies v0 a12 a15 μ).bind fun μ19 =>
      (gR μ19 v0 59 0).bind fun a22 =>
      (gR μ19 v0 50 0).bind fun a25 =>
      (fX11_copies v0 a22 a25 μ19).bind fun μ29 =>
      some ((1 : Int32), μ29)
set_option maxHeartbeats 4000000 in
theorem tX11_restore_32 {ω : Wd} {l : Launch} (d : Nat) {res : Int32 × Mem} : ∀ n : Nat, ∀ (v0 : Nat) (v1 : Int32) (μ : Mem), fX11_restore_32 n v0 v1 μ = some res → μ.1 = NN → (kd v0).1 = 21 → J ω l mX11_restore (d + 1) 32 [(0, .ref v0), (1, .int v1)] [] μ 0 0 (PE (.inl (some (.int res.1))) res.2 (isB res.1)) := by
  intro n
  induction n with
  | zero =>
    intro v0 v1 μ h hN k0
    have h9 : (none : Option (Int32 × Mem)) = some res := h
    cases h9
  | succ n ih =>
    intro v0 v1 μ h hN k0
    unfold fX11_restore_32 at h
    refine J.iload_n (pc := 32) dX11_restore_32 rfl 1 rfl ?_
    refine J.bipush (pc := 33) dX11_restore_33 ib_79 ?_
    rcases ifc h with ⟨hc, h⟩ | ⟨hc, h⟩
    · refine J.cge (pc := 35) (tgt := 56) dX11_restore_35 (by decide) (fun _ => ?_) (fun q => absurd hc q)
      refine J.aload_n (pc := 38) dX11_restore_38 rfl 0 rfl ?_
      obtain ⟨a1, e2, h⟩ := bnd h
      have k3 : (kd a1).1 = 0 := gR_k e2
      refine J.fR (pc := 39) dX11_restore_39 fl_RX11_48 k0 (okN hN k0 (by decide)) rfl e2 ?_
      refine J.iload_n (pc := 42) dX11_restore_42 rfl 1 rfl ?_
      refine J.aload_n (pc := 43) dX11_restore_43 rfl 0 rfl ?_
      obtain ⟨a4, e5, h⟩ := bnd h
      have k6 : (kd a4).1 = 0 := gR_k e5
      refine J.fR (pc := 44) dX11_restore_44 fl_RX11_90 k0 (okN hN k0 (by decide)) rfl e5 ?_
      refine J.iload_n (pc := 47) dX11_restore_47 rfl 1 rfl ?_
      obtain ⟨x7, e8, h⟩ := bnd h
      refine J.aI (pc := 48) dX11_restore_48 k6 (okN hN k6 (by decide)) e8 ?_
      obtain ⟨μ9, e10, h⟩ := bnd h
      have hN11 : μ9.1 = NN := stI_N e10 hN
      refine J.wI (pc := 49) dX11_restore_49 k3 (okN hN k3 (by decide)) e10 ?_
      refine J.iinc (pc := 50) (j := 1) ([(1, .int (v1 + (1 : Int32))), (0, .ref v0)]) dX11_restore_50 rfl (iincv ic_1) (Nat.le_of_ble_eq_true rfl) rfl ?_
      refine J.goto (pc := 53) (tgt := 32) dX11_restore_53 (by decide) ?_
      refine J.pick [1, 0] rfl ?_
      exact ih v0 (v1 + (1 : Int32)) μ9 h hN11 k0
    · refine J.cge (pc := 35) (tgt := 56) dX11_restore_35 (by decide) (fun q => absurd q hc) (fun _ => ?_)
      refine J.aload_n (pc := 56) dX11_restore_56 rfl 0 rfl ?_
      refine J.aload_n (pc := 57) dX11_restore_57 rfl 0 rfl ?_
      obtain ⟨a12, e13, h⟩ := bnd h
      have k14 : (kd a12).1 = 0 := gR_k e13
      refine J.fR (pc := 58) dX11_restore_58 fl_RX11_93 k0 (okN hN k0 (by decide)) rfl e13 ?_
      refine J.aload_n (pc := 61) dX11_restore_61 rfl 0 rfl ?_
      obtain ⟨a15, e16, h⟩ := bnd h
      have k17 : (kd a15).1 = 0 := gR_k e16
      refine J.fR (pc := 62) dX11_restore_62 fl_RX11_51 k0 (okN hN k0 (by decide)) rfl e16 ?_
      obtain ⟨μ19, e18, h⟩ := bnd h
      refine J.callV (Y := mX11_restore) (Z := mX11_copies) (pc := 65) (st := []) (k2 := 0) (n2 := 0) dX11_restore_65 ml_RX11_279 mo_X11_copies mv_X11_copies rfl (tX11_copies d e18 hN k0 k14 k17) k0 (okN hN k0 (by decide)).1 (okN hN k0 (by decide)).2 cq_11 (by decide) rfl rfl (Nat.le_of_ble_eq_true rfl) (by decide) (by decide) (fun v ν hp => ?_) (fun i ν hp => nrm hp.1)
      obtain ⟨rfl, rfl, hN20, hb21⟩ := QEl hp
      show J _ _ _ _ 68 _ ([]) _ _ _ _
      refine J.aload_n (pc := 68) dX11_restore_68 rfl 0 rfl ?_
      refine J.aload_n (pc := 69) dX11_restore_69 rfl 0 rfl ?_
      obtain ⟨a22, e23, h⟩ := bnd h
      have k24 : (kd a22).1 = 0 := gR_k e23
      refine J.fR (pc := 70) dX11_restore_70 fl_RX11_96 k0 (okN hN20 k0 (by decide)) rfl e23 ?_
      refine J.aload_n (pc := 73) dX11_restore_73 rfl 0 rfl ?_
      obtain ⟨a25, e26, h⟩ := bnd h
      have k27 : (kd a25).1 = 0 := gR_k e26
      refine J.fR (pc := 74) dX11_restore_74 fl_RX11_81 k0 (okN hN20 k0 (by decide)) rfl e26 ?_
      obtain ⟨μ29, e28, h⟩ := bnd h
      refine J.callV (Y := mX11_restore) (Z := mX11_copies) (pc := 77) (st := []) (k2 := 0) (n2 := 0) dX11_restore_77 ml_RX11_279 mo_X11_copies mv_X11_copies rfl (tX11_copies d e28 hN20 k0 k24 k27) k0 (okN hN20 k0 (by decide)).1 (okN hN20 k0 (by decide)).2 cq_11 (by decide) rfl rfl (Nat.le_of_ble_eq_true rfl) (by decide) (by decide) (fun v ν hp => ?_) (fun i ν hp => nrm hp.1)
      obtain ⟨rfl, rfl, hN30, hb31⟩ := QEl hp
      show J _ _ _ _ 80 _ ([]) _ _ _ _
      refine J.iconst (pc := 80) dX11_restore_80 ic_1 ?_
      cases h
      exact J.zret (pc := 81) dX11_restore_81 rfl (narB (Or.inr rfl)) ⟨rfl, rfl, hN30, (Or.inr rfl)⟩
def fX11_restore (v0 : Nat) (μ : Mem) : Option (Int32 × Mem) :=
  (some (sI μ v0 0 (0 : Int32))).bind fun μ1 =>
  if (μ1.2.1 v0 54) = 0 then
    some ((0 : Int32), μ1)
  else
    (some (sI μ1 v0 36 (μ1.2.1 v0 55))).bind fun μ4 =>
    (some (sI μ4 v0 49 (μ4.2.1 v0 56))).bind fun μ7 =>
    (fX11_restore_32 fuel) v0 (0 : Int32) μ7
set_option maxHeartbeats 4000000 in
theorem tX11_restore {ω : Wd} {l : Launch} (d : Nat) {v0 : Nat} {μ : Mem} {res : Int32 × Mem} (h : fX11_restore v0 μ = some res) (hN : μ.1 = NN) (k0 : (kd v0).1 = 21) : Ct ω l mX11_restore (d + 1) [.ref v0] μ 0 0 (PE (.inl (some (.int res.1))) res.2 (isB res.1)) := by
  refine Ct.of pn_RX11 (Nat.le_of_ble_eq_true rfl) ?_
  show J ω l mX11_restore (d + 1) 0 [(0, .ref v0)] [] μ 0 0 _
  unfold fX11_restore at h
  refine J.aload_n (pc := 0) dX11_restore_0 rfl 0 rfl ?_
  refine J.iconst (pc := 1) dX11_restore_1 ic_0 ?_
  obtain ⟨μ1, e2, h⟩ := bnd h
  have hN3 : μ1.1 = NN := smN e2 hN
  refine J.qI (pc := 2) dX11_restore_2 fl_RX11_99 k0 (okN hN k0 (by decide)) rfl rfl e2 ?_
  refine J.aload_n (pc := 5) dX11_restore_5 rfl 0 rfl ?_
  refine J.fI (pc := 6) dX11_restore_6 fl_RX11_289 k0 (okN hN3 k0 (by decide)) (Or.inr rfl) ?_
  rcases ifc h with ⟨hc, h⟩ | ⟨hc, h⟩
  · refine J.zne (pc := 9) (tgt := 14) dX11_restore_9 (by decide) (fun _ => ?_) (fun q => absurd hc q)
    refine J.iconst (pc := 12) dX11_restore_12 ic_0 ?_
    cases h
    exact J.zret (pc := 13) dX11_restore_13 rfl (narB (Or.inl rfl)) ⟨rfl, rfl, hN3, (Or.inl rfl)⟩
  · refine J.zne (pc := 9) (tgt := 14) dX11_restore_9 (by decide) (fun q => absurd q hc) (fun _ => ?_)
    refine J.aload_n (pc := 14) dX11_restore_14 rfl 0 rfl ?_
    refine J.aload_n (pc := 15) dX11_restore_15 rfl 0 rfl ?_
    refine J.fI (pc := 16) dX11_restore_16 fl_RX11_445 k0 (okN hN3 k0 (by decide)) (Or.inl rfl) ?_
    obtain ⟨μ4, e5, h⟩ := bnd h
    have hN6 : μ4.1 = NN := smN e5 hN3
    refine J.qI (pc := 19) dX11_restore_19 fl_RX11_283 k0 (okN hN3 k0 (by decide)) rfl rfl e5 ?_
    refine J.aload_n (pc := 22) dX11_restore_22 rfl 0 rfl ?_
    refine J.aload_n (pc := 23) dX11_restore_23 rfl 0 rfl ?_
    refine J.fI (pc := 24) dX11_restore_24 fl_RX11_448 k0 (okN hN6 k0 (by decide)) (Or.inl rfl) ?_
    obtain ⟨μ7, e8, h⟩ := bnd h
    have hN9 : μ7.1 = NN := smN e8 hN6
    refine J.qI (pc := 27) dX11_restore_27 fl_RX11_286 k0 (okN hN6 k0 (by decide)) rfl rfl e8 ?_
    refine J.iconst (pc := 30) dX11_restore_30 ic_0 ?_
    refine J.istore_n (pc := 31) ([(1, .int (0 : Int32)), (0, .ref v0)]) dX11_restore_31 rfl (Nat.le_of_ble_eq_true rfl) rfl ?_
    refine J.pick [1, 0] rfl ?_
    exact (tX11_restore_32 d fuel) v0 (0 : Int32) μ7 h hN9 k0
def fX11_see (v0 : Nat) (v1 : Int32) (v2 : Int32) (v3 : Int32) (μ : Mem) : Option (Int32 × Mem) :=
  (some (sI μ v0 0 (0 : Int32))).bind fun μ1 =>
  (fX11_isPerson v0 v1 μ1).bind fun (r6, μ5) =>
  if r6 = 0 then
    some ((0 : Int32), μ5)
  else
    (fX11_isDeed v0 v2 μ5).bind fun (r11, μ10) =>
    if r11 = 0 then
      some ((0 : Int32), μ10)
    else
      if (μ10.2.1 v0 49) = (8 : Int32) then
        (fX11_refuses v0 (2 : Int32) μ10).bind fun (r16, μ15) =>
        some (r16, μ15)
      else
        if (fX11_within v3 (0 : Int32) (20 : Int32)) = 0 then
          (fX11_refuses v0 (2 : Int32) μ10).bind fun (r24, μ23) =>
          some (r24, μ23)
        else
          (gR μ10 v0 50 0).bind fun a27 =>
          (stI μ10 a27 ((3 : Int32) * (μ10.2.1 v0 49)) v1).bind fun μ30 =>
          (gR μ30 v0 50 0).bind fun a33 =>
          (stI μ30 a33 (((3 : Int32) * (μ30.2.1 v0 49)) + (1 : Int32)) v2).bind fun μ36 =>
          (gR μ36 v0 50 0).bind fun a39 =>
          (stI μ36 a39 (((3 : Int32) * (μ36.2.1 v0 49)) + (2 : Int32)) v3).bind fun μ42 =>
          (some (sI μ42 v0 49 ((μ42.2.1 v0 49) + (1 : Int32)))).bind fun μ45 =>
          some ((μ45.2.1 v0 49), μ45)
set_option maxHeartbeats 4000000 in
theorem tX11_see {ω : Wd} {l : Launch} (d : Nat) {v0 : Nat} {v1 : Int32} {v2 : Int32} {v3 : Int32} {μ : Mem} {res : Int32 × Mem} (h : fX11_see v0 v1 v2 v3 μ = some res) (hN : μ.1 = NN) (k0 : (kd v0).1 = 21) : Ct ω l mX11_see (d + 2) [.ref v0, .int v1, .int v2, .int v3] μ 0 0 (PE (.inl (some (.int res.1))) res.2 True) := by
  refine Ct.of pn_RX11 (Nat.le_of_ble_eq_true rfl) ?_
  show J ω l mX11_see (d + 2) 0 [(0, .ref v0), (1, .int v1), (2, .int v2), (3, .int v3)] [] μ 0 0 _
  unfold fX11_see at h
  refine J.aload_n (pc := 0) dX11_see_0 rfl 0 rfl ?_
  refine J.iconst (pc := 1) dX11_see_1 ic_0 ?_
  obtain ⟨μ1, e2, h⟩ := bnd h
  have hN3 : μ1.1 = NN := smN e2 hN
  refine J.qI (pc := 2) dX11_see_2 fl_RX11_99 k0 (okN hN k0 (by decide)) rfl rfl e2 ?_
  refine J.aload_n (pc := 5) dX11_see_5 rfl 0 rfl ?_
  refine J.iload_n (pc := 6) dX11_see_6 rfl 1 rfl ?_
  obtain ⟨⟨r6, μ5⟩, e4, h⟩ := bnd h
  try dsimp only at h
  refine J.callV (Y := mX11_see) (Z := mX11_isPerson) (pc := 7) (st := []) (k2 := 0) (n2 := 0) dX11_see_7 ml_RX11_368 mo_X11_isPerson mv_X11_isPerson rfl (tX11_isPerson d e4 hN3 k0) k0 (okN hN3 k0 (by decide)).1 (okN hN3 k0 (by decide)).2 cq_11 (by decide) rfl rfl (Nat.le_of_ble_eq_true rfl) (by decide) (by decide) (fun v ν hp => ?_) (fun i ν hp => nrm hp.1)
  obtain ⟨rfl, rfl, hN7, hb8⟩ := QEl hp
  show J _ _ _ _ 10 _ ([.int r6]) _ _ _ _
  rcases ifc h with ⟨hc, h⟩ | ⟨hc, h⟩
  · refine J.zeq (pc := 10) (tgt := 21) dX11_see_10 (by decide) (fun _ => ?_) (fun q => absurd hc q)
    refine J.iconst (pc := 21) dX11_see_21 ic_0 ?_
    cases h
    exact J.iret (pc := 22) dX11_see_22 rfl ⟨rfl, rfl, hN7, trivial⟩
  · refine J.zeq (pc := 10) (tgt := 21) dX11_see_10 (by decide) (fun q => absurd q hc) (fun _ => ?_)
    refine J.aload_n (pc := 13) dX11_see_13 rfl 0 rfl ?_
    refine J.iload_n (pc := 14) dX11_see_14 rfl 2 rfl ?_
    obtain ⟨⟨r11, μ10⟩, e9, h⟩ := bnd h
    try dsimp only at h
    refine J.callV (Y := mX11_see) (Z := mX11_isDeed) (pc := 15) (st := []) (k2 := 0) (n2 := 0) dX11_see_15 ml_RX11_362 mo_X11_isDeed mv_X11_isDeed rfl (tX11_isDeed d e9 hN7 k0) k0 (okN hN7 k0 (by decide)).1 (okN hN7 k0 (by decide)).2 cq_11 (by decide) rfl rfl (Nat.le_of_ble_eq_true rfl) (by decide) (by decide) (fun v ν hp => ?_) (fun i ν hp => nrm hp.1)
    obtain ⟨rfl, rfl, hN12, hb13⟩ := QEl hp
    show J _ _ _ _ 18 _ ([.int r11]) _ _ _ _
    rcases ifc h with ⟨hc, h⟩ | ⟨hc, h⟩
    · refine J.zne (pc := 18) (tgt := 23) dX11_see_18 (by decide) (fun _ => ?_) (fun q => absurd hc q)
      refine J.iconst (pc := 21) dX11_see_21 ic_0 ?_
      cases h
      exact J.iret (pc := 22) dX11_see_22 rfl ⟨rfl, rfl, hN12, trivial⟩
    · refine J.zne (pc := 18) (tgt := 23) dX11_see_18 (by decide) (fun q => absurd q hc) (fun _ => ?_)
      refine J.aload_n (pc := 23) dX11_see_23 rfl 0 rfl ?_
      refine J.fI (pc := 24) dX11_see_24 fl_RX11_286 k0 (okN hN12 k0 (by decide)) (Or.inl rfl) ?_
      refine J.bipush (pc := 27) dX11_see_27 ib_8 ?_
      rcases ifc h with ⟨hc, h⟩ | ⟨hc, h⟩
      · refine J.ceq (pc := 29) (tgt := 42) dX11_see_29 (by decide) (fun _ => ?_) (fun q => absurd hc q)
        refine J.aload_n (pc := 42) dX11_see_42 rfl 0 rfl ?_
        refine J.iconst (pc := 43) dX11_see_43 ic_2 ?_
        obtain ⟨⟨r16, μ15⟩, e14, h⟩ := bnd h
        try dsimp only at h
        refine J.callV (Y := mX11_see) (Z := mX11_refuses) (pc := 44) (st := []) (k2 := 0) (n2 := 0) dX11_see_44 ml_RX11_383 mo_X11_refuses mv_X11_refuses rfl (tX11_refuses (d + 1) e14 hN12 k0) k0 (okN hN12 k0 (by decide)).1 (okN hN12 k0 (by decide)).2 cq_11 (by decide) rfl rfl (Nat.le_of_ble_eq_true rfl) (by decide) (by decide) (fun v ν hp => ?_) (fun i ν hp => nrm hp.1)
        obtain ⟨rfl, rfl, hN17, hb18⟩ := QEl hp
        show J _ _ _ _ 47 _ ([.int r16]) _ _ _ _
        cases h
        exact J.iret (pc := 47) dX11_see_47 rfl ⟨rfl, rfl, hN17, trivial⟩
      · refine J.ceq (pc := 29) (tgt := 42) dX11_see_29 (by decide) (fun q => absurd q hc) (fun _ => ?_)
        refine J.iload_n (pc := 32) dX11_see_32 rfl 3 rfl ?_
        refine J.iconst (pc := 33) dX11_see_33 ic_0 ?_
        refine J.bipush (pc := 34) dX11_see_34 ib_20 ?_
        refine J.callS (Y := mX11_see) (Z := mX11_within) (pc := 36) (st := []) (k2 := 0) (n2 := 0) dX11_see_36 ml_RX11_344 mo_X11_within ms_X11_within rfl (tX11_within (d + 1) v3 (0 : Int32) (20 : Int32) μ10 hN12 ) rfl rfl (Nat.le_of_ble_eq_true rfl) (by decide) (by decide) (fun v ν hp => ?_) (fun i ν hp => nrm hp.1)
        obtain ⟨rfl, rfl, hN20, hb21⟩ := QEl hp
        show J _ _ _ _ 39 _ ([.int (fX11_within v3 (0 : Int32) (20 : Int32))]) _ _ _ _
        rcases ifc h with ⟨hc, h⟩ | ⟨hc, h⟩
        · refine J.zne (pc := 39) (tgt := 48) dX11_see_39 (by decide) (fun _ => ?_) (fun q => absurd hc q)
          refine J.aload_n (pc := 42) dX11_see_42 rfl 0 rfl ?_
          refine J.iconst (pc := 43) dX11_see_43 ic_2 ?_
          obtain ⟨⟨r24, μ23⟩, e22, h⟩ := bnd h
          try dsimp only at h
          refine J.callV (Y := mX11_see) (Z := mX11_refuses) (pc := 44) (st := []) (k2 := 0) (n2 := 0) dX11_see_44 ml_RX11_383 mo_X11_refuses mv_X11_refuses rfl (tX11_refuses (d + 1) e22 hN20 k0) k0 (okN hN20 k0 (by decide)).1 (okN hN20 k0 (by decide)).2 cq_11 (by decide) rfl rfl (Nat.le_of_ble_eq_true rfl) (by decide) (by decide) (fun v ν hp => ?_) (fun i ν hp => nrm hp.1)
          obtain ⟨rfl, rfl, hN25, hb26⟩ := QEl hp
          show J _ _ _ _ 47 _ ([.int r24]) _ _ _ _
          cases h
          exact J.iret (pc := 47) dX11_see_47 rfl ⟨rfl, rfl, hN25, trivial⟩
        · refine J.zne (pc := 39) (tgt := 48) dX11_see_39 (by decide) (fun q => absurd q hc) (fun _ => ?_)
          refine J.aload_n (pc := 48) dX11_see_48 rfl 0 rfl ?_
          obtain ⟨a27, e28, h⟩ := bnd h
          have k29 : (kd a27).1 = 0 := gR_k e28
          refine J.fR (pc := 49) dX11_see_49 fl_RX11_81 k0 (okN hN20 k0 (by decide)) rfl e28 ?_
          refine J.iconst (pc := 52) dX11_see_52 ic_3 ?_
          refine J.aload_n (pc := 53) dX11_see_53 rfl 0 rfl ?_
          refine J.fI (pc := 54) dX11_see_54 fl_RX11_286 k0 (okN hN20 k0 (by decide)) (Or.inl rfl) ?_
          refine J.imul (pc := 57) dX11_see_57 ?_
          refine J.iload_n (pc := 58) dX11_see_58 rfl 1 rfl ?_
          obtain ⟨μ30, e31, h⟩ := bnd h
          have hN32 : μ30.1 = NN := stI_N e31 hN20
          refine J.wI (pc := 59) dX11_see_59 k29 (okN hN20 k29 (by decide)) e31 ?_
          refine J.aload_n (pc := 60) dX11_see_60 rfl 0 rfl ?_
          obtain ⟨a33, e34, h⟩ := bnd h
          have k35 : (kd a33).1 = 0 := gR_k e34
          refine J.fR (pc := 61) dX11_see_61 fl_RX11_81 k0 (okN hN32 k0 (by decide)) rfl e34 ?_
          refine J.iconst (pc := 64) dX11_see_64 ic_3 ?_
          refine J.aload_n (pc := 65) dX11_see_65 rfl 0 rfl ?_
          refine J.fI (pc := 66) dX11_see_66 fl_RX11_286 k0 (okN hN32 k0 (by decide)) (Or.inl rfl) ?_
          refine J.imul (pc := 69) dX11_see_69 ?_
          refine J.iconst (pc := 70) dX11_see_70 ic_1 ?_
          refine J.iadd (pc := 71) dX11_see_71 ?_
          refine J.iload_n (pc := 72) dX11_see_72 rfl 2 rfl ?_
          obtain ⟨μ36, e37, h⟩ := bnd h
          have hN38 : μ36.1 = NN := stI_N e37 hN32
          refine J.wI (pc := 73) dX11_see_73 k35 (okN hN32 k35 (by decide)) e37 ?_
          refine J.aload_n (pc := 74) dX11_see_74 rfl 0 rfl ?_
          obtain ⟨a39, e40, h⟩ := bnd h
          have k41 : (kd a39).1 = 0 := gR_k e40
          refine J.fR (pc := 75) dX11_see_75 fl_RX11_81 k0 (okN hN38 k0 (by decide)) rfl e40 ?_
          refine J.iconst (pc := 78) dX11_see_78 ic_3 ?_
          refine J.aload_n (pc := 79) dX11_see_79 rfl 0 rfl ?_
          refine J.fI (pc := 80) dX11_see_80 fl_RX11_286 k0 (okN hN38 k0 (by decide)) (Or.inl rfl) ?_
          refine J.imul (pc := 83) dX11_see_83 ?_
          refine J.iconst (pc := 84) dX11_see_84 ic_2 ?_
          refine J.iadd (pc := 85) dX11_see_85 ?_
          refine J.iload_n (pc := 86) dX11_see_86 rfl 3 rfl ?_
          obtain ⟨μ42, e43, h⟩ := bnd h
          have hN44 : μ42.1 = NN := stI_N e43 hN38
          refine J.wI (pc := 87) dX11_see_87 k41 (okN hN38 k41 (by decide)) e43 ?_
          refine J.aload_n (pc := 88) dX11_see_88 rfl 0 rfl ?_
          refine J.dup (pc := 89) dX11_see_89 rfl ?_
          refine J.fI (pc := 90) dX11_see_90 fl_RX11_286 k0 (okN hN44 k0 (by decide)) (Or.inl rfl) ?_
          refine J.iconst (pc := 93) dX11_see_93 ic_1 ?_
          refine J.iadd (pc := 94) dX11_see_94 ?_
          obtain ⟨μ45, e46, h⟩ := bnd h
          have hN47 : μ45.1 = NN := smN e46 hN44
          refine J.qI (pc := 95) dX11_see_95 fl_RX11_286 k0 (okN hN44 k0 (by decide)) rfl rfl e46 ?_
          refine J.aload_n (pc := 98) dX11_see_98 rfl 0 rfl ?_
          refine J.fI (pc := 99) dX11_see_99 fl_RX11_286 k0 (okN hN47 k0 (by decide)) (Or.inl rfl) ?_
          cases h
          exact J.iret (pc := 102) dX11_see_102 rfl ⟨rfl, rfl, hN47, trivial⟩
