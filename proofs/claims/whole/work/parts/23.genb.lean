def fX11_stepFrom_5 (μ : Mem) : Nat → Nat → Int32 → Int32 → Int32 → Int32 → Option (Int32)
  | 0, _, _, _, _, _ => none
  | n + 1, v0, v1, v2, v3, v4 =>
    if v4 < (4 : Int32) then
      (fX11_beside v0 v1 v2 v4 μ).bind fun r2 =>
      if r2 = (-1 : Int32) then
        (fX11_stepFrom_5 μ n) v0 v1 v2 v3 (v4 + (1 : Int32))
      else
        (fX11_isWhite v0 v1 r2 μ).bind fun r6 =>
        if r6 = 0 then
          (fX11_stepFrom_5 μ n) v0 v1 v2 v3 (v4 + (1 : Int32))
        else
          (gR μ v0 39 0).bind fun a9 =>
          (ldI μ a9 r2).bind fun x12 =>
          (gR μ v0 39 0).bind fun a14 =>
          (ldI μ a14 v2).bind fun x17 =>
          if x12 = (x17 - (1 : Int32)) then
            if v3 = (-1 : Int32) then
              (fX11_stepFrom_5 μ n) v0 v1 v2 r2 (v4 + (1 : Int32))
            else
              if r2 < v3 then
                (fX11_stepFrom_5 μ n) v0 v1 v2 r2 (v4 + (1 : Int32))
              else
                (fX11_stepFrom_5 μ n) v0 v1 v2 v3 (v4 + (1 : Int32))
          else
            (fX11_stepFrom_5 μ n) v0 v1 v2 v3 (v4 + (1 : Int32))
    else
      some v3
set_option maxHeartbeats 4000000 in
theorem tX11_stepFrom_5 {ω : Wd} {l : Launch} (d : Nat) {μ : Mem} (hN : μ.1 = NN) {res : Int32} : ∀ n : Nat, ∀ (v0 : Nat) (v1 : Int32) (v2 : Int32) (v3 : Int32) (v4 : Int32), fX11_stepFrom_5 μ n v0 v1 v2 v3 v4 = some res → (kd v0).1 = 21 → J ω l mX11_stepFrom (d + 1) 5 [(0, .ref v0), (1, .int v1), (2, .int v2), (3, .int v3), (4, .int v4)] [] μ 0 0 (PE (.inl (some (.int res))) μ True) := by
  intro n
  induction n with
  | zero =>
    intro v0 v1 v2 v3 v4 h k0
    have h9 : (none : Option (Int32)) = some res := h
    cases h9
  | succ n ih =>
    intro v0 v1 v2 v3 v4 h k0
    unfold fX11_stepFrom_5 at h
    refine J.iload (pc := 5) dX11_stepFrom_5 4 rfl ?_
    refine J.iconst (pc := 7) dX11_stepFrom_7 ic_4 ?_
    rcases ifc h with ⟨hc, h⟩ | ⟨hc, h⟩
    · refine J.cge (pc := 8) (tgt := 75) dX11_stepFrom_8 (by decide) (fun _ => ?_) (fun q => absurd hc q)
      refine J.aload_n (pc := 11) dX11_stepFrom_11 rfl 0 rfl ?_
      refine J.iload_n (pc := 12) dX11_stepFrom_12 rfl 1 rfl ?_
      refine J.iload_n (pc := 13) dX11_stepFrom_13 rfl 2 rfl ?_
      refine J.iload (pc := 14) dX11_stepFrom_14 4 rfl ?_
      obtain ⟨r2, e1, h⟩ := bnd h
      refine J.callV (Y := mX11_stepFrom) (Z := mX11_beside) (pc := 16) (st := []) (k2 := 0) (n2 := 0) dX11_stepFrom_16 ml_RX11_301 mo_X11_beside mv_X11_beside rfl (tX11_beside d e1 hN k0) k0 (okN hN k0 (by decide)).1 (okN hN k0 (by decide)).2 cq_11 (by decide) rfl rfl (Nat.le_of_ble_eq_true rfl) (by decide) (by decide) (fun v ν hp => ?_) (fun i ν hp => nrm hp.1)
      obtain ⟨rfl, rfl, hN3, hb4⟩ := QEl hp
      show J _ _ _ _ 19 _ ([.int r2]) _ _ _ _
      refine J.istore (pc := 19) ([(5, .int r2), (0, .ref v0), (1, .int v1), (2, .int v2), (3, .int v3), (4, .int v4)]) dX11_stepFrom_19 (Nat.le_of_ble_eq_true rfl) rfl ?_
      refine J.iload (pc := 21) dX11_stepFrom_21 0 rfl ?_
      refine J.iconst (pc := 23) dX11_stepFrom_23 ic_m1 ?_
      rcases ifc h with ⟨hc, h⟩ | ⟨hc, h⟩
      · refine J.ceq (pc := 24) (tgt := 69) dX11_stepFrom_24 (by decide) (fun _ => ?_) (fun q => absurd hc q)
        refine J.iinc (pc := 69) (j := 5) ([(4, .int (v4 + (1 : Int32))), (5, .int r2), (0, .ref v0), (1, .int v1), (2, .int v2), (3, .int v3)]) dX11_stepFrom_69 rfl (iincv ic_1) (Nat.le_of_ble_eq_true rfl) rfl ?_
        refine J.goto (pc := 72) (tgt := 5) dX11_stepFrom_72 (by decide) ?_
        refine J.pick [2, 3, 4, 5, 0] rfl ?_
        exact ih v0 v1 v2 v3 (v4 + (1 : Int32)) h k0
      · refine J.ceq (pc := 24) (tgt := 69) dX11_stepFrom_24 (by decide) (fun q => absurd q hc) (fun _ => ?_)
        refine J.aload_n (pc := 27) dX11_stepFrom_27 rfl 1 rfl ?_
        refine J.iload_n (pc := 28) dX11_stepFrom_28 rfl 2 rfl ?_
        refine J.iload (pc := 29) dX11_stepFrom_29 0 rfl ?_
        obtain ⟨r6, e5, h⟩ := bnd h
        refine J.callV (Y := mX11_stepFrom) (Z := mX11_isWhite) (pc := 31) (st := []) (k2 := 0) (n2 := 0) dX11_stepFrom_31 ml_RX11_297 mo_X11_isWhite mv_X11_isWhite rfl (tX11_isWhite d e5 hN3 k0) k0 (okN hN3 k0 (by decide)).1 (okN hN3 k0 (by decide)).2 cq_11 (by decide) rfl rfl (Nat.le_of_ble_eq_true rfl) (by decide) (by decide) (fun v ν hp => ?_) (fun i ν hp => nrm hp.1)
        obtain ⟨rfl, rfl, hN7, hb8⟩ := QEl hp
        show J _ _ _ _ 34 _ ([.int r6]) _ _ _ _
        rcases ifc h with ⟨hc, h⟩ | ⟨hc, h⟩
        · refine J.zeq (pc := 34) (tgt := 69) dX11_stepFrom_34 (by decide) (fun _ => ?_) (fun q => absurd hc q)
          refine J.iinc (pc := 69) (j := 5) ([(4, .int (v4 + (1 : Int32))), (5, .int r2), (0, .ref v0), (1, .int v1), (2, .int v2), (3, .int v3)]) dX11_stepFrom_69 rfl (iincv ic_1) (Nat.le_of_ble_eq_true rfl) rfl ?_
          refine J.goto (pc := 72) (tgt := 5) dX11_stepFrom_72 (by decide) ?_
          refine J.pick [2, 3, 4, 5, 0] rfl ?_
          exact ih v0 v1 v2 v3 (v4 + (1 : Int32)) h k0
        · refine J.zeq (pc := 34) (tgt := 69) dX11_stepFrom_34 (by decide) (fun q => absurd q hc) (fun _ => ?_)
          refine J.aload_n (pc := 37) dX11_stepFrom_37 rfl 1 rfl ?_
          obtain ⟨a9, e10, h⟩ := bnd h
          have k11 : (kd a9).1 = 0 := gR_k e10
          refine J.fR (pc := 38) dX11_stepFrom_38 fl_RX11_60 k0 (okN hN7 k0 (by decide)) rfl e10 ?_
          refine J.iload (pc := 41) dX11_stepFrom_41 0 rfl ?_
          obtain ⟨x12, e13, h⟩ := bnd h
          refine J.aI (pc := 43) dX11_stepFrom_43 k11 (okN hN7 k11 (by decide)) e13 ?_
          refine J.aload_n (pc := 44) dX11_stepFrom_44 rfl 1 rfl ?_
          obtain ⟨a14, e15, h⟩ := bnd h
          have k16 : (kd a14).1 = 0 := gR_k e15
          refine J.fR (pc := 45) dX11_stepFrom_45 fl_RX11_60 k0 (okN hN7 k0 (by decide)) rfl e15 ?_
          refine J.iload_n (pc := 48) dX11_stepFrom_48 rfl 3 rfl ?_
          obtain ⟨x17, e18, h⟩ := bnd h
          refine J.aI (pc := 49) dX11_stepFrom_49 k16 (okN hN7 k16 (by decide)) e18 ?_
          refine J.iconst (pc := 50) dX11_stepFrom_50 ic_1 ?_
          refine J.isub (pc := 51) dX11_stepFrom_51 ?_
          rcases ifc h with ⟨hc, h⟩ | ⟨hc, h⟩
          · refine J.cne (pc := 52) (tgt := 69) dX11_stepFrom_52 (by decide) (fun _ => ?_) (fun q => absurd hc q)
            refine J.iload_n (pc := 55) dX11_stepFrom_55 rfl 4 rfl ?_
            refine J.iconst (pc := 56) dX11_stepFrom_56 ic_m1 ?_
            rcases ifc h with ⟨hc, h⟩ | ⟨hc, h⟩
            · refine J.ceq (pc := 57) (tgt := 66) dX11_stepFrom_57 (by decide) (fun _ => ?_) (fun q => absurd hc q)
              refine J.iload (pc := 66) dX11_stepFrom_66 0 rfl ?_
              refine J.istore_n (pc := 68) ([(3, .int r2), (5, .int r2), (0, .ref v0), (1, .int v1), (2, .int v2), (4, .int v4)]) dX11_stepFrom_68 rfl (Nat.le_of_ble_eq_true rfl) rfl ?_
              refine J.iinc (pc := 69) (j := 5) ([(4, .int (v4 + (1 : Int32))), (3, .int r2), (5, .int r2), (0, .ref v0), (1, .int v1), (2, .int v2)]) dX11_stepFrom_69 rfl (iincv ic_1) (Nat.le_of_ble_eq_true rfl) rfl ?_
              refine J.goto (pc := 72) (tgt := 5) dX11_stepFrom_72 (by decide) ?_
              refine J.pick [3, 4, 5, 1, 0] rfl ?_
              exact ih v0 v1 v2 r2 (v4 + (1 : Int32)) h k0
            · refine J.ceq (pc := 57) (tgt := 66) dX11_stepFrom_57 (by decide) (fun q => absurd q hc) (fun _ => ?_)
              refine J.iload (pc := 60) dX11_stepFrom_60 0 rfl ?_
              refine J.iload_n (pc := 62) dX11_stepFrom_62 rfl 4 rfl ?_
              rcases ifc h with ⟨hc, h⟩ | ⟨hc, h⟩
              · refine J.cge (pc := 63) (tgt := 69) dX11_stepFrom_63 (by decide) (fun _ => ?_) (fun q => absurd hc q)
                refine J.iload (pc := 66) dX11_stepFrom_66 0 rfl ?_
                refine J.istore_n (pc := 68) ([(3, .int r2), (5, .int r2), (0, .ref v0), (1, .int v1), (2, .int v2), (4, .int v4)]) dX11_stepFrom_68 rfl (Nat.le_of_ble_eq_true rfl) rfl ?_
                refine J.iinc (pc := 69) (j := 5) ([(4, .int (v4 + (1 : Int32))), (3, .int r2), (5, .int r2), (0, .ref v0), (1, .int v1), (2, .int v2)]) dX11_stepFrom_69 rfl (iincv ic_1) (Nat.le_of_ble_eq_true rfl) rfl ?_
                refine J.goto (pc := 72) (tgt := 5) dX11_stepFrom_72 (by decide) ?_
                refine J.pick [3, 4, 5, 1, 0] rfl ?_
                exact ih v0 v1 v2 r2 (v4 + (1 : Int32)) h k0
              · refine J.cge (pc := 63) (tgt := 69) dX11_stepFrom_63 (by decide) (fun q => absurd q hc) (fun _ => ?_)
                refine J.iinc (pc := 69) (j := 5) ([(4, .int (v4 + (1 : Int32))), (5, .int r2), (0, .ref v0), (1, .int v1), (2, .int v2), (3, .int v3)]) dX11_stepFrom_69 rfl (iincv ic_1) (Nat.le_of_ble_eq_true rfl) rfl ?_
                refine J.goto (pc := 72) (tgt := 5) dX11_stepFrom_72 (by decide) ?_
                refine J.pick [2, 3, 4, 5, 0] rfl ?_
                exact ih v0 v1 v2 v3 (v4 + (1 : Int32)) h k0
          · refine J.cne (pc := 52) (tgt := 69) dX11_stepFrom_52 (by decide) (fun q => absurd q hc) (fun _ => ?_)
            refine J.iinc (pc := 69) (j := 5) ([(4, .int (v4 + (1 : Int32))), (5, .int r2), (0, .ref v0), (1, .int v1), (2, .int v2), (3, .int v3)]) dX11_stepFrom_69 rfl (iincv ic_1) (Nat.le_of_ble_eq_true rfl) rfl ?_
            refine J.goto (pc := 72) (tgt := 5) dX11_stepFrom_72 (by decide) ?_
            refine J.pick [2, 3, 4, 5, 0] rfl ?_
            exact ih v0 v1 v2 v3 (v4 + (1 : Int32)) h k0
    · refine J.cge (pc := 8) (tgt := 75) dX11_stepFrom_8 (by decide) (fun q => absurd q hc) (fun _ => ?_)
      refine J.iload_n (pc := 75) dX11_stepFrom_75 rfl 3 rfl ?_
      cases h
      exact J.iret (pc := 76) dX11_stepFrom_76 rfl ⟨rfl, rfl, hN, trivial⟩
def fX11_stepFrom (v0 : Nat) (v1 : Int32) (v2 : Int32) (μ : Mem) : Option (Int32) :=
  (fX11_stepFrom_5 μ fuel) v0 v1 v2 (-1 : Int32) (0 : Int32)
set_option maxHeartbeats 4000000 in
theorem tX11_stepFrom {ω : Wd} {l : Launch} (d : Nat) {v0 : Nat} {v1 : Int32} {v2 : Int32} {μ : Mem} {res : Int32} (h : fX11_stepFrom v0 v1 v2 μ = some res) (hN : μ.1 = NN) (k0 : (kd v0).1 = 21) : Ct ω l mX11_stepFrom (d + 1) [.ref v0, .int v1, .int v2] μ 0 0 (PE (.inl (some (.int res))) μ True) := by
  refine Ct.of pn_RX11 (Nat.le_of_ble_eq_true rfl) ?_
  show J ω l mX11_stepFrom (d + 1) 0 [(0, .ref v0), (1, .int v1), (2, .int v2)] [] μ 0 0 _
  unfold fX11_stepFrom at h
  refine J.iconst (pc := 0) dX11_stepFrom_0 ic_m1 ?_
  refine J.istore_n (pc := 1) ([(3, .int (-1 : Int32)), (0, .ref v0), (1, .int v1), (2, .int v2)]) dX11_stepFrom_1 rfl (Nat.le_of_ble_eq_true rfl) rfl ?_
  refine J.iconst (pc := 2) dX11_stepFrom_2 ic_0 ?_
  refine J.istore (pc := 3) ([(4, .int (0 : Int32)), (3, .int (-1 : Int32)), (0, .ref v0), (1, .int v1), (2, .int v2)]) dX11_stepFrom_3 (Nat.le_of_ble_eq_true rfl) rfl ?_
  refine J.pick [2, 3, 4, 1, 0] rfl ?_
  exact (tX11_stepFrom_5 d hN fuel) v0 v1 v2 (-1 : Int32) (0 : Int32) h k0
def fX11_walks_115  (K39 : Nat → Int32 → Int32 → Int32 → Int32 → Mem → Option (Mem)) (v0 : Nat) (v1 : Int32) (v2 : Int32) (v3 : Int32) (v5 : Int32) (μ : Mem) : Option (Mem) :=
  if (0 : Int32) = 0 then
    K39 v0 v1 v2 v3 (0 : Int32) μ
  else
    (gR μ v0 34 0).bind fun a1 =>
    (fX11_stepFrom v0 v1 v5 μ).bind fun r5 =>
    (stI μ a1 ((v1 + (55 : Int32)) + v2) r5).bind fun μ8 =>
    (gR μ8 v0 44 0).bind fun a11 =>
    (ldI μ8 a11 v2).bind fun x14 =>
    (stI μ8 a11 v2 (x14 + (1 : Int32))).bind fun μ16 =>
    K39 v0 v1 v2 v3 (0 : Int32) μ16
set_option maxHeartbeats 4000000 in
theorem tX11_walks_115 {ω : Wd} {l : Launch} (d : Nat) {res : Mem} (K39 : Nat → Int32 → Int32 → Int32 → Int32 → Mem → Option (Mem)) (hK39 : ∀ (v0 : Nat) (v1 : Int32) (v2 : Int32) (v3 : Int32) (v4 : Int32) (μ : Mem), K39 v0 v1 v2 v3 v4 μ = some res → μ.1 = NN → (kd v0).1 = 21 → J ω l mX11_walks (d + 3) 39 [(0, .ref v0), (1, .int v1), (2, .int v2), (3, .int v3), (4, .int v4)] [] μ 0 0 (PE (.inl none) res True)) : ∀ (v0 : Nat) (v1 : Int32) (v2 : Int32) (v3 : Int32) (v5 : Int32) (μ : Mem), fX11_walks_115 K39 v0 v1 v2 v3 v5 μ = some res → μ.1 = NN → (kd v0).1 = 21 → J ω l mX11_walks (d + 3) 115 [(0, .ref v0), (1, .int v1), (2, .int v2), (3, .int v3), (5, .int v5)] [] μ 0 0 (PE (.inl none) res True) := by
  intro v0 v1 v2 v3 v5 μ h hN k0
  unfold fX11_walks_115 at h
  refine J.iconst (pc := 115) dX11_walks_115 ic_0 ?_
  refine J.istore (pc := 116) ([(4, .int (0 : Int32)), (0, .ref v0), (1, .int v1), (2, .int v2), (3, .int v3), (5, .int v5)]) dX11_walks_116 (Nat.le_of_ble_eq_true rfl) rfl ?_
  refine J.iload (pc := 118) dX11_walks_118 0 rfl ?_
  rcases ifc h with ⟨hc, h⟩ | ⟨hc, h⟩
  · refine J.zne (pc := 120) (tgt := 126) dX11_walks_120 (by decide) (fun _ => ?_) (fun q => absurd hc q)
    refine J.goto (pc := 123) (tgt := 39) dX11_walks_123 (by decide) ?_
    refine J.pick [1, 2, 3, 4, 0] rfl ?_
    exact hK39 v0 v1 v2 v3 (0 : Int32) μ h hN k0
  · refine J.zne (pc := 120) (tgt := 126) dX11_walks_120 (by decide) (fun q => absurd q hc) (fun _ => ?_)
    refine J.aload_n (pc := 126) dX11_walks_126 rfl 1 rfl ?_
    obtain ⟨a1, e2, h⟩ := bnd h
    have k3 : (kd a1).1 = 0 := gR_k e2
    refine J.fR (pc := 127) dX11_walks_127 fl_RX11_48 k0 (okN hN k0 (by decide)) rfl e2 ?_
    refine J.iload_n (pc := 130) dX11_walks_130 rfl 2 rfl ?_
    refine J.bipush (pc := 131) dX11_walks_131 ib_55 ?_
    refine J.iadd (pc := 133) dX11_walks_133 ?_
    refine J.iload_n (pc := 134) dX11_walks_134 rfl 3 rfl ?_
    refine J.iadd (pc := 135) dX11_walks_135 ?_
    refine J.aload_n (pc := 136) dX11_walks_136 rfl 1 rfl ?_
    refine J.iload_n (pc := 137) dX11_walks_137 rfl 2 rfl ?_
    refine J.iload (pc := 138) dX11_walks_138 5 rfl ?_
    obtain ⟨r5, e4, h⟩ := bnd h
    refine J.callV (Y := mX11_walks) (Z := mX11_stepFrom) (pc := 140) (st := [.int ((v1 + (55 : Int32)) + v2), .ref a1]) (k2 := 0) (n2 := 0) dX11_walks_140 ml_RX11_320 mo_X11_stepFrom mv_X11_stepFrom rfl (tX11_stepFrom (d + 1) e4 hN k0) k0 (okN hN k0 (by decide)).1 (okN hN k0 (by decide)).2 cq_11 (by decide) rfl rfl (Nat.le_of_ble_eq_true rfl) (by decide) (by decide) (fun v ν hp => ?_) (fun i ν hp => nrm hp.1)
    obtain ⟨rfl, rfl, hN6, hb7⟩ := QEl hp
    show J _ _ _ _ 143 _ ([.int r5, .int ((v1 + (55 : Int32)) + v2), .ref a1]) _ _ _ _
    obtain ⟨μ8, e9, h⟩ := bnd h
    have hN10 : μ8.1 = NN := stI_N e9 hN6
    refine J.wI (pc := 143) dX11_walks_143 k3 (okN hN6 k3 (by decide)) e9 ?_
    refine J.aload_n (pc := 144) dX11_walks_144 rfl 1 rfl ?_
    obtain ⟨a11, e12, h⟩ := bnd h
    have k13 : (kd a11).1 = 0 := gR_k e12
    refine J.fR (pc := 145) dX11_walks_145 fl_RX11_69 k0 (okN hN10 k0 (by decide)) rfl e12 ?_
    refine J.iload_n (pc := 148) dX11_walks_148 rfl 3 rfl ?_
    refine J.dup2 (pc := 149) dX11_walks_149 rfl rfl ?_
    obtain ⟨x14, e15, h⟩ := bnd h
    refine J.aI (pc := 150) dX11_walks_150 k13 (okN hN10 k13 (by decide)) e15 ?_
    refine J.iconst (pc := 151) dX11_walks_151 ic_1 ?_
    refine J.iadd (pc := 152) dX11_walks_152 ?_
    obtain ⟨μ16, e17, h⟩ := bnd h
    have hN18 : μ16.1 = NN := stI_N e17 hN10
    refine J.wI (pc := 153) dX11_walks_153 k13 (okN hN10 k13 (by decide)) e17 ?_
    refine J.goto (pc := 154) (tgt := 39) dX11_walks_154 (by decide) ?_
    refine J.pick [1, 2, 3, 4, 0] rfl ?_
    exact hK39 v0 v1 v2 v3 (0 : Int32) μ16 h hN18 k0
def fX11_walks_39  : Nat → Nat → Int32 → Int32 → Int32 → Int32 → Mem → Option (Mem)
  | 0, _, _, _, _, _, _ => none
  | n + 1, v0, v1, v2, v3, v4, μ =>
    if v4 = 0 then
      (gR μ v0 34 0).bind fun a1 =>
      (ldI μ a1 ((v1 + (55 : Int32)) + v2)).bind fun x4 =>
      if x4 = v3 then
        (gR μ v0 34 0).bind fun a6 =>
        (stI μ a6 ((v1 + (61 : Int32)) + v2) (-1 : Int32)).bind fun μ9 =>
        (some (sI μ9 v0 42 ((μ9.2.1 v0 42) ||| ((1 : Int32) <<< (v2 &&& 31))))).bind fun μ12 =>
        some μ12
      else
        some μ
    else
      (gR μ v0 34 0).bind fun a15 =>
      (ldI μ a15 ((v1 + (55 : Int32)) + v2)).bind fun x18 =>
      if x18 = v3 then
        (fX11_walks_115 (fX11_walks_39 n)) v0 v1 v2 v3 x18 μ
      else
        (gR μ v0 39 0).bind fun a20 =>
        (ldI μ a20 x18).bind fun x23 =>
        if x23 < (9999 : Int32) then
          (gR μ v0 44 0).bind fun a25 =>
          (ldI μ a25 v2).bind fun x28 =>
          (gR μ v0 34 0).bind fun a30 =>
          (ldI μ a30 ((v1 + (73 : Int32)) + v2)).bind fun x33 =>
          if x28 < x33 then
            (gR μ v0 44 0).bind fun a35 =>
            (ldI μ a35 v2).bind fun x38 =>
            (fX11_isGoing v0 v1 v2 x38 μ).bind fun (r42, μ41) =>
            if r42 = 0 then
              (fX11_walks_115 (fX11_walks_39 n)) v0 v1 v2 v3 x18 μ41
            else
              if (1 : Int32) = 0 then
                (fX11_walks_39 n) v0 v1 v2 v3 (1 : Int32) μ41
              else
                (gR μ41 v0 34 0).bind fun a45 =>
                (fX11_stepFrom v0 v1 x18 μ41).bind fun r49 =>
                (stI μ41 a45 ((v1 + (55 : Int32)) + v2) r49).bind fun μ52 =>
                (gR μ52 v0 44 0).bind fun a55 =>
                (ldI μ52 a55 v2).bind fun x58 =>
                (stI μ52 a55 v2 (x58 + (1 : Int32))).bind fun μ60 =>
                (fX11_walks_39 n) v0 v1 v2 v3 (1 : Int32) μ60
          else
            (fX11_walks_115 (fX11_walks_39 n)) v0 v1 v2 v3 x18 μ
        else
          (fX11_walks_115 (fX11_walks_39 n)) v0 v1 v2 v3 x18 μ
set_option maxHeartbeats 4000000 in
theorem tX11_walks_39 {ω : Wd} {l : Launch} (d : Nat) {res : Mem} : ∀ n : Nat, ∀ (v0 : Nat) (v1 : Int32) (v2 : Int32) (v3 : Int32) (v4 : Int32) (μ : Mem), fX11_walks_39 n v0 v1 v2 v3 v4 μ = some res → μ.1 = NN → (kd v0).1 = 21 → J ω l mX11_walks (d + 3) 39 [(0, .ref v0), (1, .int v1), (2, .int v2), (3, .int v3), (4, .int v4)] [] μ 0 0 (PE (.inl none) res True) := by
  intro n
  induction n with
  | zero =>
    intro v0 v1 v2 v3 v4 μ h hN k0
    have h9 : (none : Option (Mem)) = some res := h
    cases h9
  | succ n ih =>
    intro v0 v1 v2 v3 v4 μ h hN k0
    unfold fX11_walks_39 at h
    refine J.iload (pc := 39) dX11_walks_39 4 rfl ?_
    rcases ifc h with ⟨hc, h⟩ | ⟨hc, h⟩
    · refine J.zeq (pc := 41) (tgt := 157) dX11_walks_41 (by decide) (fun _ => ?_) (fun q => absurd hc q)
      refine J.aload_n (pc := 157) dX11_walks_157 rfl 0 rfl ?_
      obtain ⟨a1, e2, h⟩ := bnd h
      have k3 : (kd a1).1 = 0 := gR_k e2
      refine J.fR (pc := 158) dX11_walks_158 fl_RX11_48 k0 (okN hN k0 (by decide)) rfl e2 ?_
      refine J.iload_n (pc := 161) dX11_walks_161 rfl 1 rfl ?_
      refine J.bipush (pc := 162) dX11_walks_162 ib_55 ?_
      refine J.iadd (pc := 164) dX11_walks_164 ?_
      refine J.iload_n (pc := 165) dX11_walks_165 rfl 2 rfl ?_
      refine J.iadd (pc := 166) dX11_walks_166 ?_
      obtain ⟨x4, e5, h⟩ := bnd h
      refine J.aI (pc := 167) dX11_walks_167 k3 (okN hN k3 (by decide)) e5 ?_
      refine J.iload_n (pc := 168) dX11_walks_168 rfl 3 rfl ?_
      rcases ifc h with ⟨hc, h⟩ | ⟨hc, h⟩
      · refine J.ceq (pc := 169) (tgt := 173) dX11_walks_169 (by decide) (fun _ => ?_) (fun q => absurd hc q)
        refine J.aload_n (pc := 173) dX11_walks_173 rfl 0 rfl ?_
        obtain ⟨a6, e7, h⟩ := bnd h
        have k8 : (kd a6).1 = 0 := gR_k e7
        refine J.fR (pc := 174) dX11_walks_174 fl_RX11_48 k0 (okN hN k0 (by decide)) rfl e7 ?_
        refine J.iload_n (pc := 177) dX11_walks_177 rfl 1 rfl ?_
        refine J.bipush (pc := 178) dX11_walks_178 ib_61 ?_
        refine J.iadd (pc := 180) dX11_walks_180 ?_
        refine J.iload_n (pc := 181) dX11_walks_181 rfl 2 rfl ?_
        refine J.iadd (pc := 182) dX11_walks_182 ?_
        refine J.iconst (pc := 183) dX11_walks_183 ic_m1 ?_
        obtain ⟨μ9, e10, h⟩ := bnd h
        have hN11 : μ9.1 = NN := stI_N e10 hN
        refine J.wI (pc := 184) dX11_walks_184 k8 (okN hN k8 (by decide)) e10 ?_
        refine J.aload_n (pc := 185) dX11_walks_185 rfl 0 rfl ?_
        refine J.dup (pc := 186) dX11_walks_186 rfl ?_
        refine J.fI (pc := 187) dX11_walks_187 fl_RX11_323 k0 (okN hN11 k0 (by decide)) (Or.inl rfl) ?_
        refine J.iconst (pc := 190) dX11_walks_190 ic_1 ?_
        refine J.iload_n (pc := 191) dX11_walks_191 rfl 2 rfl ?_
        refine J.ishl (pc := 192) dX11_walks_192 ?_
        refine J.ior (pc := 193) dX11_walks_193 ?_
        obtain ⟨μ12, e13, h⟩ := bnd h
        have hN14 : μ12.1 = NN := smN e13 hN11
        refine J.qI (pc := 194) dX11_walks_194 fl_RX11_323 k0 (okN hN11 k0 (by decide)) rfl rfl e13 ?_
        cases h
        exact J.vret (pc := 197) dX11_walks_197 rfl ⟨rfl, rfl, hN14, trivial⟩
      · refine J.ceq (pc := 169) (tgt := 173) dX11_walks_169 (by decide) (fun q => absurd q hc) (fun _ => ?_)
        cases h
        exact J.vret (pc := 172) dX11_walks_172 rfl ⟨rfl, rfl, hN, trivial⟩
    · refine J.zeq (pc := 41) (tgt := 157) dX11_walks_41 (by decide) (fun q => absurd q hc) (fun _ => ?_)
      refine J.aload_n (pc := 44) dX11_walks_44 rfl 0 rfl ?_
      obtain ⟨a15, e16, h⟩ := bnd h
      have k17 : (kd a15).1 = 0 := gR_k e16
      refine J.fR (pc := 45) dX11_walks_45 fl_RX11_48 k0 (okN hN k0 (by decide)) rfl e16 ?_
      refine J.iload_n (pc := 48) dX11_walks_48 rfl 1 rfl ?_
      refine J.bipush (pc := 49) dX11_walks_49 ib_55 ?_
      refine J.iadd (pc := 51) dX11_walks_51 ?_
      refine J.iload_n (pc := 52) dX11_walks_52 rfl 2 rfl ?_
      refine J.iadd (pc := 53) dX11_walks_53 ?_
      obtain ⟨x18, e19, h⟩ := bnd h
      refine J.aI (pc := 54) dX11_walks_54 k17 (okN hN k17 (by decide)) e19 ?_
      refine J.istore (pc := 55) ([(5, .int x18), (0, .ref v0), (1, .int v1), (2, .int v2), (3, .int v3), (4, .int v4)]) dX11_walks_55 (Nat.le_of_ble_eq_true rfl) rfl ?_
      refine J.iload (pc := 57) dX11_walks_57 0 rfl ?_
      refine J.iload_n (pc := 59) dX11_walks_59 rfl 4 rfl ?_
      rcases ifc h with ⟨hc, h⟩ | ⟨hc, h⟩
      · refine J.ceq (pc := 60) (tgt := 115) dX11_walks_60 (by decide) (fun _ => ?_) (fun q => absurd hc q)
        refine J.pick [1, 2, 3, 4, 0] rfl ?_
        exact (tX11_walks_115 d (fX11_walks_39 n) ih) v0 v1 v2 v3 x18 μ h hN k0
      · refine J.ceq (pc := 60) (tgt := 115) dX11_walks_60 (by decide) (fun q => absurd q hc) (fun _ => ?_)
        refine J.aload_n (pc := 63) dX11_walks_63 rfl 1 rfl ?_
        obtain ⟨a20, e21, h⟩ := bnd h
        have k22 : (kd a20).1 = 0 := gR_k e21
        refine J.fR (pc := 64) dX11_walks_64 fl_RX11_60 k0 (okN hN k0 (by decide)) rfl e21 ?_
        refine J.iload (pc := 67) dX11_walks_67 0 rfl ?_
        obtain ⟨x23, e24, h⟩ := bnd h
        refine J.aI (pc := 69) dX11_walks_69 k22 (okN hN k22 (by decide)) e24 ?_
        refine J.sipush (pc := 70) dX11_walks_70 is_9999 ?_
        rcases ifc h with ⟨hc, h⟩ | ⟨hc, h⟩
        · refine J.cge (pc := 73) (tgt := 115) dX11_walks_73 (by decide) (fun _ => ?_) (fun q => absurd hc q)
          refine J.aload_n (pc := 76) dX11_walks_76 rfl 1 rfl ?_
          obtain ⟨a25, e26, h⟩ := bnd h
          have k27 : (kd a25).1 = 0 := gR_k e26
          refine J.fR (pc := 77) dX11_walks_77 fl_RX11_69 k0 (okN hN k0 (by decide)) rfl e26 ?_
          refine J.iload_n (pc := 80) dX11_walks_80 rfl 3 rfl ?_
          obtain ⟨x28, e29, h⟩ := bnd h
          refine J.aI (pc := 81) dX11_walks_81 k27 (okN hN k27 (by decide)) e29 ?_
          refine J.aload_n (pc := 82) dX11_walks_82 rfl 1 rfl ?_
          obtain ⟨a30, e31, h⟩ := bnd h
          have k32 : (kd a30).1 = 0 := gR_k e31
          refine J.fR (pc := 83) dX11_walks_83 fl_RX11_48 k0 (okN hN k0 (by decide)) rfl e31 ?_
          refine J.iload_n (pc := 86) dX11_walks_86 rfl 2 rfl ?_
          refine J.bipush (pc := 87) dX11_walks_87 ib_73 ?_
          refine J.iadd (pc := 89) dX11_walks_89 ?_
          refine J.iload_n (pc := 90) dX11_walks_90 rfl 3 rfl ?_
          refine J.iadd (pc := 91) dX11_walks_91 ?_
          obtain ⟨x33, e34, h⟩ := bnd h
          refine J.aI (pc := 92) dX11_walks_92 k32 (okN hN k32 (by decide)) e34 ?_
          rcases ifc h with ⟨hc, h⟩ | ⟨hc, h⟩
          · refine J.cge (pc := 93) (tgt := 115) dX11_walks_93 (by decide) (fun _ => ?_) (fun q => absurd hc q)
            refine J.aload_n (pc := 96) dX11_walks_96 rfl 1 rfl ?_
            refine J.iload_n (pc := 97) dX11_walks_97 rfl 2 rfl ?_
            refine J.iload_n (pc := 98) dX11_walks_98 rfl 3 rfl ?_
            refine J.aload_n (pc := 99) dX11_walks_99 rfl 1 rfl ?_
            obtain ⟨a35, e36, h⟩ := bnd h
            have k37 : (kd a35).1 = 0 := gR_k e36
            refine J.fR (pc := 100) dX11_walks_100 fl_RX11_69 k0 (okN hN k0 (by decide)) rfl e36 ?_
            refine J.iload_n (pc := 103) dX11_walks_103 rfl 3 rfl ?_
            obtain ⟨x38, e39, h⟩ := bnd h
            refine J.aI (pc := 104) dX11_walks_104 k37 (okN hN k37 (by decide)) e39 ?_
            obtain ⟨⟨r42, μ41⟩, e40, h⟩ := bnd h
            try dsimp only at h
            refine J.callV (Y := mX11_walks) (Z := mX11_isGoing) (pc := 105) (st := []) (k2 := 0) (n2 := 0) dX11_walks_105 ml_RX11_316 mo_X11_isGoing mv_X11_isGoing rfl (tX11_isGoing d e40 hN k0) k0 (okN hN k0 (by decide)).1 (okN hN k0 (by decide)).2 cq_11 (by decide) rfl rfl (Nat.le_of_ble_eq_true rfl) (by decide) (by decide) (fun v ν hp => ?_) (fun i ν hp => nrm hp.1)
            obtain ⟨rfl, rfl, hN43, hb44⟩ := QEl hp
            show J _ _ _ _ 108 _ ([.int r42]) _ _ _ _
            rcases ifc h with ⟨hc, h⟩ | ⟨hc, h⟩
            · refine J.zeq (pc := 108) (tgt := 115) dX11_walks_108 (by decide) (fun _ => ?_) (fun q => absurd hc q)
              refine J.pick [1, 2, 3, 4, 0] rfl ?_
              exact (tX11_walks_115 d (fX11_walks_39 n) ih) v0 v1 v2 v3 x18 μ41 h hN43 k0
            · refine J.zeq (pc := 108) (tgt := 115) dX11_walks_108 (by decide) (fun q => absurd q hc) (fun _ => ?_)
              refine J.iconst (pc := 111) dX11_walks_111 ic_1 ?_
              refine J.goto (pc := 112) (tgt := 116) dX11_walks_112 (by decide) ?_
              refine J.istore (pc := 116) ([(4, .int (1 : Int32)), (5, .int x18), (0, .ref v0), (1, .int v1), (2, .int v2), (3, .int v3)]) dX11_walks_116 (Nat.le_of_ble_eq_true rfl) rfl ?_
              refine J.iload (pc := 118) dX11_walks_118 0 rfl ?_
              rcases ifc h with ⟨hc, h⟩ | ⟨hc, h⟩
              · refine J.zne (pc := 120) (tgt := 126) dX11_walks_120 (by decide) (fun _ => ?_) (fun q => absurd hc q)
                refine J.goto (pc := 123) (tgt := 39) dX11_walks_123 (by decide) ?_
                refine J.pick [2, 3, 4, 5, 0] rfl ?_
                exact ih v0 v1 v2 v3 (1 : Int32) μ41 h hN43 k0
              · refine J.zne (pc := 120) (tgt := 126) dX11_walks_120 (by decide) (fun q => absurd q hc) (fun _ => ?_)
                refine J.aload_n (pc := 126) dX11_walks_126 rfl 2 rfl ?_
                obtain ⟨a45, e46, h⟩ := bnd h
                have k47 : (kd a45).1 = 0 := gR_k e46
                refine J.fR (pc := 127) dX11_walks_127 fl_RX11_48 k0 (okN hN43 k0 (by decide)) rfl e46 ?_
                refine J.iload_n (pc := 130) dX11_walks_130 rfl 3 rfl ?_
                refine J.bipush (pc := 131) dX11_walks_131 ib_55 ?_
                refine J.iadd (pc := 133) dX11_walks_133 ?_
                refine J.iload_n (pc := 134) dX11_walks_134 rfl 4 rfl ?_
                refine J.iadd (pc := 135) dX11_walks_135 ?_
                refine J.aload_n (pc := 136) dX11_walks_136 rfl 2 rfl ?_
                refine J.iload_n (pc := 137) dX11_walks_137 rfl 3 rfl ?_
                refine J.iload (pc := 138) dX11_walks_138 1 rfl ?_
                obtain ⟨r49, e48, h⟩ := bnd h
                refine J.callV (Y := mX11_walks) (Z := mX11_stepFrom) (pc := 140) (st := [.int ((v1 + (55 : Int32)) + v2), .ref a45]) (k2 := 0) (n2 := 0) dX11_walks_140 ml_RX11_320 mo_X11_stepFrom mv_X11_stepFrom rfl (tX11_stepFrom (d + 1) e48 hN43 k0) k0 (okN hN43 k0 (by decide)).1 (okN hN43 k0 (by decide)).2 cq_11 (by decide) rfl rfl (Nat.le_of_ble_eq_true rfl) (by decide) (by decide) (fun v ν hp => ?_) (fun i ν hp => nrm hp.1)
                obtain ⟨rfl, rfl, hN50, hb51⟩ := QEl hp
                show J _ _ _ _ 143 _ ([.int r49, .int ((v1 + (55 : Int32)) + v2), .ref a45]) _ _ _ _
                obtain ⟨μ52, e53, h⟩ := bnd h
                have hN54 : μ52.1 = NN := stI_N e53 hN50
                refine J.wI (pc := 143) dX11_walks_143 k47 (okN hN50 k47 (by decide)) e53 ?_
                refine J.aload_n (pc := 144) dX11_walks_144 rfl 2 rfl ?_
                obtain ⟨a55, e56, h⟩ := bnd h
                have k57 : (kd a55).1 = 0 := gR_k e56
                refine J.fR (pc := 145) dX11_walks_145 fl_RX11_69 k0 (okN hN54 k0 (by decide)) rfl e56 ?_
                refine J.iload_n (pc := 148) dX11_walks_148 rfl 4 rfl ?_
                refine J.dup2 (pc := 149) dX11_walks_149 rfl rfl ?_
                obtain ⟨x58, e59, h⟩ := bnd h
                refine J.aI (pc := 150) dX11_walks_150 k57 (okN hN54 k57 (by decide)) e59 ?_
                refine J.iconst (pc := 151) dX11_walks_151 ic_1 ?_
                refine J.iadd (pc := 152) dX11_walks_152 ?_
                obtain ⟨μ60, e61, h⟩ := bnd h
                have hN62 : μ60.1 = NN := stI_N e61 hN54
                refine J.wI (pc := 153) dX11_walks_153 k57 (okN hN54 k57 (by decide)) e61 ?_
                refine J.goto (pc := 154) (tgt := 39) dX11_walks_154 (by decide) ?_
                refine J.pick [2, 3, 4, 5, 0] rfl ?_
                exact ih v0 v1 v2 v3 (1 : Int32) μ60 h hN62 k0
          · refine J.cge (pc := 93) (tgt := 115) dX11_walks_93 (by decide) (fun q => absurd q hc) (fun _ => ?_)
            refine J.pick [1, 2, 3, 4, 0] rfl ?_
            exact (tX11_walks_115 d (fX11_walks_39 n) ih) v0 v1 v2 v3 x18 μ h hN k0
        · refine J.cge (pc := 73) (tgt := 115) dX11_walks_73 (by decide) (fun q => absurd q hc) (fun _ => ?_)
          refine J.pick [1, 2, 3, 4, 0] rfl ?_
          exact (tX11_walks_115 d (fX11_walks_39 n) ih) v0 v1 v2 v3 x18 μ h hN k0
def fX11_walks (v0 : Nat) (v1 : Int32) (v2 : Int32) (μ : Mem) : Option (Mem) :=
  (gR μ v0 34 0).bind fun a1 =>
  (ldI μ a1 ((v1 + (61 : Int32)) + v2)).bind fun x4 =>
  if (μ.2.1 v0 45) = 0 then
    (fX11_laysFar v0 v1 x4 μ).bind fun μ7 =>
    if (μ7.2.1 v0 45) = 0 then
      (fX11_walks_39 fuel) v0 v1 v2 x4 (1 : Int32) μ7
    else
      (fX11_walks_39 fuel) v0 v1 v2 x4 (0 : Int32) μ7
  else
    if (μ.2.1 v0 45) = 0 then
      (fX11_walks_39 fuel) v0 v1 v2 x4 (1 : Int32) μ
    else
      (fX11_walks_39 fuel) v0 v1 v2 x4 (0 : Int32) μ
set_option maxHeartbeats 4000000 in
theorem tX11_walks {ω : Wd} {l : Launch} (d : Nat) {v0 : Nat} {v1 : Int32} {v2 : Int32} {μ : Mem} {res : Mem} (h : fX11_walks v0 v1 v2 μ = some res) (hN : μ.1 = NN) (k0 : (kd v0).1 = 21) : Ct ω l mX11_walks (d + 3) [.ref v0, .int v1, .int v2] μ 0 0 (PE (.inl none) res True) := by
  refine Ct.of pn_RX11 (Nat.le_of_ble_eq_true rfl) ?_
  show J ω l mX11_walks (d + 3) 0 [(0, .ref v0), (1, .int v1), (2, .int v2)] [] μ 0 0 _
  unfold fX11_walks at h
  refine J.aload_n (pc := 0) dX11_walks_0 rfl 0 rfl ?_
  obtain ⟨a1, e2, h⟩ := bnd h
  have k3 : (kd a1).1 = 0 := gR_k e2
  refine J.fR (pc := 1) dX11_walks_1 fl_RX11_48 k0 (okN hN k0 (by decide)) rfl e2 ?_
  refine J.iload_n (pc := 4) dX11_walks_4 rfl 1 rfl ?_
  refine J.bipush (pc := 5) dX11_walks_5 ib_61 ?_
  refine J.iadd (pc := 7) dX11_walks_7 ?_
  refine J.iload_n (pc := 8) dX11_walks_8 rfl 2 rfl ?_
  refine J.iadd (pc := 9) dX11_walks_9 ?_
  obtain ⟨x4, e5, h⟩ := bnd h
  refine J.aI (pc := 10) dX11_walks_10 k3 (okN hN k3 (by decide)) e5 ?_
  refine J.istore_n (pc := 11) ([(3, .int x4), (0, .ref v0), (1, .int v1), (2, .int v2)]) dX11_walks_11 rfl (Nat.le_of_ble_eq_true rfl) rfl ?_
  refine J.aload_n (pc := 12) dX11_walks_12 rfl 1 rfl ?_
  refine J.fI (pc := 13) dX11_walks_13 fl_RX11_310 k0 (okN hN k0 (by decide)) (Or.inr rfl) ?_
  rcases ifc h with ⟨hc, h⟩ | ⟨hc, h⟩
  · refine J.zne (pc := 16) (tgt := 25) dX11_walks_16 (by decide) (fun _ => ?_) (fun q => absurd hc q)
    refine J.aload_n (pc := 19) dX11_walks_19 rfl 1 rfl ?_
    refine J.iload_n (pc := 20) dX11_walks_20 rfl 2 rfl ?_
    refine J.iload_n (pc := 21) dX11_walks_21 rfl 0 rfl ?_
    obtain ⟨μ7, e6, h⟩ := bnd h
    refine J.callV (Y := mX11_walks) (Z := mX11_laysFar) (pc := 22) (st := []) (k2 := 0) (n2 := 0) dX11_walks_22 ml_RX11_313 mo_X11_laysFar mv_X11_laysFar rfl (tX11_laysFar (d + 1) e6 hN k0) k0 (okN hN k0 (by decide)).1 (okN hN k0 (by decide)).2 cq_11 (by decide) rfl rfl (Nat.le_of_ble_eq_true rfl) (by decide) (by decide) (fun v ν hp => ?_) (fun i ν hp => nrm hp.1)
    obtain ⟨rfl, rfl, hN8, hb9⟩ := QEl hp
    show J _ _ _ _ 25 _ ([]) _ _ _ _
    refine J.aload_n (pc := 25) dX11_walks_25 rfl 1 rfl ?_
    refine J.fI (pc := 26) dX11_walks_26 fl_RX11_310 k0 (okN hN8 k0 (by decide)) (Or.inr rfl) ?_
    rcases ifc h with ⟨hc, h⟩ | ⟨hc, h⟩
    · refine J.zne (pc := 29) (tgt := 36) dX11_walks_29 (by decide) (fun _ => ?_) (fun q => absurd hc q)
      refine J.iconst (pc := 32) dX11_walks_32 ic_1 ?_
      refine J.goto (pc := 33) (tgt := 37) dX11_walks_33 (by decide) ?_
      refine J.istore (pc := 37) ([(4, .int (1 : Int32)), (3, .int x4), (0, .ref v0), (1, .int v1), (2, .int v2)]) dX11_walks_37 (Nat.le_of_ble_eq_true rfl) rfl ?_
      refine J.pick [2, 3, 4, 1, 0] rfl ?_
      exact (tX11_walks_39 d fuel) v0 v1 v2 x4 (1 : Int32) μ7 h hN8 k0
    · refine J.zne (pc := 29) (tgt := 36) dX11_walks_29 (by decide) (fun q => absurd q hc) (fun _ => ?_)
      refine J.iconst (pc := 36) dX11_walks_36 ic_0 ?_
      refine J.istore (pc := 37) ([(4, .int (0 : Int32)), (3, .int x4), (0, .ref v0), (1, .int v1), (2, .int v2)]) dX11_walks_37 (Nat.le_of_ble_eq_true rfl) rfl ?_
      refine J.pick [2, 3, 4, 1, 0] rfl ?_
      exact (tX11_walks_39 d fuel) v0 v1 v2 x4 (0 : Int32) μ7 h hN8 k0
  · refine J.zne (pc := 16) (tgt := 25) dX11_walks_16 (by decide) (fun q => absurd q hc) (fun _ => ?_)
    refine J.aload_n (pc := 25) dX11_walks_25 rfl 1 rfl ?_
    refine J.fI (pc := 26) dX11_walks_26 fl_RX11_310 k0 (okN hN k0 (by decide)) (Or.inr rfl) ?_
    rcases ifc h with ⟨hc, h⟩ | ⟨hc, h⟩
    · refine J.zne (pc := 29) (tgt := 36) dX11_walks_29 (by decide) (fun _ => ?_) (fun q => absurd hc q)
      refine J.iconst (pc := 32) dX11_walks_32 ic_1 ?_
      refine J.goto (pc := 33) (tgt := 37) dX11_walks_33 (by decide) ?_
      refine J.istore (pc := 37) ([(4, .int (1 : Int32)), (3, .int x4), (0, .ref v0), (1, .int v1), (2, .int v2)]) dX11_walks_37 (Nat.le_of_ble_eq_true rfl) rfl ?_
      refine J.pick [2, 3, 4, 1, 0] rfl ?_
      exact (tX11_walks_39 d fuel) v0 v1 v2 x4 (1 : Int32) μ h hN k0
    · refine J.zne (pc := 29) (tgt := 36) dX11_walks_29 (by decide) (fun q => absurd q hc) (fun _ => ?_)
      refine J.iconst (pc := 36) dX11_walks_36 ic_0 ?_
      refine J.istore (pc := 37) ([(4, .int (0 : Int32)), (3, .int x4), (0, .ref v0), (1, .int v1), (2, .int v2)]) dX11_walks_37 (Nat.le_of_ble_eq_true rfl) rfl ?_
      refine J.pick [2, 3, 4, 1, 0] rfl ?_
      exact (tX11_walks_39 d fuel) v0 v1 v2 x4 (0 : Int32) μ h hN k0
def fX11_dayGoes_141  : Nat → Nat → Int32 → Int32 → Mem → Option (Mem)
  | 0, _, _, _, _ => none
  | n + 1, v0, v1, v2, μ =>
    if v2 < (48 : Int32) then
      (fX11_isThere v0 v2 μ).bind fun r2 =>
      if r2 = 0 then
        (fX11_dayGoes_141 n) v0 v1 (v2 + (1 : Int32)) μ
      else
        (gR μ v0 34 0).bind fun a5 =>
        (ldI μ a5 ((v1 + (1 : Int32)) + v2)).bind fun x8 =>
        if 0 < x8 then
          (gR μ v0 34 0).bind fun a10 =>
          (ldI μ a10 ((v1 + (1 : Int32)) + v2)).bind fun x13 =>
          (fX11_fadesBy v0 v1 v2 μ).bind fun (r17, μ16) =>
          (gR μ16 v0 34 0).bind fun a20 =>
          (ldI μ16 a20 ((v1 + (1 : Int32)) + v2)).bind fun x23 =>
          (stI μ16 a10 ((v1 + (1 : Int32)) + v2) (x13 - (fX11_bounded r17 (0 : Int32) x23))).bind fun μ28 =>
          (fX11_dayGoes_141 n) v0 v1 (v2 + (1 : Int32)) μ28
        else
          (fX11_dayGoes_141 n) v0 v1 (v2 + (1 : Int32)) μ
    else
      (gR μ v0 34 0).bind fun a31 =>
      (ldI μ a31 (v1 + (0 : Int32))).bind fun x34 =>
      (stI μ a31 (v1 + (0 : Int32)) (x34 + (1 : Int32))).bind fun μ36 =>
      some μ36
set_option maxHeartbeats 4000000 in
theorem tX11_dayGoes_141 {ω : Wd} {l : Launch} (d : Nat) {res : Mem} : ∀ n : Nat, ∀ (v0 : Nat) (v1 : Int32) (v2 : Int32) (μ : Mem), fX11_dayGoes_141 n v0 v1 v2 μ = some res → μ.1 = NN → (kd v0).1 = 21 → J ω l mX11_dayGoes (d + 4) 141 [(0, .ref v0), (1, .int v1), (2, .int v2)] [] μ 0 0 (PE (.inl none) res True) := by
  intro n
  induction n with
  | zero =>
    intro v0 v1 v2 μ h hN k0
    have h9 : (none : Option (Mem)) = some res := h
    cases h9
  | succ n ih =>
    intro v0 v1 v2 μ h hN k0
    unfold fX11_dayGoes_141 at h
    refine J.iload_n (pc := 141) dX11_dayGoes_141 rfl 2 rfl ?_
    refine J.bipush (pc := 142) dX11_dayGoes_142 ib_48 ?_
    rcases ifc h with ⟨hc, h⟩ | ⟨hc, h⟩
    · refine J.cge (pc := 144) (tgt := 207) dX11_dayGoes_144 (by decide) (fun _ => ?_) (fun q => absurd hc q)
      refine J.aload_n (pc := 147) dX11_dayGoes_147 rfl 0 rfl ?_
      refine J.iload_n (pc := 148) dX11_dayGoes_148 rfl 2 rfl ?_
      obtain ⟨r2, e1, h⟩ := bnd h
      refine J.callV (Y := mX11_dayGoes) (Z := mX11_isThere) (pc := 149) (st := []) (k2 := 0) (n2 := 0) dX11_dayGoes_149 ml_RX11_332 mo_X11_isThere mv_X11_isThere rfl (tX11_isThere (d + 3) e1 hN k0) k0 (okN hN k0 (by decide)).1 (okN hN k0 (by decide)).2 cq_11 (by decide) rfl rfl (Nat.le_of_ble_eq_true rfl) (by decide) (by decide) (fun v ν hp => ?_) (fun i ν hp => nrm hp.1)
      obtain ⟨rfl, rfl, hN3, hb4⟩ := QEl hp
      show J _ _ _ _ 152 _ ([.int r2]) _ _ _ _
      rcases ifc h with ⟨hc, h⟩ | ⟨hc, h⟩
      · refine J.zeq (pc := 152) (tgt := 201) dX11_dayGoes_152 (by decide) (fun _ => ?_) (fun q => absurd hc q)
        refine J.iinc (pc := 201) (j := 2) ([(2, .int (v2 + (1 : Int32))), (0, .ref v0), (1, .int v1)]) dX11_dayGoes_201 rfl (iincv ic_1) (Nat.le_of_ble_eq_true rfl) rfl ?_
        refine J.goto (pc := 204) (tgt := 141) dX11_dayGoes_204 (by decide) ?_
        refine J.pick [1, 2, 0] rfl ?_
        exact ih v0 v1 (v2 + (1 : Int32)) μ h hN3 k0
      · refine J.zeq (pc := 152) (tgt := 201) dX11_dayGoes_152 (by decide) (fun q => absurd q hc) (fun _ => ?_)
        refine J.aload_n (pc := 155) dX11_dayGoes_155 rfl 0 rfl ?_
        obtain ⟨a5, e6, h⟩ := bnd h
        have k7 : (kd a5).1 = 0 := gR_k e6
        refine J.fR (pc := 156) dX11_dayGoes_156 fl_RX11_48 k0 (okN hN3 k0 (by decide)) rfl e6 ?_
        refine J.iload_n (pc := 159) dX11_dayGoes_159 rfl 1 rfl ?_
        refine J.iconst (pc := 160) dX11_dayGoes_160 ic_1 ?_
        refine J.iadd (pc := 161) dX11_dayGoes_161 ?_
        refine J.iload_n (pc := 162) dX11_dayGoes_162 rfl 2 rfl ?_
        refine J.iadd (pc := 163) dX11_dayGoes_163 ?_
        obtain ⟨x8, e9, h⟩ := bnd h
        refine J.aI (pc := 164) dX11_dayGoes_164 k7 (okN hN3 k7 (by decide)) e9 ?_
        rcases ifc h with ⟨hc, h⟩ | ⟨hc, h⟩
        · refine J.zle (pc := 165) (tgt := 201) dX11_dayGoes_165 (by decide) (fun _ => ?_) (fun q => absurd hc q)
          refine J.aload_n (pc := 168) dX11_dayGoes_168 rfl 0 rfl ?_
          obtain ⟨a10, e11, h⟩ := bnd h
          have k12 : (kd a10).1 = 0 := gR_k e11
          refine J.fR (pc := 169) dX11_dayGoes_169 fl_RX11_48 k0 (okN hN3 k0 (by decide)) rfl e11 ?_
          refine J.iload_n (pc := 172) dX11_dayGoes_172 rfl 1 rfl ?_
          refine J.iconst (pc := 173) dX11_dayGoes_173 ic_1 ?_
          refine J.iadd (pc := 174) dX11_dayGoes_174 ?_
          refine J.iload_n (pc := 175) dX11_dayGoes_175 rfl 2 rfl ?_
          refine J.iadd (pc := 176) dX11_dayGoes_176 ?_
          refine J.dup2 (pc := 177) dX11_dayGoes_177 rfl rfl ?_
          obtain ⟨x13, e14, h⟩ := bnd h
          refine J.aI (pc := 178) dX11_dayGoes_178 k12 (okN hN3 k12 (by decide)) e14 ?_
          refine J.aload_n (pc := 179) dX11_dayGoes_179 rfl 0 rfl ?_
          refine J.iload_n (pc := 180) dX11_dayGoes_180 rfl 1 rfl ?_
          refine J.iload_n (pc := 181) dX11_dayGoes_181 rfl 2 rfl ?_
          obtain ⟨⟨r17, μ16⟩, e15, h⟩ := bnd h
          try dsimp only at h
          refine J.callV (Y := mX11_dayGoes) (Z := mX11_fadesBy) (pc := 182) (st := [.int x13, .int ((v1 + (1 : Int32)) + v2), .ref a10]) (k2 := 0) (n2 := 0) dX11_dayGoes_182 ml_RX11_335 mo_X11_fadesBy mv_X11_fadesBy rfl (tX11_fadesBy (d + 1) e15 hN3 k0) k0 (okN hN3 k0 (by decide)).1 (okN hN3 k0 (by decide)).2 cq_11 (by decide) rfl rfl (Nat.le_of_ble_eq_true rfl) (by decide) (by decide) (fun v ν hp => ?_) (fun i ν hp => nrm hp.1)
          obtain ⟨rfl, rfl, hN18, hb19⟩ := QEl hp
          show J _ _ _ _ 185 _ ([.int r17, .int x13, .int ((v1 + (1 : Int32)) + v2), .ref a10]) _ _ _ _
          refine J.iconst (pc := 185) dX11_dayGoes_185 ic_0 ?_
          refine J.aload_n (pc := 186) dX11_dayGoes_186 rfl 0 rfl ?_
          obtain ⟨a20, e21, h⟩ := bnd h
          have k22 : (kd a20).1 = 0 := gR_k e21
          refine J.fR (pc := 187) dX11_dayGoes_187 fl_RX11_48 k0 (okN hN18 k0 (by decide)) rfl e21 ?_
          refine J.iload_n (pc := 190) dX11_dayGoes_190 rfl 1 rfl ?_
          refine J.iconst (pc := 191) dX11_dayGoes_191 ic_1 ?_
          refine J.iadd (pc := 192) dX11_dayGoes_192 ?_
          refine J.iload_n (pc := 193) dX11_dayGoes_193 rfl 2 rfl ?_
          refine J.iadd (pc := 194) dX11_dayGoes_194 ?_
          obtain ⟨x23, e24, h⟩ := bnd h
          refine J.aI (pc := 195) dX11_dayGoes_195 k22 (okN hN18 k22 (by decide)) e24 ?_
          refine J.callS (Y := mX11_dayGoes) (Z := mX11_bounded) (pc := 196) (st := [.int x13, .int ((v1 + (1 : Int32)) + v2), .ref a10]) (k2 := 0) (n2 := 0) dX11_dayGoes_196 ml_RX11_338 mo_X11_bounded ms_X11_bounded rfl (tX11_bounded (d + 3) r17 (0 : Int32) x23 μ16 hN18 ) rfl rfl (Nat.le_of_ble_eq_true rfl) (by decide) (by decide) (fun v ν hp => ?_) (fun i ν hp => nrm hp.1)
          obtain ⟨rfl, rfl, hN26, hb27⟩ := QEl hp
          show J _ _ _ _ 199 _ ([.int (fX11_bounded r17 (0 : Int32) x23), .int x13, .int ((v1 + (1 : Int32)) + v2), .ref a10]) _ _ _ _
          refine J.isub (pc := 199) dX11_dayGoes_199 ?_
          obtain ⟨μ28, e29, h⟩ := bnd h
          have hN30 : μ28.1 = NN := stI_N e29 hN26
          refine J.wI (pc := 200) dX11_dayGoes_200 k12 (okN hN26 k12 (by decide)) e29 ?_
          refine J.iinc (pc := 201) (j := 2) ([(2, .int (v2 + (1 : Int32))), (0, .ref v0), (1, .int v1)]) dX11_dayGoes_201 rfl (iincv ic_1) (Nat.le_of_ble_eq_true rfl) rfl ?_
          refine J.goto (pc := 204) (tgt := 141) dX11_dayGoes_204 (by decide) ?_
          refine J.pick [1, 2, 0] rfl ?_
          exact ih v0 v1 (v2 + (1 : Int32)) μ28 h hN30 k0
        · refine J.zle (pc := 165) (tgt := 201) dX11_dayGoes_165 (by decide) (fun q => absurd q hc) (fun _ => ?_)
          refine J.iinc (pc := 201) (j := 2) ([(2, .int (v2 + (1 : Int32))), (0, .ref v0), (1, .int v1)]) dX11_dayGoes_201 rfl (iincv ic_1) (Nat.le_of_ble_eq_true rfl) rfl ?_
          refine J.goto (pc := 204) (tgt := 141) dX11_dayGoes_204 (by decide) ?_
          refine J.pick [1, 2, 0] rfl ?_
          exact ih v0 v1 (v2 + (1 : Int32)) μ h hN3 k0
    · refine J.cge (pc := 144) (tgt := 207) dX11_dayGoes_144 (by decide) (fun q => absurd q hc) (fun _ => ?_)
      refine J.aload_n (pc := 207) dX11_dayGoes_207 rfl 0 rfl ?_
      obtain ⟨a31, e32, h⟩ := bnd h
      have k33 : (kd a31).1 = 0 := gR_k e32
      refine J.fR (pc := 208) dX11_dayGoes_208 fl_RX11_48 k0 (okN hN k0 (by decide)) rfl e32 ?_
      refine J.iload_n (pc := 211) dX11_dayGoes_211 rfl 1 rfl ?_
      refine J.iconst (pc := 212) dX11_dayGoes_212 ic_0 ?_
      refine J.iadd (pc := 213) dX11_dayGoes_213 ?_
      refine J.dup2 (pc := 214) dX11_dayGoes_214 rfl rfl ?_
      obtain ⟨x34, e35, h⟩ := bnd h
      refine J.aI (pc := 215) dX11_dayGoes_215 k33 (okN hN k33 (by decide)) e35 ?_
      refine J.iconst (pc := 216) dX11_dayGoes_216 ic_1 ?_
      refine J.iadd (pc := 217) dX11_dayGoes_217 ?_
      obtain ⟨μ36, e37, h⟩ := bnd h
      have hN38 : μ36.1 = NN := stI_N e37 hN
      refine J.wI (pc := 218) dX11_dayGoes_218 k33 (okN hN k33 (by decide)) e37 ?_
      cases h
      exact J.vret (pc := 219) dX11_dayGoes_219 rfl ⟨rfl, rfl, hN38, trivial⟩
def fX11_dayGoes_56  : Nat → Nat → Int32 → Int32 → Mem → Option (Mem)
  | 0, _, _, _, _ => none
  | n + 1, v0, v1, v2, μ =>
    if v2 < (μ.2.1 v0 2) then
      (gR μ v0 34 0).bind fun a1 =>
      (ldI μ a1 ((v1 + (55 : Int32)) + v2)).bind fun x4 =>
      (fX11_standAt v0 v1 x4 μ).bind fun r7 =>
      if (r7 - (1 : Int32)) = 0 then
        (some (sI μ v0 43 ((μ.2.1 v0 43) ||| ((1 : Int32) <<< (v2 &&& 31))))).bind fun μ10 =>
        (gR μ10 v0 34 0).bind fun a13 =>
        (gR μ10 v0 34 0).bind fun a16 =>
        (ldI μ10 a16 ((v1 + (67 : Int32)) + v2)).bind fun x19 =>
        (stI μ10 a13 ((v1 + (67 : Int32)) + v2) (fX11_lesser (9999 : Int32) (x19 + (r7 - (1 : Int32))))).bind fun μ24 =>
        (fX11_dayGoes_56 n) v0 v1 (v2 + (1 : Int32)) μ24
      else
        (some (sI μ v0 43 ((μ.2.1 v0 43) ||| (0 : Int32)))).bind fun μ27 =>
        (gR μ27 v0 34 0).bind fun a30 =>
        (gR μ27 v0 34 0).bind fun a33 =>
        (ldI μ27 a33 ((v1 + (67 : Int32)) + v2)).bind fun x36 =>
        (stI μ27 a30 ((v1 + (67 : Int32)) + v2) (fX11_lesser (9999 : Int32) (x36 + (r7 - (1 : Int32))))).bind fun μ41 =>
        (fX11_dayGoes_56 n) v0 v1 (v2 + (1 : Int32)) μ41
    else
      (fX11_dayGoes_141 fuel) v0 v1 (0 : Int32) μ
set_option maxHeartbeats 4000000 in
theorem tX11_dayGoes_56 {ω : Wd} {l : Launch} (d : Nat) {res : Mem} : ∀ n : Nat, ∀ (v0 : Nat) (v1 : Int32) (v2 : Int32) (μ : Mem), fX11_dayGoes_56 n v0 v1 v2 μ = some res → μ.1 = NN → (kd v0).1 = 21 → J ω l mX11_dayGoes (d + 4) 56 [(0, .ref v0), (1, .int v1), (2, .int v2)] [] μ 0 0 (PE (.inl none) res True) := by
  intro n
  induction n with
  | zero =>
    intro v0 v1 v2 μ h hN k0
    have h9 : (none : Option (Mem)) = some res := h
    cases h9
  | succ n ih =>
    intro v0 v1 v2 μ h hN k0
    unfold fX11_dayGoes_56 at h
    refine J.iload_n (pc := 56) dX11_dayGoes_56 rfl 2 rfl ?_
    refine J.aload_n (pc := 57) dX11_dayGoes_57 rfl 0 rfl ?_
    refine J.fI (pc := 58) dX11_dayGoes_58 fl_RX11_276 k0 (okN hN k0 (by decide)) (Or.inl rfl) ?_
    rcases ifc h with ⟨hc, h⟩ | ⟨hc, h⟩
    · refine J.cge (pc := 61) (tgt := 139) dX11_dayGoes_61 (by decide) (fun _ => ?_) (fun q => absurd hc q)
      refine J.aload_n (pc := 64) dX11_dayGoes_64 rfl 0 rfl ?_
      refine J.iload_n (pc := 65) dX11_dayGoes_65 rfl 1 rfl ?_
      refine J.aload_n (pc := 66) dX11_dayGoes_66 rfl 0 rfl ?_
      obtain ⟨a1, e2, h⟩ := bnd h
      have k3 : (kd a1).1 = 0 := gR_k e2
      refine J.fR (pc := 67) dX11_dayGoes_67 fl_RX11_48 k0 (okN hN k0 (by decide)) rfl e2 ?_
      refine J.iload_n (pc := 70) dX11_dayGoes_70 rfl 1 rfl ?_
      refine J.bipush (pc := 71) dX11_dayGoes_71 ib_55 ?_
      refine J.iadd (pc := 73) dX11_dayGoes_73 ?_
      refine J.iload_n (pc := 74) dX11_dayGoes_74 rfl 2 rfl ?_
      refine J.iadd (pc := 75) dX11_dayGoes_75 ?_
      obtain ⟨x4, e5, h⟩ := bnd h
      refine J.aI (pc := 76) dX11_dayGoes_76 k3 (okN hN k3 (by decide)) e5 ?_
      obtain ⟨r7, e6, h⟩ := bnd h
      refine J.callV (Y := mX11_dayGoes) (Z := mX11_standAt) (pc := 77) (st := []) (k2 := 0) (n2 := 0) dX11_dayGoes_77 ml_RX11_304 mo_X11_standAt mv_X11_standAt rfl (tX11_standAt (d + 3) e6 hN k0) k0 (okN hN k0 (by decide)).1 (okN hN k0 (by decide)).2 cq_11 (by decide) rfl rfl (Nat.le_of_ble_eq_true rfl) (by decide) (by decide) (fun v ν hp => ?_) (fun i ν hp => nrm hp.1)
      obtain ⟨rfl, rfl, hN8, hb9⟩ := QEl hp
      show J _ _ _ _ 80 _ ([.int r7]) _ _ _ _
      refine J.iconst (pc := 80) dX11_dayGoes_80 ic_1 ?_
      refine J.isub (pc := 81) dX11_dayGoes_81 ?_
      refine J.istore_n (pc := 82) ([(3, .int (r7 - (1 : Int32))), (0, .ref v0), (1, .int v1), (2, .int v2)]) dX11_dayGoes_82 rfl (Nat.le_of_ble_eq_true rfl) rfl ?_
      refine J.aload_n (pc := 83) dX11_dayGoes_83 rfl 1 rfl ?_
      refine J.dup (pc := 84) dX11_dayGoes_84 rfl ?_
      refine J.fI (pc := 85) dX11_dayGoes_85 fl_RX11_326 k0 (okN hN8 k0 (by decide)) (Or.inl rfl) ?_
      refine J.iload_n (pc := 88) dX11_dayGoes_88 rfl 0 rfl ?_
      rcases ifc h with ⟨hc, h⟩ | ⟨hc, h⟩
      · refine J.zne (pc := 89) (tgt := 98) dX11_dayGoes_89 (by decide) (fun _ => ?_) (fun q => absurd hc q)
        refine J.iconst (pc := 92) dX11_dayGoes_92 ic_1 ?_
        refine J.iload_n (pc := 93) dX11_dayGoes_93 rfl 3 rfl ?_
        refine J.ishl (pc := 94) dX11_dayGoes_94 ?_
        refine J.goto (pc := 95) (tgt := 99) dX11_dayGoes_95 (by decide) ?_
        refine J.ior (pc := 99) dX11_dayGoes_99 ?_
        obtain ⟨μ10, e11, h⟩ := bnd h
        have hN12 : μ10.1 = NN := smN e11 hN8
        refine J.qI (pc := 100) dX11_dayGoes_100 fl_RX11_326 k0 (okN hN8 k0 (by decide)) rfl rfl e11 ?_
        refine J.aload_n (pc := 103) dX11_dayGoes_103 rfl 1 rfl ?_
        obtain ⟨a13, e14, h⟩ := bnd h
        have k15 : (kd a13).1 = 0 := gR_k e14
        refine J.fR (pc := 104) dX11_dayGoes_104 fl_RX11_48 k0 (okN hN12 k0 (by decide)) rfl e14 ?_
        refine J.iload_n (pc := 107) dX11_dayGoes_107 rfl 2 rfl ?_
        refine J.bipush (pc := 108) dX11_dayGoes_108 ib_67 ?_
        refine J.iadd (pc := 110) dX11_dayGoes_110 ?_
        refine J.iload_n (pc := 111) dX11_dayGoes_111 rfl 3 rfl ?_
        refine J.iadd (pc := 112) dX11_dayGoes_112 ?_
        refine J.sipush (pc := 113) dX11_dayGoes_113 is_9999 ?_
        refine J.aload_n (pc := 116) dX11_dayGoes_116 rfl 1 rfl ?_
        obtain ⟨a16, e17, h⟩ := bnd h
        have k18 : (kd a16).1 = 0 := gR_k e17
        refine J.fR (pc := 117) dX11_dayGoes_117 fl_RX11_48 k0 (okN hN12 k0 (by decide)) rfl e17 ?_
        refine J.iload_n (pc := 120) dX11_dayGoes_120 rfl 2 rfl ?_
        refine J.bipush (pc := 121) dX11_dayGoes_121 ib_67 ?_
        refine J.iadd (pc := 123) dX11_dayGoes_123 ?_
        refine J.iload_n (pc := 124) dX11_dayGoes_124 rfl 3 rfl ?_
        refine J.iadd (pc := 125) dX11_dayGoes_125 ?_
        obtain ⟨x19, e20, h⟩ := bnd h
        refine J.aI (pc := 126) dX11_dayGoes_126 k18 (okN hN12 k18 (by decide)) e20 ?_
        refine J.iload_n (pc := 127) dX11_dayGoes_127 rfl 0 rfl ?_
        refine J.iadd (pc := 128) dX11_dayGoes_128 ?_
        refine J.callS (Y := mX11_dayGoes) (Z := mX11_lesser) (pc := 129) (st := [.int ((v1 + (67 : Int32)) + v2), .ref a13]) (k2 := 0) (n2 := 0) dX11_dayGoes_129 ml_RX11_231 mo_X11_lesser ms_X11_lesser rfl (tX11_lesser (d + 3) (9999 : Int32) (x19 + (r7 - (1 : Int32))) μ10 hN12 ) rfl rfl (Nat.le_of_ble_eq_true rfl) (by decide) (by decide) (fun v ν hp => ?_) (fun i ν hp => nrm hp.1)
        obtain ⟨rfl, rfl, hN22, hb23⟩ := QEl hp
        show J _ _ _ _ 132 _ ([.int (fX11_lesser (9999 : Int32) (x19 + (r7 - (1 : Int32)))), .int ((v1 + (67 : Int32)) + v2), .ref a13]) _ _ _ _
        obtain ⟨μ24, e25, h⟩ := bnd h
        have hN26 : μ24.1 = NN := stI_N e25 hN22
        refine J.wI (pc := 132) dX11_dayGoes_132 k15 (okN hN22 k15 (by decide)) e25 ?_
        refine J.iinc (pc := 133) (j := 3) ([(2, .int (v2 + (1 : Int32))), (3, .int (r7 - (1 : Int32))), (0, .ref v0), (1, .int v1)]) dX11_dayGoes_133 rfl (iincv ic_1) (Nat.le_of_ble_eq_true rfl) rfl ?_
        refine J.goto (pc := 136) (tgt := 56) dX11_dayGoes_136 (by decide) ?_
        refine J.pick [2, 3, 0] rfl ?_
        exact ih v0 v1 (v2 + (1 : Int32)) μ24 h hN26 k0
      · refine J.zne (pc := 89) (tgt := 98) dX11_dayGoes_89 (by decide) (fun q => absurd q hc) (fun _ => ?_)
        refine J.iconst (pc := 98) dX11_dayGoes_98 ic_0 ?_
        refine J.ior (pc := 99) dX11_dayGoes_99 ?_
        obtain ⟨μ27, e28, h⟩ := bnd h
        have hN29 : μ27.1 = NN := smN e28 hN8
        refine J.qI (pc := 100) dX11_dayGoes_100 fl_RX11_326 k0 (okN hN8 k0 (by decide)) rfl rfl e28 ?_
        refine J.aload_n (pc := 103) dX11_dayGoes_103 rfl 1 rfl ?_
        obtain ⟨a30, e31, h⟩ := bnd h
        have k32 : (kd a30).1 = 0 := gR_k e31
        refine J.fR (pc := 104) dX11_dayGoes_104 fl_RX11_48 k0 (okN hN29 k0 (by decide)) rfl e31 ?_
        refine J.iload_n (pc := 107) dX11_dayGoes_107 rfl 2 rfl ?_
        refine J.bipush (pc := 108) dX11_dayGoes_108 ib_67 ?_
        refine J.iadd (pc := 110) dX11_dayGoes_110 ?_
        refine J.iload_n (pc := 111) dX11_dayGoes_111 rfl 3 rfl ?_
        refine J.iadd (pc := 112) dX11_dayGoes_112 ?_
        refine J.sipush (pc := 113) dX11_dayGoes_113 is_9999 ?_
        refine J.aload_n (pc := 116) dX11_dayGoes_116 rfl 1 rfl ?_
        obtain ⟨a33, e34, h⟩ := bnd h
        have k35 : (kd a33).1 = 0 := gR_k e34
        refine J.fR (pc := 117) dX11_dayGoes_117 fl_RX11_48 k0 (okN hN29 k0 (by decide)) rfl e34 ?_
        refine J.iload_n (pc := 120) dX11_dayGoes_120 rfl 2 rfl ?_
        refine J.bipush (pc := 121) dX11_dayGoes_121 ib_67 ?_
        refine J.iadd (pc := 123) dX11_dayGoes_123 ?_
        refine J.iload_n (pc := 124) dX11_dayGoes_124 rfl 3 rfl ?_
        refine J.iadd (pc := 125) dX11_dayGoes_125 ?_
        obtain ⟨x36, e37, h⟩ := bnd h
        refine J.aI (pc := 126) dX11_dayGoes_126 k35 (okN hN29 k35 (by decide)) e37 ?_
        refine J.iload_n (pc := 127) dX11_dayGoes_127 rfl 0 rfl ?_
        refine J.iadd (pc := 128) dX11_dayGoes_128 ?_
        refine J.callS (Y := mX11_dayGoes) (Z := mX11_lesser) (pc := 129) (st := [.int ((v1 + (67 : Int32)) + v2), .ref a30]) (k2 := 0) (n2 := 0) dX11_dayGoes_129 ml_RX11_231 mo_X11_lesser ms_X11_lesser rfl (tX11_lesser (d + 3) (9999 : Int32) (x36 + (r7 - (1 : Int32))) μ27 hN29 ) rfl rfl (Nat.le_of_ble_eq_true rfl) (by decide) (by decide) (fun v ν hp => ?_) (fun i ν hp => nrm hp.1)
        obtain ⟨rfl, rfl, hN39, hb40⟩ := QEl hp
        show J _ _ _ _ 132 _ ([.int (fX11_lesser (9999 : Int32) (x36 + (r7 - (1 : Int32)))), .int ((v1 + (67 : Int32)) + v2), .ref a30]) _ _ _ _
        obtain ⟨μ41, e42, h⟩ := bnd h
        have hN43 : μ41.1 = NN := stI_N e42 hN39
        refine J.wI (pc := 132) dX11_dayGoes_132 k32 (okN hN39 k32 (by decide)) e42 ?_
        refine J.iinc (pc := 133) (j := 3) ([(2, .int (v2 + (1 : Int32))), (3, .int (r7 - (1 : Int32))), (0, .ref v0), (1, .int v1)]) dX11_dayGoes_133 rfl (iincv ic_1) (Nat.le_of_ble_eq_true rfl) rfl ?_
        refine J.goto (pc := 136) (tgt := 56) dX11_dayGoes_136 (by decide) ?_
        refine J.pick [2, 3, 0] rfl ?_
        exact ih v0 v1 (v2 + (1 : Int32)) μ41 h hN43 k0
    · refine J.cge (pc := 61) (tgt := 139) dX11_dayGoes_61 (by decide) (fun q => absurd q hc) (fun _ => ?_)
      refine J.iconst (pc := 139) dX11_dayGoes_139 ic_0 ?_
      refine J.istore_n (pc := 140) ([(2, .int (0 : Int32)), (0, .ref v0), (1, .int v1)]) dX11_dayGoes_140 rfl (Nat.le_of_ble_eq_true rfl) rfl ?_
      refine J.pick [1, 2, 0] rfl ?_
      exact (tX11_dayGoes_141 d fuel) v0 v1 (0 : Int32) μ h hN k0
def fX11_dayGoes_12  : Nat → Nat → Int32 → Int32 → Mem → Option (Mem)
  | 0, _, _, _, _ => none
  | n + 1, v0, v1, v2, μ =>
    if v2 < (μ.2.1 v0 2) then
      (gR μ v0 44 0).bind fun a1 =>
      (stI μ a1 v2 (0 : Int32)).bind fun μ4 =>
      (gR μ4 v0 34 0).bind fun a7 =>
      (ldI μ4 a7 ((v1 + (61 : Int32)) + v2)).bind fun x10 =>
      if x10 = (-1 : Int32) then
        (fX11_dayGoes_12 n) v0 v1 (v2 + (1 : Int32)) μ4
      else
        (fX11_walks v0 v1 v2 μ4).bind fun μ13 =>
        (fX11_dayGoes_12 n) v0 v1 (v2 + (1 : Int32)) μ13
    else
      (fX11_dayGoes_56 fuel) v0 v1 (0 : Int32) μ
set_option maxHeartbeats 4000000 in
theorem tX11_dayGoes_12 {ω : Wd} {l : Launch} (d : Nat) {res : Mem} : ∀ n : Nat, ∀ (v0 : Nat) (v1 : Int32) (v2 : Int32) (μ : Mem), fX11_dayGoes_12 n v0 v1 v2 μ = some res → μ.1 = NN → (kd v0).1 = 21 → J ω l mX11_dayGoes (d + 4) 12 [(0, .ref v0), (1, .int v1), (2, .int v2)] [] μ 0 0 (PE (.inl none) res True) := by
  intro n
  induction n with
  | zero =>
    intro v0 v1 v2 μ h hN k0
    have h9 : (none : Option (Mem)) = some res := h
    cases h9
  | succ n ih =>
    intro v0 v1 v2 μ h hN k0
    unfold fX11_dayGoes_12 at h
    refine J.iload_n (pc := 12) dX11_dayGoes_12 rfl 2 rfl ?_
    refine J.aload_n (pc := 13) dX11_dayGoes_13 rfl 0 rfl ?_
    refine J.fI (pc := 14) dX11_dayGoes_14 fl_RX11_276 k0 (okN hN k0 (by decide)) (Or.inl rfl) ?_
    rcases ifc h with ⟨hc, h⟩ | ⟨hc, h⟩
    · refine J.cge (pc := 17) (tgt := 54) dX11_dayGoes_17 (by decide) (fun _ => ?_) (fun q => absurd hc q)
      refine J.aload_n (pc := 20) dX11_dayGoes_20 rfl 0 rfl ?_
      obtain ⟨a1, e2, h⟩ := bnd h
      have k3 : (kd a1).1 = 0 := gR_k e2
      refine J.fR (pc := 21) dX11_dayGoes_21 fl_RX11_69 k0 (okN hN k0 (by decide)) rfl e2 ?_
      refine J.iload_n (pc := 24) dX11_dayGoes_24 rfl 2 rfl ?_
      refine J.iconst (pc := 25) dX11_dayGoes_25 ic_0 ?_
      obtain ⟨μ4, e5, h⟩ := bnd h
      have hN6 : μ4.1 = NN := stI_N e5 hN
      refine J.wI (pc := 26) dX11_dayGoes_26 k3 (okN hN k3 (by decide)) e5 ?_
      refine J.aload_n (pc := 27) dX11_dayGoes_27 rfl 0 rfl ?_
      obtain ⟨a7, e8, h⟩ := bnd h
      have k9 : (kd a7).1 = 0 := gR_k e8
      refine J.fR (pc := 28) dX11_dayGoes_28 fl_RX11_48 k0 (okN hN6 k0 (by decide)) rfl e8 ?_
      refine J.iload_n (pc := 31) dX11_dayGoes_31 rfl 1 rfl ?_
      refine J.bipush (pc := 32) dX11_dayGoes_32 ib_61 ?_
      refine J.iadd (pc := 34) dX11_dayGoes_34 ?_
      refine J.iload_n (pc := 35) dX11_dayGoes_35 rfl 2 rfl ?_
      refine J.iadd (pc := 36) dX11_dayGoes_36 ?_
      obtain ⟨x10, e11, h⟩ := bnd h
      refine J.aI (pc := 37) dX11_dayGoes_37 k9 (okN hN6 k9 (by decide)) e11 ?_
      refine J.iconst (pc := 38) dX11_dayGoes_38 ic_m1 ?_
      rcases ifc h with ⟨hc, h⟩ | ⟨hc, h⟩
      · refine J.ceq (pc := 39) (tgt := 48) dX11_dayGoes_39 (by decide) (fun _ => ?_) (fun q => absurd hc q)
        refine J.iinc (pc := 48) (j := 2) ([(2, .int (v2 + (1 : Int32))), (0, .ref v0), (1, .int v1)]) dX11_dayGoes_48 rfl (iincv ic_1) (Nat.le_of_ble_eq_true rfl) rfl ?_
        refine J.goto (pc := 51) (tgt := 12) dX11_dayGoes_51 (by decide) ?_
        refine J.pick [1, 2, 0] rfl ?_
        exact ih v0 v1 (v2 + (1 : Int32)) μ4 h hN6 k0
      · refine J.ceq (pc := 39) (tgt := 48) dX11_dayGoes_39 (by decide) (fun q => absurd q hc) (fun _ => ?_)
        refine J.aload_n (pc := 42) dX11_dayGoes_42 rfl 0 rfl ?_
        refine J.iload_n (pc := 43) dX11_dayGoes_43 rfl 1 rfl ?_
        refine J.iload_n (pc := 44) dX11_dayGoes_44 rfl 2 rfl ?_
        obtain ⟨μ13, e12, h⟩ := bnd h
        refine J.callV (Y := mX11_dayGoes) (Z := mX11_walks) (pc := 45) (st := []) (k2 := 0) (n2 := 0) dX11_dayGoes_45 ml_RX11_329 mo_X11_walks mv_X11_walks rfl (tX11_walks d e12 hN6 k0) k0 (okN hN6 k0 (by decide)).1 (okN hN6 k0 (by decide)).2 cq_11 (by decide) rfl rfl (Nat.le_of_ble_eq_true rfl) (by decide) (by decide) (fun v ν hp => ?_) (fun i ν hp => nrm hp.1)
        obtain ⟨rfl, rfl, hN14, hb15⟩ := QEl hp
        show J _ _ _ _ 48 _ ([]) _ _ _ _
        refine J.iinc (pc := 48) (j := 2) ([(2, .int (v2 + (1 : Int32))), (0, .ref v0), (1, .int v1)]) dX11_dayGoes_48 rfl (iincv ic_1) (Nat.le_of_ble_eq_true rfl) rfl ?_
        refine J.goto (pc := 51) (tgt := 12) dX11_dayGoes_51 (by decide) ?_
        refine J.pick [1, 2, 0] rfl ?_
        exact ih v0 v1 (v2 + (1 : Int32)) μ13 h hN14 k0
    · refine J.cge (pc := 17) (tgt := 54) dX11_dayGoes_17 (by decide) (fun q => absurd q hc) (fun _ => ?_)
      refine J.iconst (pc := 54) dX11_dayGoes_54 ic_0 ?_
      refine J.istore_n (pc := 55) ([(2, .int (0 : Int32)), (0, .ref v0), (1, .int v1)]) dX11_dayGoes_55 rfl (Nat.le_of_ble_eq_true rfl) rfl ?_
      refine J.pick [1, 2, 0] rfl ?_
      exact (tX11_dayGoes_56 d fuel) v0 v1 (0 : Int32) μ h hN k0
def fX11_dayGoes (v0 : Nat) (v1 : Int32) (μ : Mem) : Option (Mem) :=
  (some (sI μ v0 42 (0 : Int32))).bind fun μ1 =>
  (some (sI μ1 v0 43 (0 : Int32))).bind fun μ4 =>
  (fX11_dayGoes_12 fuel) v0 v1 (0 : Int32) μ4
set_option maxHeartbeats 4000000 in
theorem tX11_dayGoes {ω : Wd} {l : Launch} (d : Nat) {v0 : Nat} {v1 : Int32} {μ : Mem} {res : Mem} (h : fX11_dayGoes v0 v1 μ = some res) (hN : μ.1 = NN) (k0 : (kd v0).1 = 21) : Ct ω l mX11_dayGoes (d + 4) [.ref v0, .int v1] μ 0 0 (PE (.inl none) res True) := by
  refine Ct.of pn_RX11 (Nat.le_of_ble_eq_true rfl) ?_
  show J ω l mX11_dayGoes (d + 4) 0 [(0, .ref v0), (1, .int v1)] [] μ 0 0 _
  unfold fX11_dayGoes at h
  refine J.aload_n (pc := 0) dX11_dayGoes_0 rfl 0 rfl ?_
  refine J.iconst (pc := 1) dX11_dayGoes_1 ic_0 ?_
  obtain ⟨μ1, e2, h⟩ := bnd h
  have hN3 : μ1.1 = NN := smN e2 hN
  refine J.qI (pc := 2) dX11_dayGoes_2 fl_RX11_323 k0 (okN hN k0 (by decide)) rfl rfl e2 ?_
  refine J.aload_n (pc := 5) dX11_dayGoes_5 rfl 0 rfl ?_
  refine J.iconst (pc := 6) dX11_dayGoes_6 ic_0 ?_
  obtain ⟨μ4, e5, h⟩ := bnd h
  have hN6 : μ4.1 = NN := smN e5 hN3
  refine J.qI (pc := 7) dX11_dayGoes_7 fl_RX11_326 k0 (okN hN3 k0 (by decide)) rfl rfl e5 ?_
  refine J.iconst (pc := 10) dX11_dayGoes_10 ic_0 ?_
  refine J.istore_n (pc := 11) ([(2, .int (0 : Int32)), (0, .ref v0), (1, .int v1)]) dX11_dayGoes_11 rfl (Nat.le_of_ble_eq_true rfl) rfl ?_
  refine J.pick [1, 2, 0] rfl ?_
  exact (tX11_dayGoes_12 d fuel) v0 v1 (0 : Int32) μ4 h hN6 k0
def fX11_right (v0 : Nat) (v1 : Int32) (v2 : Int32) (μ : Mem) : Option (Int32 × Mem) :=
  if (μ.2.1 v0 0) = 0 then
    if v1 = 0 then
      (some (sI μ v0 0 v2)).bind fun μ1 =>
      if (μ1.2.1 v0 0) = 0 then
        some ((1 : Int32), μ1)
      else
        some ((0 : Int32), μ1)
    else
      if (μ.2.1 v0 0) = 0 then
        some ((1 : Int32), μ)
      else
        some ((0 : Int32), μ)
  else
    if (μ.2.1 v0 0) = 0 then
      some ((1 : Int32), μ)
    else
      some ((0 : Int32), μ)
set_option maxHeartbeats 4000000 in
theorem tX11_right {ω : Wd} {l : Launch} (d : Nat) {v0 : Nat} {v1 : Int32} {v2 : Int32} {μ : Mem} {res : Int32 × Mem} (h : fX11_right v0 v1 v2 μ = some res) (hN : μ.1 = NN) (k0 : (kd v0).1 = 21) : Ct ω l mX11_right d [.ref v0, .int v1, .int v2] μ 0 0 (PE (.inl (some (.int res.1))) res.2 (isB res.1)) := by
  refine Ct.of pn_RX11 (Nat.le_of_ble_eq_true rfl) ?_
  show J ω l mX11_right d 0 [(0, .ref v0), (1, .int v1), (2, .int v2)] [] μ 0 0 _
  unfold fX11_right at h
  refine J.aload_n (pc := 0) dX11_right_0 rfl 0 rfl ?_
  refine J.fI (pc := 1) dX11_right_1 fl_RX11_99 k0 (okN hN k0 (by decide)) (Or.inl rfl) ?_
  rcases ifc h with ⟨hc, h⟩ | ⟨hc, h⟩
  · refine J.zne (pc := 4) (tgt := 16) dX11_right_4 (by decide) (fun _ => ?_) (fun q => absurd hc q)
    refine J.iload_n (pc := 7) dX11_right_7 rfl 1 rfl ?_
    rcases ifc h with ⟨hc, h⟩ | ⟨hc, h⟩
    · refine J.zne (pc := 8) (tgt := 16) dX11_right_8 (by decide) (fun _ => ?_) (fun q => absurd hc q)
      refine J.aload_n (pc := 11) dX11_right_11 rfl 0 rfl ?_
      refine J.iload_n (pc := 12) dX11_right_12 rfl 2 rfl ?_
      obtain ⟨μ1, e2, h⟩ := bnd h
      have hN3 : μ1.1 = NN := smN e2 hN
      refine J.qI (pc := 13) dX11_right_13 fl_RX11_99 k0 (okN hN k0 (by decide)) rfl rfl e2 ?_
      refine J.aload_n (pc := 16) dX11_right_16 rfl 0 rfl ?_
      refine J.fI (pc := 17) dX11_right_17 fl_RX11_99 k0 (okN hN3 k0 (by decide)) (Or.inl rfl) ?_
      rcases ifc h with ⟨hc, h⟩ | ⟨hc, h⟩
      · refine J.zne (pc := 20) (tgt := 27) dX11_right_20 (by decide) (fun _ => ?_) (fun q => absurd hc q)
        refine J.iconst (pc := 23) dX11_right_23 ic_1 ?_
        refine J.goto (pc := 24) (tgt := 28) dX11_right_24 (by decide) ?_
        cases h
        exact J.zret (pc := 28) dX11_right_28 rfl (narB (Or.inr rfl)) ⟨rfl, rfl, hN3, (Or.inr rfl)⟩
      · refine J.zne (pc := 20) (tgt := 27) dX11_right_20 (by decide) (fun q => absurd q hc) (fun _ => ?_)
        refine J.iconst (pc := 27) dX11_right_27 ic_0 ?_
        cases h
        exact J.zret (pc := 28) dX11_right_28 rfl (narB (Or.inl rfl)) ⟨rfl, rfl, hN3, (Or.inl rfl)⟩
    · refine J.zne (pc := 8) (tgt := 16) dX11_right_8 (by decide) (fun q => absurd q hc) (fun _ => ?_)
      refine J.aload_n (pc := 16) dX11_right_16 rfl 0 rfl ?_
      refine J.fI (pc := 17) dX11_right_17 fl_RX11_99 k0 (okN hN k0 (by decide)) (Or.inl rfl) ?_
      rcases ifc h with ⟨hc, h⟩ | ⟨hc, h⟩
      · refine J.zne (pc := 20) (tgt := 27) dX11_right_20 (by decide) (fun _ => ?_) (fun q => absurd hc q)
        refine J.iconst (pc := 23) dX11_right_23 ic_1 ?_
        refine J.goto (pc := 24) (tgt := 28) dX11_right_24 (by decide) ?_
        cases h
        exact J.zret (pc := 28) dX11_right_28 rfl (narB (Or.inr rfl)) ⟨rfl, rfl, hN, (Or.inr rfl)⟩
      · refine J.zne (pc := 20) (tgt := 27) dX11_right_20 (by decide) (fun q => absurd q hc) (fun _ => ?_)
        refine J.iconst (pc := 27) dX11_right_27 ic_0 ?_
        cases h
        exact J.zret (pc := 28) dX11_right_28 rfl (narB (Or.inl rfl)) ⟨rfl, rfl, hN, (Or.inl rfl)⟩
  · refine J.zne (pc := 4) (tgt := 16) dX11_right_4 (by decide) (fun q => absurd q hc) (fun _ => ?_)
    refine J.aload_n (pc := 16) dX11_right_16 rfl 0 rfl ?_
    refine J.fI (pc := 17) dX11_right_17 fl_RX11_99 k0 (okN hN k0 (by decide)) (Or.inl rfl) ?_
    rcases ifc h with ⟨hc, h⟩ | ⟨hc, h⟩
    · refine J.zne (pc := 20) (tgt := 27) dX11_right_20 (by decide) (fun _ => ?_) (fun q => absurd hc q)
      refine J.iconst (pc := 23) dX11_right_23 ic_1 ?_
      refine J.goto (pc := 24) (tgt := 28) dX11_right_24 (by decide) ?_
      cases h
      exact J.zret (pc := 28) dX11_right_28 rfl (narB (Or.inr rfl)) ⟨rfl, rfl, hN, (Or.inr rfl)⟩
    · refine J.zne (pc := 20) (tgt := 27) dX11_right_20 (by decide) (fun q => absurd q hc) (fun _ => ?_)
      refine J.iconst (pc := 27) dX11_right_27 ic_0 ?_
      cases h
      exact J.zret (pc := 28) dX11_right_28 rfl (narB (Or.inl rfl)) ⟨rfl, rfl, hN, (Or.inl rfl)⟩
