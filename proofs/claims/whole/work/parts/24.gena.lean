def fX11_draw (v0 : Nat) (v1 : Int32) (μ : Mem) : Option (Int32 × Mem) :=
  (some (sI μ v0 53 (((μ.2.1 v0 53) * (1103515245 : Int32)) + (12345 : Int32)))).bind fun μ1 =>
  (rmI (((μ1.2.1 v0 53) >>> ((16 : Int32) &&& 31)) &&& (32767 : Int32)) v1).bind fun x4 =>
  some (x4, μ1)
set_option maxHeartbeats 4000000 in
theorem tX11_draw {ω : Wd} {l : Launch} (d : Nat) {v0 : Nat} {v1 : Int32} {μ : Mem} {res : Int32 × Mem} (h : fX11_draw v0 v1 μ = some res) (hN : μ.1 = NN) (k0 : (kd v0).1 = 21) : Ct ω l mX11_draw d [.ref v0, .int v1] μ 0 0 (PE (.inl (some (.int res.1))) res.2 True) := by
  refine Ct.of pn_RX11 (Nat.le_of_ble_eq_true rfl) ?_
  show J ω l mX11_draw d 0 [(0, .ref v0), (1, .int v1)] [] μ 0 0 _
  unfold fX11_draw at h
  refine J.aload_n (pc := 0) dX11_draw_0 rfl 0 rfl ?_
  refine J.aload_n (pc := 1) dX11_draw_1 rfl 0 rfl ?_
  refine J.fI (pc := 2) dX11_draw_2 fl_RX11_429 k0 (okN hN k0 (by decide)) (Or.inl rfl) ?_
  refine J.ldcw (pc := 5) dX11_draw_5 ki_RX11_432 ?_
  refine J.imul (pc := 8) dX11_draw_8 ?_
  refine J.sipush (pc := 9) dX11_draw_9 is_12345 ?_
  refine J.iadd (pc := 12) dX11_draw_12 ?_
  obtain ⟨μ1, e2, h⟩ := bnd h
  have hN3 : μ1.1 = NN := smN e2 hN
  refine J.qI (pc := 13) dX11_draw_13 fl_RX11_429 k0 (okN hN k0 (by decide)) rfl rfl e2 ?_
  refine J.aload_n (pc := 16) dX11_draw_16 rfl 0 rfl ?_
  refine J.fI (pc := 17) dX11_draw_17 fl_RX11_429 k0 (okN hN3 k0 (by decide)) (Or.inl rfl) ?_
  refine J.bipush (pc := 20) dX11_draw_20 ib_16 ?_
  refine J.ishr (pc := 22) dX11_draw_22 ?_
  refine J.sipush (pc := 23) dX11_draw_23 is_32767 ?_
  refine J.iand (pc := 26) dX11_draw_26 ?_
  refine J.iload_n (pc := 27) dX11_draw_27 rfl 1 rfl ?_
  obtain ⟨x4, e5, h⟩ := bnd h
  refine J.rm (pc := 28) dX11_draw_28 e5 ?_
  cases h
  exact J.iret (pc := 29) dX11_draw_29 rfl ⟨rfl, rfl, hN3, trivial⟩
def fX11_drawPlace (v0 : Nat) (μ : Mem) : Option (Int32 × Mem) :=
  (fX11_draw v0 (μ.2.1 v0 1) μ).bind fun (r3, μ2) =>
  (gR μ2 v0 5 0).bind fun a6 =>
  (ldI μ2 a6 r3).bind fun x9 =>
  (fX11_draw v0 x9 μ2).bind fun (r13, μ12) =>
  some ((((8 : Int32) * r3) + r13), μ12)
set_option maxHeartbeats 4000000 in
theorem tX11_drawPlace {ω : Wd} {l : Launch} (d : Nat) {v0 : Nat} {μ : Mem} {res : Int32 × Mem} (h : fX11_drawPlace v0 μ = some res) (hN : μ.1 = NN) (k0 : (kd v0).1 = 21) : Ct ω l mX11_drawPlace (d + 1) [.ref v0] μ 0 0 (PE (.inl (some (.int res.1))) res.2 True) := by
  refine Ct.of pn_RX11 (Nat.le_of_ble_eq_true rfl) ?_
  show J ω l mX11_drawPlace (d + 1) 0 [(0, .ref v0)] [] μ 0 0 _
  unfold fX11_drawPlace at h
  refine J.aload_n (pc := 0) dX11_drawPlace_0 rfl 0 rfl ?_
  refine J.aload_n (pc := 1) dX11_drawPlace_1 rfl 0 rfl ?_
  refine J.fI (pc := 2) dX11_drawPlace_2 fl_RX11_273 k0 (okN hN k0 (by decide)) (Or.inl rfl) ?_
  obtain ⟨⟨r3, μ2⟩, e1, h⟩ := bnd h
  try dsimp only at h
  refine J.callV (Y := mX11_drawPlace) (Z := mX11_draw) (pc := 5) (st := []) (k2 := 0) (n2 := 0) dX11_drawPlace_5 ml_RX11_433 mo_X11_draw mv_X11_draw rfl (tX11_draw d e1 hN k0) k0 (okN hN k0 (by decide)).1 (okN hN k0 (by decide)).2 cq_11 (by decide) rfl rfl (Nat.le_of_ble_eq_true rfl) (by decide) (by decide) (fun v ν hp => ?_) (fun i ν hp => nrm hp.1)
  obtain ⟨rfl, rfl, hN4, hb5⟩ := QEl hp
  show J _ _ _ _ 8 _ ([.int r3]) _ _ _ _
  refine J.istore_n (pc := 8) ([(1, .int r3), (0, .ref v0)]) dX11_drawPlace_8 rfl (Nat.le_of_ble_eq_true rfl) rfl ?_
  refine J.bipush (pc := 9) dX11_drawPlace_9 ib_8 ?_
  refine J.iload_n (pc := 11) dX11_drawPlace_11 rfl 0 rfl ?_
  refine J.imul (pc := 12) dX11_drawPlace_12 ?_
  refine J.aload_n (pc := 13) dX11_drawPlace_13 rfl 1 rfl ?_
  refine J.aload_n (pc := 14) dX11_drawPlace_14 rfl 1 rfl ?_
  obtain ⟨a6, e7, h⟩ := bnd h
  have k8 : (kd a6).1 = 0 := gR_k e7
  refine J.fR (pc := 15) dX11_drawPlace_15 fl_RX11_16 k0 (okN hN4 k0 (by decide)) rfl e7 ?_
  refine J.iload_n (pc := 18) dX11_drawPlace_18 rfl 0 rfl ?_
  obtain ⟨x9, e10, h⟩ := bnd h
  refine J.aI (pc := 19) dX11_drawPlace_19 k8 (okN hN4 k8 (by decide)) e10 ?_
  obtain ⟨⟨r13, μ12⟩, e11, h⟩ := bnd h
  try dsimp only at h
  refine J.callV (Y := mX11_drawPlace) (Z := mX11_draw) (pc := 20) (st := [.int ((8 : Int32) * r3)]) (k2 := 0) (n2 := 0) dX11_drawPlace_20 ml_RX11_433 mo_X11_draw mv_X11_draw rfl (tX11_draw d e11 hN4 k0) k0 (okN hN4 k0 (by decide)).1 (okN hN4 k0 (by decide)).2 cq_11 (by decide) rfl rfl (Nat.le_of_ble_eq_true rfl) (by decide) (by decide) (fun v ν hp => ?_) (fun i ν hp => nrm hp.1)
  obtain ⟨rfl, rfl, hN14, hb15⟩ := QEl hp
  show J _ _ _ _ 23 _ ([.int r13, .int ((8 : Int32) * r3)]) _ _ _ _
  refine J.iadd (pc := 23) dX11_drawPlace_23 ?_
  cases h
  exact J.iret (pc := 24) dX11_drawPlace_24 rfl ⟨rfl, rfl, hN14, trivial⟩
def fX11_takes (v0 : Nat) (v1 : Int32) (v2 : Int32) (v3 : Int32) (μ : Mem) : Option (Int32) :=
  (gR μ v0 47 0).bind fun a1 =>
  (ldI μ a1 (((6 : Int32) * v1) + v2)).bind fun x4 =>
  (gR μ v0 48 0).bind fun a6 =>
  (ldI μ a6 (((64 : Int32) * (v1 + (1 : Int32))) + (v3 ||| ((1 : Int32) <<< (v2 &&& 31))))).bind fun x9 =>
  some (((10000 : Int32) - x4) + x9)
set_option maxHeartbeats 4000000 in
theorem tX11_takes {ω : Wd} {l : Launch} (d : Nat) {v0 : Nat} {v1 : Int32} {v2 : Int32} {v3 : Int32} {μ : Mem} {res : Int32} (h : fX11_takes v0 v1 v2 v3 μ = some res) (hN : μ.1 = NN) (k0 : (kd v0).1 = 21) : Ct ω l mX11_takes d [.ref v0, .int v1, .int v2, .int v3] μ 0 0 (PE (.inl (some (.int res))) μ True) := by
  refine Ct.of pn_RX11 (Nat.le_of_ble_eq_true rfl) ?_
  show J ω l mX11_takes d 0 [(0, .ref v0), (1, .int v1), (2, .int v2), (3, .int v3)] [] μ 0 0 _
  unfold fX11_takes at h
  refine J.sipush (pc := 0) dX11_takes_0 is_10000 ?_
  refine J.aload_n (pc := 3) dX11_takes_3 rfl 0 rfl ?_
  obtain ⟨a1, e2, h⟩ := bnd h
  have k3 : (kd a1).1 = 0 := gR_k e2
  refine J.fR (pc := 4) dX11_takes_4 fl_RX11_75 k0 (okN hN k0 (by decide)) rfl e2 ?_
  refine J.bipush (pc := 7) dX11_takes_7 ib_6 ?_
  refine J.iload_n (pc := 9) dX11_takes_9 rfl 1 rfl ?_
  refine J.imul (pc := 10) dX11_takes_10 ?_
  refine J.iload_n (pc := 11) dX11_takes_11 rfl 2 rfl ?_
  refine J.iadd (pc := 12) dX11_takes_12 ?_
  obtain ⟨x4, e5, h⟩ := bnd h
  refine J.aI (pc := 13) dX11_takes_13 k3 (okN hN k3 (by decide)) e5 ?_
  refine J.isub (pc := 14) dX11_takes_14 ?_
  refine J.aload_n (pc := 15) dX11_takes_15 rfl 0 rfl ?_
  obtain ⟨a6, e7, h⟩ := bnd h
  have k8 : (kd a6).1 = 0 := gR_k e7
  refine J.fR (pc := 16) dX11_takes_16 fl_RX11_78 k0 (okN hN k0 (by decide)) rfl e7 ?_
  refine J.bipush (pc := 19) dX11_takes_19 ib_64 ?_
  refine J.iload_n (pc := 21) dX11_takes_21 rfl 1 rfl ?_
  refine J.iconst (pc := 22) dX11_takes_22 ic_1 ?_
  refine J.iadd (pc := 23) dX11_takes_23 ?_
  refine J.imul (pc := 24) dX11_takes_24 ?_
  refine J.iload_n (pc := 25) dX11_takes_25 rfl 3 rfl ?_
  refine J.iconst (pc := 26) dX11_takes_26 ic_1 ?_
  refine J.iload_n (pc := 27) dX11_takes_27 rfl 2 rfl ?_
  refine J.ishl (pc := 28) dX11_takes_28 ?_
  refine J.ior (pc := 29) dX11_takes_29 ?_
  refine J.iadd (pc := 30) dX11_takes_30 ?_
  obtain ⟨x9, e10, h⟩ := bnd h
  refine J.aI (pc := 31) dX11_takes_31 k8 (okN hN k8 (by decide)) e10 ?_
  refine J.iadd (pc := 32) dX11_takes_32 ?_
  cases h
  exact J.iret (pc := 33) dX11_takes_33 rfl ⟨rfl, rfl, hN, trivial⟩
def fX11_laysErrands_172  (K145 : Nat → Int32 → Int32 → Mem → Option (Mem)) : Nat → Nat → Int32 → Int32 → Int32 → Int32 → Mem → Option (Mem)
  | 0, _, _, _, _, _, _ => none
  | n + 1, v0, v1, v2, v3, v4, μ =>
    if v4 < (μ.2.1 v0 2) then
      (fX11_canTake v0 v1 v4 v2 μ).bind fun r2 =>
      if r2 = 0 then
        (fX11_laysErrands_172 K145 n) v0 v1 v2 v3 (v4 + (1 : Int32)) μ
      else
        (fX11_takes v0 v1 v4 v2 μ).bind fun r6 =>
        if v3 < r6 then
          (fX11_takes v0 v1 v4 v2 μ).bind fun r10 =>
          (fX11_laysErrands_172 K145 n) v0 v1 v2 r10 (v4 + (1 : Int32)) μ
        else
          (fX11_laysErrands_172 K145 n) v0 v1 v2 v3 (v4 + (1 : Int32)) μ
    else
      (gR μ v0 48 0).bind fun a13 =>
      (stI μ a13 (((64 : Int32) * v1) + v2) v3).bind fun μ16 =>
      K145 v0 v1 (v2 + (1 : Int32)) μ16
set_option maxHeartbeats 4000000 in
theorem tX11_laysErrands_172 {ω : Wd} {l : Launch} (d : Nat) {res : Mem} (K145 : Nat → Int32 → Int32 → Mem → Option (Mem)) (hK145 : ∀ (v0 : Nat) (v1 : Int32) (v2 : Int32) (μ : Mem), K145 v0 v1 v2 μ = some res → μ.1 = NN → (kd v0).1 = 21 → J ω l mX11_laysErrands (d + 2) 145 [(0, .ref v0), (1, .int v1), (2, .int v2)] [] μ 0 0 (PE (.inl none) res True)) : ∀ n : Nat, ∀ (v0 : Nat) (v1 : Int32) (v2 : Int32) (v3 : Int32) (v4 : Int32) (μ : Mem), fX11_laysErrands_172 K145 n v0 v1 v2 v3 v4 μ = some res → μ.1 = NN → (kd v0).1 = 21 → J ω l mX11_laysErrands (d + 2) 172 [(0, .ref v0), (1, .int v1), (2, .int v2), (3, .int v3), (4, .int v4)] [] μ 0 0 (PE (.inl none) res True) := by
  intro n
  induction n with
  | zero =>
    intro v0 v1 v2 v3 v4 μ h hN k0
    have h9 : (none : Option (Mem)) = some res := h
    cases h9
  | succ n ih =>
    intro v0 v1 v2 v3 v4 μ h hN k0
    unfold fX11_laysErrands_172 at h
    refine J.iload (pc := 172) dX11_laysErrands_172 4 rfl ?_
    refine J.aload_n (pc := 174) dX11_laysErrands_174 rfl 0 rfl ?_
    refine J.fI (pc := 175) dX11_laysErrands_175 fl_RX11_276 k0 (okN hN k0 (by decide)) (Or.inl rfl) ?_
    rcases ifc h with ⟨hc, h⟩ | ⟨hc, h⟩
    · refine J.cge (pc := 178) (tgt := 219) dX11_laysErrands_178 (by decide) (fun _ => ?_) (fun q => absurd hc q)
      refine J.aload_n (pc := 181) dX11_laysErrands_181 rfl 0 rfl ?_
      refine J.iload_n (pc := 182) dX11_laysErrands_182 rfl 1 rfl ?_
      refine J.iload (pc := 183) dX11_laysErrands_183 4 rfl ?_
      refine J.iload_n (pc := 185) dX11_laysErrands_185 rfl 2 rfl ?_
      obtain ⟨r2, e1, h⟩ := bnd h
      refine J.callV (Y := mX11_laysErrands) (Z := mX11_canTake) (pc := 186) (st := []) (k2 := 0) (n2 := 0) dX11_laysErrands_186 ml_RX11_410 mo_X11_canTake mv_X11_canTake rfl (tX11_canTake (d + 1) e1 hN k0) k0 (okN hN k0 (by decide)).1 (okN hN k0 (by decide)).2 cq_11 (by decide) rfl rfl (Nat.le_of_ble_eq_true rfl) (by decide) (by decide) (fun v ν hp => ?_) (fun i ν hp => nrm hp.1)
      obtain ⟨rfl, rfl, hN3, hb4⟩ := QEl hp
      show J _ _ _ _ 189 _ ([.int r2]) _ _ _ _
      rcases ifc h with ⟨hc, h⟩ | ⟨hc, h⟩
      · refine J.zeq (pc := 189) (tgt := 213) dX11_laysErrands_189 (by decide) (fun _ => ?_) (fun q => absurd hc q)
        refine J.iinc (pc := 213) (j := 4) ([(4, .int (v4 + (1 : Int32))), (0, .ref v0), (1, .int v1), (2, .int v2), (3, .int v3)]) dX11_laysErrands_213 rfl (iincv ic_1) (Nat.le_of_ble_eq_true rfl) rfl ?_
        refine J.goto (pc := 216) (tgt := 172) dX11_laysErrands_216 (by decide) ?_
        refine J.pick [1, 2, 3, 4, 0] rfl ?_
        exact ih v0 v1 v2 v3 (v4 + (1 : Int32)) μ h hN3 k0
      · refine J.zeq (pc := 189) (tgt := 213) dX11_laysErrands_189 (by decide) (fun q => absurd q hc) (fun _ => ?_)
        refine J.aload_n (pc := 192) dX11_laysErrands_192 rfl 0 rfl ?_
        refine J.iload_n (pc := 193) dX11_laysErrands_193 rfl 1 rfl ?_
        refine J.iload (pc := 194) dX11_laysErrands_194 4 rfl ?_
        refine J.iload_n (pc := 196) dX11_laysErrands_196 rfl 2 rfl ?_
        obtain ⟨r6, e5, h⟩ := bnd h
        refine J.callV (Y := mX11_laysErrands) (Z := mX11_takes) (pc := 197) (st := []) (k2 := 0) (n2 := 0) dX11_laysErrands_197 ml_RX11_413 mo_X11_takes mv_X11_takes rfl (tX11_takes (d + 1) e5 hN3 k0) k0 (okN hN3 k0 (by decide)).1 (okN hN3 k0 (by decide)).2 cq_11 (by decide) rfl rfl (Nat.le_of_ble_eq_true rfl) (by decide) (by decide) (fun v ν hp => ?_) (fun i ν hp => nrm hp.1)
        obtain ⟨rfl, rfl, hN7, hb8⟩ := QEl hp
        show J _ _ _ _ 200 _ ([.int r6]) _ _ _ _
        refine J.iload_n (pc := 200) dX11_laysErrands_200 rfl 3 rfl ?_
        rcases ifc h with ⟨hc, h⟩ | ⟨hc, h⟩
        · refine J.cle (pc := 201) (tgt := 213) dX11_laysErrands_201 (by decide) (fun _ => ?_) (fun q => absurd hc q)
          refine J.aload_n (pc := 204) dX11_laysErrands_204 rfl 0 rfl ?_
          refine J.iload_n (pc := 205) dX11_laysErrands_205 rfl 1 rfl ?_
          refine J.iload (pc := 206) dX11_laysErrands_206 4 rfl ?_
          refine J.iload_n (pc := 208) dX11_laysErrands_208 rfl 2 rfl ?_
          obtain ⟨r10, e9, h⟩ := bnd h
          refine J.callV (Y := mX11_laysErrands) (Z := mX11_takes) (pc := 209) (st := []) (k2 := 0) (n2 := 0) dX11_laysErrands_209 ml_RX11_413 mo_X11_takes mv_X11_takes rfl (tX11_takes (d + 1) e9 hN7 k0) k0 (okN hN7 k0 (by decide)).1 (okN hN7 k0 (by decide)).2 cq_11 (by decide) rfl rfl (Nat.le_of_ble_eq_true rfl) (by decide) (by decide) (fun v ν hp => ?_) (fun i ν hp => nrm hp.1)
          obtain ⟨rfl, rfl, hN11, hb12⟩ := QEl hp
          show J _ _ _ _ 212 _ ([.int r10]) _ _ _ _
          refine J.istore_n (pc := 212) ([(3, .int r10), (0, .ref v0), (1, .int v1), (2, .int v2), (4, .int v4)]) dX11_laysErrands_212 rfl (Nat.le_of_ble_eq_true rfl) rfl ?_
          refine J.iinc (pc := 213) (j := 4) ([(4, .int (v4 + (1 : Int32))), (3, .int r10), (0, .ref v0), (1, .int v1), (2, .int v2)]) dX11_laysErrands_213 rfl (iincv ic_1) (Nat.le_of_ble_eq_true rfl) rfl ?_
          refine J.goto (pc := 216) (tgt := 172) dX11_laysErrands_216 (by decide) ?_
          refine J.pick [2, 3, 4, 1, 0] rfl ?_
          exact ih v0 v1 v2 r10 (v4 + (1 : Int32)) μ h hN11 k0
        · refine J.cle (pc := 201) (tgt := 213) dX11_laysErrands_201 (by decide) (fun q => absurd q hc) (fun _ => ?_)
          refine J.iinc (pc := 213) (j := 4) ([(4, .int (v4 + (1 : Int32))), (0, .ref v0), (1, .int v1), (2, .int v2), (3, .int v3)]) dX11_laysErrands_213 rfl (iincv ic_1) (Nat.le_of_ble_eq_true rfl) rfl ?_
          refine J.goto (pc := 216) (tgt := 172) dX11_laysErrands_216 (by decide) ?_
          refine J.pick [1, 2, 3, 4, 0] rfl ?_
          exact ih v0 v1 v2 v3 (v4 + (1 : Int32)) μ h hN7 k0
    · refine J.cge (pc := 178) (tgt := 219) dX11_laysErrands_178 (by decide) (fun q => absurd q hc) (fun _ => ?_)
      refine J.aload_n (pc := 219) dX11_laysErrands_219 rfl 0 rfl ?_
      obtain ⟨a13, e14, h⟩ := bnd h
      have k15 : (kd a13).1 = 0 := gR_k e14
      refine J.fR (pc := 220) dX11_laysErrands_220 fl_RX11_78 k0 (okN hN k0 (by decide)) rfl e14 ?_
      refine J.bipush (pc := 223) dX11_laysErrands_223 ib_64 ?_
      refine J.iload_n (pc := 225) dX11_laysErrands_225 rfl 1 rfl ?_
      refine J.imul (pc := 226) dX11_laysErrands_226 ?_
      refine J.iload_n (pc := 227) dX11_laysErrands_227 rfl 2 rfl ?_
      refine J.iadd (pc := 228) dX11_laysErrands_228 ?_
      refine J.iload_n (pc := 229) dX11_laysErrands_229 rfl 3 rfl ?_
      obtain ⟨μ16, e17, h⟩ := bnd h
      have hN18 : μ16.1 = NN := stI_N e17 hN
      refine J.wI (pc := 230) dX11_laysErrands_230 k15 (okN hN k15 (by decide)) e17 ?_
      refine J.iinc (pc := 231) (j := 2) ([(2, .int (v2 + (1 : Int32))), (0, .ref v0), (1, .int v1), (3, .int v3), (4, .int v4)]) dX11_laysErrands_231 rfl (iincv ic_1) (Nat.le_of_ble_eq_true rfl) rfl ?_
      refine J.goto (pc := 234) (tgt := 145) dX11_laysErrands_234 (by decide) ?_
      refine J.pick [1, 2, 0] rfl ?_
      exact hK145 v0 v1 (v2 + (1 : Int32)) μ16 h hN18 k0
def fX11_laysErrands_145  (K139 : Nat → Int32 → Mem → Option (Mem)) : Nat → Nat → Int32 → Int32 → Mem → Option (Mem)
  | 0, _, _, _, _ => none
  | n + 1, v0, v1, v2, μ =>
    if v2 < ((1 : Int32) <<< ((μ.2.1 v0 2) &&& 31)) then
      (gR μ v0 48 0).bind fun a1 =>
      (ldI μ a1 (((64 : Int32) * (v1 + (1 : Int32))) + v2)).bind fun x4 =>
      (fX11_laysErrands_172 (fX11_laysErrands_145 K139 n) fuel) v0 v1 v2 x4 (0 : Int32) μ
    else
      K139 v0 (v1 + (-1 : Int32)) μ
set_option maxHeartbeats 4000000 in
theorem tX11_laysErrands_145 {ω : Wd} {l : Launch} (d : Nat) {res : Mem} (K139 : Nat → Int32 → Mem → Option (Mem)) (hK139 : ∀ (v0 : Nat) (v1 : Int32) (μ : Mem), K139 v0 v1 μ = some res → μ.1 = NN → (kd v0).1 = 21 → J ω l mX11_laysErrands (d + 2) 139 [(0, .ref v0), (1, .int v1)] [] μ 0 0 (PE (.inl none) res True)) : ∀ n : Nat, ∀ (v0 : Nat) (v1 : Int32) (v2 : Int32) (μ : Mem), fX11_laysErrands_145 K139 n v0 v1 v2 μ = some res → μ.1 = NN → (kd v0).1 = 21 → J ω l mX11_laysErrands (d + 2) 145 [(0, .ref v0), (1, .int v1), (2, .int v2)] [] μ 0 0 (PE (.inl none) res True) := by
  intro n
  induction n with
  | zero =>
    intro v0 v1 v2 μ h hN k0
    have h9 : (none : Option (Mem)) = some res := h
    cases h9
  | succ n ih =>
    intro v0 v1 v2 μ h hN k0
    unfold fX11_laysErrands_145 at h
    refine J.iload_n (pc := 145) dX11_laysErrands_145 rfl 2 rfl ?_
    refine J.iconst (pc := 146) dX11_laysErrands_146 ic_1 ?_
    refine J.aload_n (pc := 147) dX11_laysErrands_147 rfl 0 rfl ?_
    refine J.fI (pc := 148) dX11_laysErrands_148 fl_RX11_276 k0 (okN hN k0 (by decide)) (Or.inl rfl) ?_
    refine J.ishl (pc := 151) dX11_laysErrands_151 ?_
    rcases ifc h with ⟨hc, h⟩ | ⟨hc, h⟩
    · refine J.cge (pc := 152) (tgt := 237) dX11_laysErrands_152 (by decide) (fun _ => ?_) (fun q => absurd hc q)
      refine J.aload_n (pc := 155) dX11_laysErrands_155 rfl 0 rfl ?_
      obtain ⟨a1, e2, h⟩ := bnd h
      have k3 : (kd a1).1 = 0 := gR_k e2
      refine J.fR (pc := 156) dX11_laysErrands_156 fl_RX11_78 k0 (okN hN k0 (by decide)) rfl e2 ?_
      refine J.bipush (pc := 159) dX11_laysErrands_159 ib_64 ?_
      refine J.iload_n (pc := 161) dX11_laysErrands_161 rfl 1 rfl ?_
      refine J.iconst (pc := 162) dX11_laysErrands_162 ic_1 ?_
      refine J.iadd (pc := 163) dX11_laysErrands_163 ?_
      refine J.imul (pc := 164) dX11_laysErrands_164 ?_
      refine J.iload_n (pc := 165) dX11_laysErrands_165 rfl 2 rfl ?_
      refine J.iadd (pc := 166) dX11_laysErrands_166 ?_
      obtain ⟨x4, e5, h⟩ := bnd h
      refine J.aI (pc := 167) dX11_laysErrands_167 k3 (okN hN k3 (by decide)) e5 ?_
      refine J.istore_n (pc := 168) ([(3, .int x4), (0, .ref v0), (1, .int v1), (2, .int v2)]) dX11_laysErrands_168 rfl (Nat.le_of_ble_eq_true rfl) rfl ?_
      refine J.iconst (pc := 169) dX11_laysErrands_169 ic_0 ?_
      refine J.istore (pc := 170) ([(4, .int (0 : Int32)), (3, .int x4), (0, .ref v0), (1, .int v1), (2, .int v2)]) dX11_laysErrands_170 (Nat.le_of_ble_eq_true rfl) rfl ?_
      refine J.pick [2, 3, 4, 1, 0] rfl ?_
      exact (tX11_laysErrands_172 d (fX11_laysErrands_145 K139 n) ih fuel) v0 v1 v2 x4 (0 : Int32) μ h hN k0
    · refine J.cge (pc := 152) (tgt := 237) dX11_laysErrands_152 (by decide) (fun q => absurd q hc) (fun _ => ?_)
      refine J.iinc (pc := 237) (j := 1) ([(1, .int (v1 + (-1 : Int32))), (0, .ref v0), (2, .int v2)]) dX11_laysErrands_237 rfl (iincv ic_m1) (Nat.le_of_ble_eq_true rfl) rfl ?_
      refine J.goto (pc := 240) (tgt := 139) dX11_laysErrands_240 (by decide) ?_
      refine J.pick [1, 0] rfl ?_
      exact hK139 v0 (v1 + (-1 : Int32)) μ h hN k0
def fX11_laysErrands_139  : Nat → Nat → Int32 → Mem → Option (Mem)
  | 0, _, _, _ => none
  | n + 1, v0, v1, μ =>
    if v1 < 0 then
      some μ
    else
      (fX11_laysErrands_145 (fX11_laysErrands_139 n) fuel) v0 v1 (0 : Int32) μ
set_option maxHeartbeats 4000000 in
theorem tX11_laysErrands_139 {ω : Wd} {l : Launch} (d : Nat) {res : Mem} : ∀ n : Nat, ∀ (v0 : Nat) (v1 : Int32) (μ : Mem), fX11_laysErrands_139 n v0 v1 μ = some res → μ.1 = NN → (kd v0).1 = 21 → J ω l mX11_laysErrands (d + 2) 139 [(0, .ref v0), (1, .int v1)] [] μ 0 0 (PE (.inl none) res True) := by
  intro n
  induction n with
  | zero =>
    intro v0 v1 μ h hN k0
    have h9 : (none : Option (Mem)) = some res := h
    cases h9
  | succ n ih =>
    intro v0 v1 μ h hN k0
    unfold fX11_laysErrands_139 at h
    refine J.iload_n (pc := 139) dX11_laysErrands_139 rfl 1 rfl ?_
    rcases ifc h with ⟨hc, h⟩ | ⟨hc, h⟩
    · refine J.zlt (pc := 140) (tgt := 243) dX11_laysErrands_140 (by decide) (fun _ => ?_) (fun q => absurd hc q)
      cases h
      exact J.vret (pc := 243) dX11_laysErrands_243 rfl ⟨rfl, rfl, hN, trivial⟩
    · refine J.zlt (pc := 140) (tgt := 243) dX11_laysErrands_140 (by decide) (fun q => absurd q hc) (fun _ => ?_)
      refine J.iconst (pc := 143) dX11_laysErrands_143 ic_0 ?_
      refine J.istore_n (pc := 144) ([(2, .int (0 : Int32)), (0, .ref v0), (1, .int v1)]) dX11_laysErrands_144 rfl (Nat.le_of_ble_eq_true rfl) rfl ?_
      refine J.pick [1, 2, 0] rfl ?_
      exact (tX11_laysErrands_145 d (fX11_laysErrands_139 n) ih fuel) v0 v1 (0 : Int32) μ h hN k0
def fX11_laysErrands_105  : Nat → Nat → Int32 → Mem → Option (Mem)
  | 0, _, _, _ => none
  | n + 1, v0, v1, μ =>
    if v1 < (64 : Int32) then
      (gR μ v0 48 0).bind fun a1 =>
      (stI μ a1 (((64 : Int32) * (μ.2.1 v0 2)) + v1) (0 : Int32)).bind fun μ4 =>
      (fX11_laysErrands_105 n) v0 (v1 + (1 : Int32)) μ4
    else
      (fX11_laysErrands_139 fuel) v0 ((μ.2.1 v0 2) - (1 : Int32)) μ
set_option maxHeartbeats 4000000 in
theorem tX11_laysErrands_105 {ω : Wd} {l : Launch} (d : Nat) {res : Mem} : ∀ n : Nat, ∀ (v0 : Nat) (v1 : Int32) (μ : Mem), fX11_laysErrands_105 n v0 v1 μ = some res → μ.1 = NN → (kd v0).1 = 21 → J ω l mX11_laysErrands (d + 2) 105 [(0, .ref v0), (1, .int v1)] [] μ 0 0 (PE (.inl none) res True) := by
  intro n
  induction n with
  | zero =>
    intro v0 v1 μ h hN k0
    have h9 : (none : Option (Mem)) = some res := h
    cases h9
  | succ n ih =>
    intro v0 v1 μ h hN k0
    unfold fX11_laysErrands_105 at h
    refine J.iload_n (pc := 105) dX11_laysErrands_105 rfl 1 rfl ?_
    refine J.bipush (pc := 106) dX11_laysErrands_106 ib_64 ?_
    rcases ifc h with ⟨hc, h⟩ | ⟨hc, h⟩
    · refine J.cge (pc := 108) (tgt := 132) dX11_laysErrands_108 (by decide) (fun _ => ?_) (fun q => absurd hc q)
      refine J.aload_n (pc := 111) dX11_laysErrands_111 rfl 0 rfl ?_
      obtain ⟨a1, e2, h⟩ := bnd h
      have k3 : (kd a1).1 = 0 := gR_k e2
      refine J.fR (pc := 112) dX11_laysErrands_112 fl_RX11_78 k0 (okN hN k0 (by decide)) rfl e2 ?_
      refine J.bipush (pc := 115) dX11_laysErrands_115 ib_64 ?_
      refine J.aload_n (pc := 117) dX11_laysErrands_117 rfl 0 rfl ?_
      refine J.fI (pc := 118) dX11_laysErrands_118 fl_RX11_276 k0 (okN hN k0 (by decide)) (Or.inl rfl) ?_
      refine J.imul (pc := 121) dX11_laysErrands_121 ?_
      refine J.iload_n (pc := 122) dX11_laysErrands_122 rfl 1 rfl ?_
      refine J.iadd (pc := 123) dX11_laysErrands_123 ?_
      refine J.iconst (pc := 124) dX11_laysErrands_124 ic_0 ?_
      obtain ⟨μ4, e5, h⟩ := bnd h
      have hN6 : μ4.1 = NN := stI_N e5 hN
      refine J.wI (pc := 125) dX11_laysErrands_125 k3 (okN hN k3 (by decide)) e5 ?_
      refine J.iinc (pc := 126) (j := 1) ([(1, .int (v1 + (1 : Int32))), (0, .ref v0)]) dX11_laysErrands_126 rfl (iincv ic_1) (Nat.le_of_ble_eq_true rfl) rfl ?_
      refine J.goto (pc := 129) (tgt := 105) dX11_laysErrands_129 (by decide) ?_
      refine J.pick [1, 0] rfl ?_
      exact ih v0 (v1 + (1 : Int32)) μ4 h hN6 k0
    · refine J.cge (pc := 108) (tgt := 132) dX11_laysErrands_108 (by decide) (fun q => absurd q hc) (fun _ => ?_)
      refine J.aload_n (pc := 132) dX11_laysErrands_132 rfl 0 rfl ?_
      refine J.fI (pc := 133) dX11_laysErrands_133 fl_RX11_276 k0 (okN hN k0 (by decide)) (Or.inl rfl) ?_
      refine J.iconst (pc := 136) dX11_laysErrands_136 ic_1 ?_
      refine J.isub (pc := 137) dX11_laysErrands_137 ?_
      refine J.istore_n (pc := 138) ([(1, .int ((μ.2.1 v0 2) - (1 : Int32))), (0, .ref v0)]) dX11_laysErrands_138 rfl (Nat.le_of_ble_eq_true rfl) rfl ?_
      refine J.pick [1, 0] rfl ?_
      exact (tX11_laysErrands_139 d fuel) v0 ((μ.2.1 v0 2) - (1 : Int32)) μ h hN k0
def fX11_laysErrands_39  (K2 : Nat → Int32 → Mem → Option (Mem)) : Nat → Nat → Int32 → Int32 → Mem → Option (Mem)
  | 0, _, _, _, _ => none
  | n + 1, v0, v1, v2, μ =>
    if v2 < (μ.2.1 v0 2) then
      (gR μ v0 47 0).bind fun a1 =>
      (gR μ v0 34 0).bind fun a4 =>
      (ldI μ a4 ((61 : Int32) + v1)).bind fun x7 =>
      if x7 = (-1 : Int32) then
        (stI μ a1 (((6 : Int32) * v2) + v1) (9999 : Int32)).bind fun μ9 =>
        (fX11_laysErrands_39 K2 n) v0 v1 (v2 + (1 : Int32)) μ9
      else
        (gR μ v0 39 0).bind fun a12 =>
        (gR μ v0 34 0).bind fun a15 =>
        (ldI μ a15 ((55 : Int32) + v2)).bind fun x18 =>
        (ldI μ a12 x18).bind fun x20 =>
        (stI μ a1 (((6 : Int32) * v2) + v1) x20).bind fun μ22 =>
        (fX11_laysErrands_39 K2 n) v0 v1 (v2 + (1 : Int32)) μ22
    else
      K2 v0 (v1 + (1 : Int32)) μ
set_option maxHeartbeats 4000000 in
theorem tX11_laysErrands_39 {ω : Wd} {l : Launch} (d : Nat) {res : Mem} (K2 : Nat → Int32 → Mem → Option (Mem)) (hK2 : ∀ (v0 : Nat) (v1 : Int32) (μ : Mem), K2 v0 v1 μ = some res → μ.1 = NN → (kd v0).1 = 21 → J ω l mX11_laysErrands (d + 2) 2 [(0, .ref v0), (1, .int v1)] [] μ 0 0 (PE (.inl none) res True)) : ∀ n : Nat, ∀ (v0 : Nat) (v1 : Int32) (v2 : Int32) (μ : Mem), fX11_laysErrands_39 K2 n v0 v1 v2 μ = some res → μ.1 = NN → (kd v0).1 = 21 → J ω l mX11_laysErrands (d + 2) 39 [(0, .ref v0), (1, .int v1), (2, .int v2)] [] μ 0 0 (PE (.inl none) res True) := by
  intro n
  induction n with
  | zero =>
    intro v0 v1 v2 μ h hN k0
    have h9 : (none : Option (Mem)) = some res := h
    cases h9
  | succ n ih =>
    intro v0 v1 v2 μ h hN k0
    unfold fX11_laysErrands_39 at h
    refine J.iload_n (pc := 39) dX11_laysErrands_39 rfl 2 rfl ?_
    refine J.aload_n (pc := 40) dX11_laysErrands_40 rfl 0 rfl ?_
    refine J.fI (pc := 41) dX11_laysErrands_41 fl_RX11_276 k0 (okN hN k0 (by decide)) (Or.inl rfl) ?_
    rcases ifc h with ⟨hc, h⟩ | ⟨hc, h⟩
    · refine J.cge (pc := 44) (tgt := 97) dX11_laysErrands_44 (by decide) (fun _ => ?_) (fun q => absurd hc q)
      refine J.aload_n (pc := 47) dX11_laysErrands_47 rfl 0 rfl ?_
      obtain ⟨a1, e2, h⟩ := bnd h
      have k3 : (kd a1).1 = 0 := gR_k e2
      refine J.fR (pc := 48) dX11_laysErrands_48 fl_RX11_75 k0 (okN hN k0 (by decide)) rfl e2 ?_
      refine J.bipush (pc := 51) dX11_laysErrands_51 ib_6 ?_
      refine J.iload_n (pc := 53) dX11_laysErrands_53 rfl 2 rfl ?_
      refine J.imul (pc := 54) dX11_laysErrands_54 ?_
      refine J.iload_n (pc := 55) dX11_laysErrands_55 rfl 1 rfl ?_
      refine J.iadd (pc := 56) dX11_laysErrands_56 ?_
      refine J.aload_n (pc := 57) dX11_laysErrands_57 rfl 0 rfl ?_
      obtain ⟨a4, e5, h⟩ := bnd h
      have k6 : (kd a4).1 = 0 := gR_k e5
      refine J.fR (pc := 58) dX11_laysErrands_58 fl_RX11_48 k0 (okN hN k0 (by decide)) rfl e5 ?_
      refine J.bipush (pc := 61) dX11_laysErrands_61 ib_61 ?_
      refine J.iload_n (pc := 63) dX11_laysErrands_63 rfl 1 rfl ?_
      refine J.iadd (pc := 64) dX11_laysErrands_64 ?_
      obtain ⟨x7, e8, h⟩ := bnd h
      refine J.aI (pc := 65) dX11_laysErrands_65 k6 (okN hN k6 (by decide)) e8 ?_
      refine J.iconst (pc := 66) dX11_laysErrands_66 ic_m1 ?_
      rcases ifc h with ⟨hc, h⟩ | ⟨hc, h⟩
      · refine J.cne (pc := 67) (tgt := 76) dX11_laysErrands_67 (by decide) (fun _ => ?_) (fun q => absurd hc q)
        refine J.sipush (pc := 70) dX11_laysErrands_70 is_9999 ?_
        refine J.goto (pc := 73) (tgt := 90) dX11_laysErrands_73 (by decide) ?_
        obtain ⟨μ9, e10, h⟩ := bnd h
        have hN11 : μ9.1 = NN := stI_N e10 hN
        refine J.wI (pc := 90) dX11_laysErrands_90 k3 (okN hN k3 (by decide)) e10 ?_
        refine J.iinc (pc := 91) (j := 2) ([(2, .int (v2 + (1 : Int32))), (0, .ref v0), (1, .int v1)]) dX11_laysErrands_91 rfl (iincv ic_1) (Nat.le_of_ble_eq_true rfl) rfl ?_
        refine J.goto (pc := 94) (tgt := 39) dX11_laysErrands_94 (by decide) ?_
        refine J.pick [1, 2, 0] rfl ?_
        exact ih v0 v1 (v2 + (1 : Int32)) μ9 h hN11 k0
      · refine J.cne (pc := 67) (tgt := 76) dX11_laysErrands_67 (by decide) (fun q => absurd q hc) (fun _ => ?_)
        refine J.aload_n (pc := 76) dX11_laysErrands_76 rfl 0 rfl ?_
        obtain ⟨a12, e13, h⟩ := bnd h
        have k14 : (kd a12).1 = 0 := gR_k e13
        refine J.fR (pc := 77) dX11_laysErrands_77 fl_RX11_60 k0 (okN hN k0 (by decide)) rfl e13 ?_
        refine J.aload_n (pc := 80) dX11_laysErrands_80 rfl 0 rfl ?_
        obtain ⟨a15, e16, h⟩ := bnd h
        have k17 : (kd a15).1 = 0 := gR_k e16
        refine J.fR (pc := 81) dX11_laysErrands_81 fl_RX11_48 k0 (okN hN k0 (by decide)) rfl e16 ?_
        refine J.bipush (pc := 84) dX11_laysErrands_84 ib_55 ?_
        refine J.iload_n (pc := 86) dX11_laysErrands_86 rfl 2 rfl ?_
        refine J.iadd (pc := 87) dX11_laysErrands_87 ?_
        obtain ⟨x18, e19, h⟩ := bnd h
        refine J.aI (pc := 88) dX11_laysErrands_88 k17 (okN hN k17 (by decide)) e19 ?_
        obtain ⟨x20, e21, h⟩ := bnd h
        refine J.aI (pc := 89) dX11_laysErrands_89 k14 (okN hN k14 (by decide)) e21 ?_
        obtain ⟨μ22, e23, h⟩ := bnd h
        have hN24 : μ22.1 = NN := stI_N e23 hN
        refine J.wI (pc := 90) dX11_laysErrands_90 k3 (okN hN k3 (by decide)) e23 ?_
        refine J.iinc (pc := 91) (j := 2) ([(2, .int (v2 + (1 : Int32))), (0, .ref v0), (1, .int v1)]) dX11_laysErrands_91 rfl (iincv ic_1) (Nat.le_of_ble_eq_true rfl) rfl ?_
        refine J.goto (pc := 94) (tgt := 39) dX11_laysErrands_94 (by decide) ?_
        refine J.pick [1, 2, 0] rfl ?_
        exact ih v0 v1 (v2 + (1 : Int32)) μ22 h hN24 k0
    · refine J.cge (pc := 44) (tgt := 97) dX11_laysErrands_44 (by decide) (fun q => absurd q hc) (fun _ => ?_)
      refine J.iinc (pc := 97) (j := 1) ([(1, .int (v1 + (1 : Int32))), (0, .ref v0), (2, .int v2)]) dX11_laysErrands_97 rfl (iincv ic_1) (Nat.le_of_ble_eq_true rfl) rfl ?_
      refine J.goto (pc := 100) (tgt := 2) dX11_laysErrands_100 (by decide) ?_
      refine J.pick [1, 0] rfl ?_
      exact hK2 v0 (v1 + (1 : Int32)) μ h hN k0
def fX11_laysErrands_2  : Nat → Nat → Int32 → Mem → Option (Mem)
  | 0, _, _, _ => none
  | n + 1, v0, v1, μ =>
    if v1 < (μ.2.1 v0 2) then
      (gR μ v0 34 0).bind fun a1 =>
      (ldI μ a1 ((61 : Int32) + v1)).bind fun x4 =>
      if x4 = (-1 : Int32) then
        (fX11_laysErrands_39 (fX11_laysErrands_2 n) fuel) v0 v1 (0 : Int32) μ
      else
        (gR μ v0 34 0).bind fun a6 =>
        (ldI μ a6 ((61 : Int32) + v1)).bind fun x9 =>
        (fX11_laysFar v0 (0 : Int32) x9 μ).bind fun μ12 =>
        (fX11_laysErrands_39 (fX11_laysErrands_2 n) fuel) v0 v1 (0 : Int32) μ12
    else
      (fX11_laysErrands_105 fuel) v0 (0 : Int32) μ
set_option maxHeartbeats 4000000 in
theorem tX11_laysErrands_2 {ω : Wd} {l : Launch} (d : Nat) {res : Mem} : ∀ n : Nat, ∀ (v0 : Nat) (v1 : Int32) (μ : Mem), fX11_laysErrands_2 n v0 v1 μ = some res → μ.1 = NN → (kd v0).1 = 21 → J ω l mX11_laysErrands (d + 2) 2 [(0, .ref v0), (1, .int v1)] [] μ 0 0 (PE (.inl none) res True) := by
  intro n
  induction n with
  | zero =>
    intro v0 v1 μ h hN k0
    have h9 : (none : Option (Mem)) = some res := h
    cases h9
  | succ n ih =>
    intro v0 v1 μ h hN k0
    unfold fX11_laysErrands_2 at h
    refine J.iload_n (pc := 2) dX11_laysErrands_2 rfl 1 rfl ?_
    refine J.aload_n (pc := 3) dX11_laysErrands_3 rfl 0 rfl ?_
    refine J.fI (pc := 4) dX11_laysErrands_4 fl_RX11_276 k0 (okN hN k0 (by decide)) (Or.inl rfl) ?_
    rcases ifc h with ⟨hc, h⟩ | ⟨hc, h⟩
    · refine J.cge (pc := 7) (tgt := 103) dX11_laysErrands_7 (by decide) (fun _ => ?_) (fun q => absurd hc q)
      refine J.aload_n (pc := 10) dX11_laysErrands_10 rfl 0 rfl ?_
      obtain ⟨a1, e2, h⟩ := bnd h
      have k3 : (kd a1).1 = 0 := gR_k e2
      refine J.fR (pc := 11) dX11_laysErrands_11 fl_RX11_48 k0 (okN hN k0 (by decide)) rfl e2 ?_
      refine J.bipush (pc := 14) dX11_laysErrands_14 ib_61 ?_
      refine J.iload_n (pc := 16) dX11_laysErrands_16 rfl 1 rfl ?_
      refine J.iadd (pc := 17) dX11_laysErrands_17 ?_
      obtain ⟨x4, e5, h⟩ := bnd h
      refine J.aI (pc := 18) dX11_laysErrands_18 k3 (okN hN k3 (by decide)) e5 ?_
      refine J.iconst (pc := 19) dX11_laysErrands_19 ic_m1 ?_
      rcases ifc h with ⟨hc, h⟩ | ⟨hc, h⟩
      · refine J.ceq (pc := 20) (tgt := 37) dX11_laysErrands_20 (by decide) (fun _ => ?_) (fun q => absurd hc q)
        refine J.iconst (pc := 37) dX11_laysErrands_37 ic_0 ?_
        refine J.istore_n (pc := 38) ([(2, .int (0 : Int32)), (0, .ref v0), (1, .int v1)]) dX11_laysErrands_38 rfl (Nat.le_of_ble_eq_true rfl) rfl ?_
        refine J.pick [1, 2, 0] rfl ?_
        exact (tX11_laysErrands_39 d (fX11_laysErrands_2 n) ih fuel) v0 v1 (0 : Int32) μ h hN k0
      · refine J.ceq (pc := 20) (tgt := 37) dX11_laysErrands_20 (by decide) (fun q => absurd q hc) (fun _ => ?_)
        refine J.aload_n (pc := 23) dX11_laysErrands_23 rfl 0 rfl ?_
        refine J.iconst (pc := 24) dX11_laysErrands_24 ic_0 ?_
        refine J.aload_n (pc := 25) dX11_laysErrands_25 rfl 0 rfl ?_
        obtain ⟨a6, e7, h⟩ := bnd h
        have k8 : (kd a6).1 = 0 := gR_k e7
        refine J.fR (pc := 26) dX11_laysErrands_26 fl_RX11_48 k0 (okN hN k0 (by decide)) rfl e7 ?_
        refine J.bipush (pc := 29) dX11_laysErrands_29 ib_61 ?_
        refine J.iload_n (pc := 31) dX11_laysErrands_31 rfl 1 rfl ?_
        refine J.iadd (pc := 32) dX11_laysErrands_32 ?_
        obtain ⟨x9, e10, h⟩ := bnd h
        refine J.aI (pc := 33) dX11_laysErrands_33 k8 (okN hN k8 (by decide)) e10 ?_
        obtain ⟨μ12, e11, h⟩ := bnd h
        refine J.callV (Y := mX11_laysErrands) (Z := mX11_laysFar) (pc := 34) (st := []) (k2 := 0) (n2 := 0) dX11_laysErrands_34 ml_RX11_313 mo_X11_laysFar mv_X11_laysFar rfl (tX11_laysFar d e11 hN k0) k0 (okN hN k0 (by decide)).1 (okN hN k0 (by decide)).2 cq_11 (by decide) rfl rfl (Nat.le_of_ble_eq_true rfl) (by decide) (by decide) (fun v ν hp => ?_) (fun i ν hp => nrm hp.1)
        obtain ⟨rfl, rfl, hN13, hb14⟩ := QEl hp
        show J _ _ _ _ 37 _ ([]) _ _ _ _
        refine J.iconst (pc := 37) dX11_laysErrands_37 ic_0 ?_
        refine J.istore_n (pc := 38) ([(2, .int (0 : Int32)), (0, .ref v0), (1, .int v1)]) dX11_laysErrands_38 rfl (Nat.le_of_ble_eq_true rfl) rfl ?_
        refine J.pick [1, 2, 0] rfl ?_
        exact (tX11_laysErrands_39 d (fX11_laysErrands_2 n) ih fuel) v0 v1 (0 : Int32) μ12 h hN13 k0
    · refine J.cge (pc := 7) (tgt := 103) dX11_laysErrands_7 (by decide) (fun q => absurd q hc) (fun _ => ?_)
      refine J.iconst (pc := 103) dX11_laysErrands_103 ic_0 ?_
      refine J.istore_n (pc := 104) ([(1, .int (0 : Int32)), (0, .ref v0)]) dX11_laysErrands_104 rfl (Nat.le_of_ble_eq_true rfl) rfl ?_
      refine J.pick [1, 0] rfl ?_
      exact (tX11_laysErrands_105 d fuel) v0 (0 : Int32) μ h hN k0
def fX11_laysErrands (v0 : Nat) (μ : Mem) : Option (Mem) :=
  (fX11_laysErrands_2 fuel) v0 (0 : Int32) μ
set_option maxHeartbeats 4000000 in
theorem tX11_laysErrands {ω : Wd} {l : Launch} (d : Nat) {v0 : Nat} {μ : Mem} {res : Mem} (h : fX11_laysErrands v0 μ = some res) (hN : μ.1 = NN) (k0 : (kd v0).1 = 21) : Ct ω l mX11_laysErrands (d + 2) [.ref v0] μ 0 0 (PE (.inl none) res True) := by
  refine Ct.of pn_RX11 (Nat.le_of_ble_eq_true rfl) ?_
  show J ω l mX11_laysErrands (d + 2) 0 [(0, .ref v0)] [] μ 0 0 _
  unfold fX11_laysErrands at h
  refine J.iconst (pc := 0) dX11_laysErrands_0 ic_0 ?_
  refine J.istore_n (pc := 1) ([(1, .int (0 : Int32)), (0, .ref v0)]) dX11_laysErrands_1 rfl (Nat.le_of_ble_eq_true rfl) rfl ?_
  refine J.pick [1, 0] rfl ?_
  exact (tX11_laysErrands_2 d fuel) v0 (0 : Int32) μ h hN k0
def fX11_errand_42  (K26 : Nat → Int32 → Int32 → Int32 → Int32 → Mem → Option (Int32 × Mem)) : Nat → Nat → Int32 → Int32 → Int32 → Int32 → Int32 → Mem → Option (Int32 × Mem)
  | 0, _, _, _, _, _, _, _ => none
  | n + 1, v0, v1, v2, v3, v4, v5, μ =>
    if v5 < 0 then
      if v3 = (-1 : Int32) then
        K26 v0 v1 v2 v3 (v4 + (1 : Int32)) μ
      else
        K26 v0 v1 (v2 ||| ((1 : Int32) <<< (v3 &&& 31))) v3 (v4 + (1 : Int32)) μ
    else
      (fX11_canTake v0 v4 v5 v2 μ).bind fun r2 =>
      if r2 = 0 then
        (fX11_errand_42 K26 n) v0 v1 v2 v3 v4 (v5 + (-1 : Int32)) μ
      else
        (fX11_takes v0 v4 v5 v2 μ).bind fun r6 =>
        (gR μ v0 48 0).bind fun a9 =>
        (ldI μ a9 (((64 : Int32) * v4) + v2)).bind fun x12 =>
        if r6 = x12 then
          (fX11_errand_42 K26 n) v0 v1 v2 v5 v4 (v5 + (-1 : Int32)) μ
        else
          (fX11_errand_42 K26 n) v0 v1 v2 v3 v4 (v5 + (-1 : Int32)) μ
set_option maxHeartbeats 4000000 in
theorem tX11_errand_42 {ω : Wd} {l : Launch} (d : Nat) {res : Int32 × Mem} (K26 : Nat → Int32 → Int32 → Int32 → Int32 → Mem → Option (Int32 × Mem)) (hK26 : ∀ (v0 : Nat) (v1 : Int32) (v2 : Int32) (v3 : Int32) (v4 : Int32) (μ : Mem), K26 v0 v1 v2 v3 v4 μ = some res → μ.1 = NN → (kd v0).1 = 21 → J ω l mX11_errand (d + 3) 26 [(0, .ref v0), (1, .int v1), (2, .int v2), (3, .int v3), (4, .int v4)] [] μ 0 0 (PE (.inl (some (.int res.1))) res.2 True)) : ∀ n : Nat, ∀ (v0 : Nat) (v1 : Int32) (v2 : Int32) (v3 : Int32) (v4 : Int32) (v5 : Int32) (μ : Mem), fX11_errand_42 K26 n v0 v1 v2 v3 v4 v5 μ = some res → μ.1 = NN → (kd v0).1 = 21 → J ω l mX11_errand (d + 3) 42 [(0, .ref v0), (1, .int v1), (2, .int v2), (3, .int v3), (4, .int v4), (5, .int v5)] [] μ 0 0 (PE (.inl (some (.int res.1))) res.2 True) := by
  intro n
  induction n with
  | zero =>
    intro v0 v1 v2 v3 v4 v5 μ h hN k0
    have h9 : (none : Option (Int32 × Mem)) = some res := h
    cases h9
  | succ n ih =>
    intro v0 v1 v2 v3 v4 v5 μ h hN k0
    unfold fX11_errand_42 at h
    refine J.iload (pc := 42) dX11_errand_42 5 rfl ?_
    rcases ifc h with ⟨hc, h⟩ | ⟨hc, h⟩
    · refine J.zlt (pc := 44) (tgt := 92) dX11_errand_44 (by decide) (fun _ => ?_) (fun q => absurd hc q)
      refine J.iload_n (pc := 92) dX11_errand_92 rfl 3 rfl ?_
      refine J.iconst (pc := 93) dX11_errand_93 ic_m1 ?_
      rcases ifc h with ⟨hc, h⟩ | ⟨hc, h⟩
      · refine J.ceq (pc := 94) (tgt := 103) dX11_errand_94 (by decide) (fun _ => ?_) (fun q => absurd hc q)
        refine J.iinc (pc := 103) (j := 4) ([(4, .int (v4 + (1 : Int32))), (0, .ref v0), (1, .int v1), (2, .int v2), (3, .int v3), (5, .int v5)]) dX11_errand_103 rfl (iincv ic_1) (Nat.le_of_ble_eq_true rfl) rfl ?_
        refine J.goto (pc := 106) (tgt := 26) dX11_errand_106 (by decide) ?_
        refine J.pick [1, 2, 3, 4, 0] rfl ?_
        exact hK26 v0 v1 v2 v3 (v4 + (1 : Int32)) μ h hN k0
      · refine J.ceq (pc := 94) (tgt := 103) dX11_errand_94 (by decide) (fun q => absurd q hc) (fun _ => ?_)
        refine J.iload_n (pc := 97) dX11_errand_97 rfl 2 rfl ?_
        refine J.iconst (pc := 98) dX11_errand_98 ic_1 ?_
        refine J.iload_n (pc := 99) dX11_errand_99 rfl 3 rfl ?_
        refine J.ishl (pc := 100) dX11_errand_100 ?_
        refine J.ior (pc := 101) dX11_errand_101 ?_
        refine J.istore_n (pc := 102) ([(2, .int (v2 ||| ((1 : Int32) <<< (v3 &&& 31)))), (0, .ref v0), (1, .int v1), (3, .int v3), (4, .int v4), (5, .int v5)]) dX11_errand_102 rfl (Nat.le_of_ble_eq_true rfl) rfl ?_
        refine J.iinc (pc := 103) (j := 4) ([(4, .int (v4 + (1 : Int32))), (2, .int (v2 ||| ((1 : Int32) <<< (v3 &&& 31)))), (0, .ref v0), (1, .int v1), (3, .int v3), (5, .int v5)]) dX11_errand_103 rfl (iincv ic_1) (Nat.le_of_ble_eq_true rfl) rfl ?_
        refine J.goto (pc := 106) (tgt := 26) dX11_errand_106 (by decide) ?_
        refine J.pick [2, 3, 1, 4, 0] rfl ?_
        exact hK26 v0 v1 (v2 ||| ((1 : Int32) <<< (v3 &&& 31))) v3 (v4 + (1 : Int32)) μ h hN k0
    · refine J.zlt (pc := 44) (tgt := 92) dX11_errand_44 (by decide) (fun q => absurd q hc) (fun _ => ?_)
      refine J.aload_n (pc := 47) dX11_errand_47 rfl 0 rfl ?_
      refine J.iload (pc := 48) dX11_errand_48 4 rfl ?_
      refine J.iload (pc := 50) dX11_errand_50 5 rfl ?_
      refine J.iload_n (pc := 52) dX11_errand_52 rfl 2 rfl ?_
      obtain ⟨r2, e1, h⟩ := bnd h
      refine J.callV (Y := mX11_errand) (Z := mX11_canTake) (pc := 53) (st := []) (k2 := 0) (n2 := 0) dX11_errand_53 ml_RX11_410 mo_X11_canTake mv_X11_canTake rfl (tX11_canTake (d + 2) e1 hN k0) k0 (okN hN k0 (by decide)).1 (okN hN k0 (by decide)).2 cq_11 (by decide) rfl rfl (Nat.le_of_ble_eq_true rfl) (by decide) (by decide) (fun v ν hp => ?_) (fun i ν hp => nrm hp.1)
      obtain ⟨rfl, rfl, hN3, hb4⟩ := QEl hp
      show J _ _ _ _ 56 _ ([.int r2]) _ _ _ _
      rcases ifc h with ⟨hc, h⟩ | ⟨hc, h⟩
      · refine J.zeq (pc := 56) (tgt := 86) dX11_errand_56 (by decide) (fun _ => ?_) (fun q => absurd hc q)
        refine J.iinc (pc := 86) (j := 5) ([(5, .int (v5 + (-1 : Int32))), (0, .ref v0), (1, .int v1), (2, .int v2), (3, .int v3), (4, .int v4)]) dX11_errand_86 rfl (iincv ic_m1) (Nat.le_of_ble_eq_true rfl) rfl ?_
        refine J.goto (pc := 89) (tgt := 42) dX11_errand_89 (by decide) ?_
        refine J.pick [1, 2, 3, 4, 5, 0] rfl ?_
        exact ih v0 v1 v2 v3 v4 (v5 + (-1 : Int32)) μ h hN3 k0
      · refine J.zeq (pc := 56) (tgt := 86) dX11_errand_56 (by decide) (fun q => absurd q hc) (fun _ => ?_)
        refine J.aload_n (pc := 59) dX11_errand_59 rfl 0 rfl ?_
        refine J.iload (pc := 60) dX11_errand_60 4 rfl ?_
        refine J.iload (pc := 62) dX11_errand_62 5 rfl ?_
        refine J.iload_n (pc := 64) dX11_errand_64 rfl 2 rfl ?_
        obtain ⟨r6, e5, h⟩ := bnd h
        refine J.callV (Y := mX11_errand) (Z := mX11_takes) (pc := 65) (st := []) (k2 := 0) (n2 := 0) dX11_errand_65 ml_RX11_413 mo_X11_takes mv_X11_takes rfl (tX11_takes (d + 2) e5 hN3 k0) k0 (okN hN3 k0 (by decide)).1 (okN hN3 k0 (by decide)).2 cq_11 (by decide) rfl rfl (Nat.le_of_ble_eq_true rfl) (by decide) (by decide) (fun v ν hp => ?_) (fun i ν hp => nrm hp.1)
        obtain ⟨rfl, rfl, hN7, hb8⟩ := QEl hp
        show J _ _ _ _ 68 _ ([.int r6]) _ _ _ _
        refine J.aload_n (pc := 68) dX11_errand_68 rfl 0 rfl ?_
        obtain ⟨a9, e10, h⟩ := bnd h
        have k11 : (kd a9).1 = 0 := gR_k e10
        refine J.fR (pc := 69) dX11_errand_69 fl_RX11_78 k0 (okN hN7 k0 (by decide)) rfl e10 ?_
        refine J.bipush (pc := 72) dX11_errand_72 ib_64 ?_
        refine J.iload (pc := 74) dX11_errand_74 4 rfl ?_
        refine J.imul (pc := 76) dX11_errand_76 ?_
        refine J.iload_n (pc := 77) dX11_errand_77 rfl 2 rfl ?_
        refine J.iadd (pc := 78) dX11_errand_78 ?_
        obtain ⟨x12, e13, h⟩ := bnd h
        refine J.aI (pc := 79) dX11_errand_79 k11 (okN hN7 k11 (by decide)) e13 ?_
        rcases ifc h with ⟨hc, h⟩ | ⟨hc, h⟩
        · refine J.cne (pc := 80) (tgt := 86) dX11_errand_80 (by decide) (fun _ => ?_) (fun q => absurd hc q)
          refine J.iload (pc := 83) dX11_errand_83 5 rfl ?_
          refine J.istore_n (pc := 85) ([(3, .int v5), (0, .ref v0), (1, .int v1), (2, .int v2), (4, .int v4), (5, .int v5)]) dX11_errand_85 rfl (Nat.le_of_ble_eq_true rfl) rfl ?_
          refine J.iinc (pc := 86) (j := 5) ([(5, .int (v5 + (-1 : Int32))), (3, .int v5), (0, .ref v0), (1, .int v1), (2, .int v2), (4, .int v4)]) dX11_errand_86 rfl (iincv ic_m1) (Nat.le_of_ble_eq_true rfl) rfl ?_
          refine J.goto (pc := 89) (tgt := 42) dX11_errand_89 (by decide) ?_
          refine J.pick [2, 3, 4, 1, 5, 0] rfl ?_
          exact ih v0 v1 v2 v5 v4 (v5 + (-1 : Int32)) μ h hN7 k0
        · refine J.cne (pc := 80) (tgt := 86) dX11_errand_80 (by decide) (fun q => absurd q hc) (fun _ => ?_)
          refine J.iinc (pc := 86) (j := 5) ([(5, .int (v5 + (-1 : Int32))), (0, .ref v0), (1, .int v1), (2, .int v2), (3, .int v3), (4, .int v4)]) dX11_errand_86 rfl (iincv ic_m1) (Nat.le_of_ble_eq_true rfl) rfl ?_
          refine J.goto (pc := 89) (tgt := 42) dX11_errand_89 (by decide) ?_
          refine J.pick [1, 2, 3, 4, 5, 0] rfl ?_
          exact ih v0 v1 v2 v3 v4 (v5 + (-1 : Int32)) μ h hN7 k0
def fX11_errand_26  : Nat → Nat → Int32 → Int32 → Int32 → Int32 → Mem → Option (Int32 × Mem)
  | 0, _, _, _, _, _, _ => none
  | n + 1, v0, v1, v2, v3, v4, μ =>
    if v1 < v4 then
      some (v3, μ)
    else
      (fX11_errand_42 (fX11_errand_26 n) fuel) v0 v1 v2 (-1 : Int32) v4 ((μ.2.1 v0 2) - (1 : Int32)) μ
set_option maxHeartbeats 4000000 in
theorem tX11_errand_26 {ω : Wd} {l : Launch} (d : Nat) {res : Int32 × Mem} : ∀ n : Nat, ∀ (v0 : Nat) (v1 : Int32) (v2 : Int32) (v3 : Int32) (v4 : Int32) (μ : Mem), fX11_errand_26 n v0 v1 v2 v3 v4 μ = some res → μ.1 = NN → (kd v0).1 = 21 → J ω l mX11_errand (d + 3) 26 [(0, .ref v0), (1, .int v1), (2, .int v2), (3, .int v3), (4, .int v4)] [] μ 0 0 (PE (.inl (some (.int res.1))) res.2 True) := by
  intro n
  induction n with
  | zero =>
    intro v0 v1 v2 v3 v4 μ h hN k0
    have h9 : (none : Option (Int32 × Mem)) = some res := h
    cases h9
  | succ n ih =>
    intro v0 v1 v2 v3 v4 μ h hN k0
    unfold fX11_errand_26 at h
    refine J.iload (pc := 26) dX11_errand_26 4 rfl ?_
    refine J.iload_n (pc := 28) dX11_errand_28 rfl 1 rfl ?_
    rcases ifc h with ⟨hc, h⟩ | ⟨hc, h⟩
    · refine J.cgt (pc := 29) (tgt := 109) dX11_errand_29 (by decide) (fun _ => ?_) (fun q => absurd hc q)
      refine J.iload_n (pc := 109) dX11_errand_109 rfl 3 rfl ?_
      cases h
      exact J.iret (pc := 110) dX11_errand_110 rfl ⟨rfl, rfl, hN, trivial⟩
    · refine J.cgt (pc := 29) (tgt := 109) dX11_errand_29 (by decide) (fun q => absurd q hc) (fun _ => ?_)
      refine J.iconst (pc := 32) dX11_errand_32 ic_m1 ?_
      refine J.istore_n (pc := 33) ([(3, .int (-1 : Int32)), (0, .ref v0), (1, .int v1), (2, .int v2), (4, .int v4)]) dX11_errand_33 rfl (Nat.le_of_ble_eq_true rfl) rfl ?_
      refine J.aload_n (pc := 34) dX11_errand_34 rfl 1 rfl ?_
      refine J.fI (pc := 35) dX11_errand_35 fl_RX11_276 k0 (okN hN k0 (by decide)) (Or.inl rfl) ?_
      refine J.iconst (pc := 38) dX11_errand_38 ic_1 ?_
      refine J.isub (pc := 39) dX11_errand_39 ?_
      refine J.istore (pc := 40) ([(5, .int ((μ.2.1 v0 2) - (1 : Int32))), (3, .int (-1 : Int32)), (0, .ref v0), (1, .int v1), (2, .int v2), (4, .int v4)]) dX11_errand_40 (Nat.le_of_ble_eq_true rfl) rfl ?_
      refine J.pick [2, 3, 4, 1, 5, 0] rfl ?_
      exact (tX11_errand_42 d (fX11_errand_26 n) ih fuel) v0 v1 v2 (-1 : Int32) v4 ((μ.2.1 v0 2) - (1 : Int32)) μ h hN k0
def fX11_errand (v0 : Nat) (v1 : Int32) (μ : Mem) : Option (Int32 × Mem) :=
  (some (sI μ v0 0 (0 : Int32))).bind fun μ1 =>
  (fX11_isPerson v0 v1 μ1).bind fun (r6, μ5) =>
  if r6 = 0 then
    some ((0 : Int32), μ5)
  else
    (fX11_laysErrands v0 μ5).bind fun μ10 =>
    (fX11_errand_26 fuel) v0 v1 (0 : Int32) (-1 : Int32) (0 : Int32) μ10
set_option maxHeartbeats 4000000 in
theorem tX11_errand {ω : Wd} {l : Launch} (d : Nat) {v0 : Nat} {v1 : Int32} {μ : Mem} {res : Int32 × Mem} (h : fX11_errand v0 v1 μ = some res) (hN : μ.1 = NN) (k0 : (kd v0).1 = 21) : Ct ω l mX11_errand (d + 3) [.ref v0, .int v1] μ 0 0 (PE (.inl (some (.int res.1))) res.2 True) := by
  refine Ct.of pn_RX11 (Nat.le_of_ble_eq_true rfl) ?_
  show J ω l mX11_errand (d + 3) 0 [(0, .ref v0), (1, .int v1)] [] μ 0 0 _
  unfold fX11_errand at h
  refine J.aload_n (pc := 0) dX11_errand_0 rfl 0 rfl ?_
  refine J.iconst (pc := 1) dX11_errand_1 ic_0 ?_
  obtain ⟨μ1, e2, h⟩ := bnd h
  have hN3 : μ1.1 = NN := smN e2 hN
  refine J.qI (pc := 2) dX11_errand_2 fl_RX11_99 k0 (okN hN k0 (by decide)) rfl rfl e2 ?_
  refine J.aload_n (pc := 5) dX11_errand_5 rfl 0 rfl ?_
  refine J.iload_n (pc := 6) dX11_errand_6 rfl 1 rfl ?_
  obtain ⟨⟨r6, μ5⟩, e4, h⟩ := bnd h
  try dsimp only at h
  refine J.callV (Y := mX11_errand) (Z := mX11_isPerson) (pc := 7) (st := []) (k2 := 0) (n2 := 0) dX11_errand_7 ml_RX11_368 mo_X11_isPerson mv_X11_isPerson rfl (tX11_isPerson (d + 1) e4 hN3 k0) k0 (okN hN3 k0 (by decide)).1 (okN hN3 k0 (by decide)).2 cq_11 (by decide) rfl rfl (Nat.le_of_ble_eq_true rfl) (by decide) (by decide) (fun v ν hp => ?_) (fun i ν hp => nrm hp.1)
  obtain ⟨rfl, rfl, hN7, hb8⟩ := QEl hp
  show J _ _ _ _ 10 _ ([.int r6]) _ _ _ _
  rcases ifc h with ⟨hc, h⟩ | ⟨hc, h⟩
  · refine J.zne (pc := 10) (tgt := 15) dX11_errand_10 (by decide) (fun _ => ?_) (fun q => absurd hc q)
    refine J.iconst (pc := 13) dX11_errand_13 ic_0 ?_
    cases h
    exact J.iret (pc := 14) dX11_errand_14 rfl ⟨rfl, rfl, hN7, trivial⟩
  · refine J.zne (pc := 10) (tgt := 15) dX11_errand_10 (by decide) (fun q => absurd q hc) (fun _ => ?_)
    refine J.aload_n (pc := 15) dX11_errand_15 rfl 0 rfl ?_
    obtain ⟨μ10, e9, h⟩ := bnd h
    refine J.callV (Y := mX11_errand) (Z := mX11_laysErrands) (pc := 16) (st := []) (k2 := 0) (n2 := 0) dX11_errand_16 ml_RX11_416 mo_X11_laysErrands mv_X11_laysErrands rfl (tX11_laysErrands d e9 hN7 k0) k0 (okN hN7 k0 (by decide)).1 (okN hN7 k0 (by decide)).2 cq_11 (by decide) rfl rfl (Nat.le_of_ble_eq_true rfl) (by decide) (by decide) (fun v ν hp => ?_) (fun i ν hp => nrm hp.1)
    obtain ⟨rfl, rfl, hN11, hb12⟩ := QEl hp
    show J _ _ _ _ 19 _ ([]) _ _ _ _
    refine J.iconst (pc := 19) dX11_errand_19 ic_0 ?_
    refine J.istore_n (pc := 20) ([(2, .int (0 : Int32)), (0, .ref v0), (1, .int v1)]) dX11_errand_20 rfl (Nat.le_of_ble_eq_true rfl) rfl ?_
    refine J.iconst (pc := 21) dX11_errand_21 ic_m1 ?_
    refine J.istore_n (pc := 22) ([(3, .int (-1 : Int32)), (2, .int (0 : Int32)), (0, .ref v0), (1, .int v1)]) dX11_errand_22 rfl (Nat.le_of_ble_eq_true rfl) rfl ?_
    refine J.iconst (pc := 23) dX11_errand_23 ic_0 ?_
    refine J.istore (pc := 24) ([(4, .int (0 : Int32)), (3, .int (-1 : Int32)), (2, .int (0 : Int32)), (0, .ref v0), (1, .int v1)]) dX11_errand_24 (Nat.le_of_ble_eq_true rfl) rfl ?_
    refine J.pick [3, 4, 2, 1, 0] rfl ?_
    exact (tX11_errand_26 d fuel) v0 v1 (0 : Int32) (-1 : Int32) (0 : Int32) μ10 h hN11 k0
def fX11_errands (v0 : Nat) (v1 : Int32) (μ : Mem) : Option (Int32 × Mem) :=
  (some (sI μ v0 0 (0 : Int32))).bind fun μ1 =>
  (fX11_isWhat v0 v1 (1 : Int32) μ1).bind fun (r6, μ5) =>
  if r6 = 0 then
    some ((0 : Int32), μ5)
  else
    (fX11_laysErrands v0 μ5).bind fun μ10 =>
    (gR μ10 v0 48 0).bind fun a13 =>
    (ldI μ10 a13 (0 : Int32)).bind fun x16 =>
    if v1 = 0 then
      some (((x16 + (9999 : Int32)) / (10000 : Int32)), μ10)
    else
      (gR μ10 v0 48 0).bind fun a18 =>
      (ldI μ10 a18 (0 : Int32)).bind fun x21 =>
      some ((((10000 : Int32) * ((x16 + (9999 : Int32)) / (10000 : Int32))) - x21), μ10)
set_option maxHeartbeats 4000000 in
theorem tX11_errands {ω : Wd} {l : Launch} (d : Nat) {v0 : Nat} {v1 : Int32} {μ : Mem} {res : Int32 × Mem} (h : fX11_errands v0 v1 μ = some res) (hN : μ.1 = NN) (k0 : (kd v0).1 = 21) : Ct ω l mX11_errands (d + 3) [.ref v0, .int v1] μ 0 0 (PE (.inl (some (.int res.1))) res.2 True) := by
  refine Ct.of pn_RX11 (Nat.le_of_ble_eq_true rfl) ?_
  show J ω l mX11_errands (d + 3) 0 [(0, .ref v0), (1, .int v1)] [] μ 0 0 _
  unfold fX11_errands at h
  refine J.aload_n (pc := 0) dX11_errands_0 rfl 0 rfl ?_
  refine J.iconst (pc := 1) dX11_errands_1 ic_0 ?_
  obtain ⟨μ1, e2, h⟩ := bnd h
  have hN3 : μ1.1 = NN := smN e2 hN
  refine J.qI (pc := 2) dX11_errands_2 fl_RX11_99 k0 (okN hN k0 (by decide)) rfl rfl e2 ?_
  refine J.aload_n (pc := 5) dX11_errands_5 rfl 0 rfl ?_
  refine J.iload_n (pc := 6) dX11_errands_6 rfl 1 rfl ?_
  refine J.iconst (pc := 7) dX11_errands_7 ic_1 ?_
  obtain ⟨⟨r6, μ5⟩, e4, h⟩ := bnd h
  try dsimp only at h
  refine J.callV (Y := mX11_errands) (Z := mX11_isWhat) (pc := 8) (st := []) (k2 := 0) (n2 := 0) dX11_errands_8 ml_RX11_365 mo_X11_isWhat mv_X11_isWhat rfl (tX11_isWhat (d + 1) e4 hN3 k0) k0 (okN hN3 k0 (by decide)).1 (okN hN3 k0 (by decide)).2 cq_11 (by decide) rfl rfl (Nat.le_of_ble_eq_true rfl) (by decide) (by decide) (fun v ν hp => ?_) (fun i ν hp => nrm hp.1)
  obtain ⟨rfl, rfl, hN7, hb8⟩ := QEl hp
  show J _ _ _ _ 11 _ ([.int r6]) _ _ _ _
  rcases ifc h with ⟨hc, h⟩ | ⟨hc, h⟩
  · refine J.zne (pc := 11) (tgt := 16) dX11_errands_11 (by decide) (fun _ => ?_) (fun q => absurd hc q)
    refine J.iconst (pc := 14) dX11_errands_14 ic_0 ?_
    cases h
    exact J.iret (pc := 15) dX11_errands_15 rfl ⟨rfl, rfl, hN7, trivial⟩
  · refine J.zne (pc := 11) (tgt := 16) dX11_errands_11 (by decide) (fun q => absurd q hc) (fun _ => ?_)
    refine J.aload_n (pc := 16) dX11_errands_16 rfl 0 rfl ?_
    obtain ⟨μ10, e9, h⟩ := bnd h
    refine J.callV (Y := mX11_errands) (Z := mX11_laysErrands) (pc := 17) (st := []) (k2 := 0) (n2 := 0) dX11_errands_17 ml_RX11_416 mo_X11_laysErrands mv_X11_laysErrands rfl (tX11_laysErrands d e9 hN7 k0) k0 (okN hN7 k0 (by decide)).1 (okN hN7 k0 (by decide)).2 cq_11 (by decide) rfl rfl (Nat.le_of_ble_eq_true rfl) (by decide) (by decide) (fun v ν hp => ?_) (fun i ν hp => nrm hp.1)
    obtain ⟨rfl, rfl, hN11, hb12⟩ := QEl hp
    show J _ _ _ _ 20 _ ([]) _ _ _ _
    refine J.aload_n (pc := 20) dX11_errands_20 rfl 0 rfl ?_
    obtain ⟨a13, e14, h⟩ := bnd h
    have k15 : (kd a13).1 = 0 := gR_k e14
    refine J.fR (pc := 21) dX11_errands_21 fl_RX11_78 k0 (okN hN11 k0 (by decide)) rfl e14 ?_
    refine J.iconst (pc := 24) dX11_errands_24 ic_0 ?_
    obtain ⟨x16, e17, h⟩ := bnd h
    refine J.aI (pc := 25) dX11_errands_25 k15 (okN hN11 k15 (by decide)) e17 ?_
    refine J.sipush (pc := 26) dX11_errands_26 is_9999 ?_
    refine J.iadd (pc := 29) dX11_errands_29 ?_
    refine J.sipush (pc := 30) dX11_errands_30 is_10000 ?_
    refine J.idiv (pc := 33) dX11_errands_33 (by decide) ?_
    refine J.istore_n (pc := 34) ([(2, .int ((x16 + (9999 : Int32)) / (10000 : Int32))), (0, .ref v0), (1, .int v1)]) dX11_errands_34 rfl (Nat.le_of_ble_eq_true rfl) rfl ?_
    refine J.iload_n (pc := 35) dX11_errands_35 rfl 2 rfl ?_
    rcases ifc h with ⟨hc, h⟩ | ⟨hc, h⟩
    · refine J.zne (pc := 36) (tgt := 43) dX11_errands_36 (by decide) (fun _ => ?_) (fun q => absurd hc q)
      refine J.iload_n (pc := 39) dX11_errands_39 rfl 0 rfl ?_
      refine J.goto (pc := 40) (tgt := 55) dX11_errands_40 (by decide) ?_
      cases h
      exact J.iret (pc := 55) dX11_errands_55 rfl ⟨rfl, rfl, hN11, trivial⟩
    · refine J.zne (pc := 36) (tgt := 43) dX11_errands_36 (by decide) (fun q => absurd q hc) (fun _ => ?_)
      refine J.sipush (pc := 43) dX11_errands_43 is_10000 ?_
      refine J.iload_n (pc := 46) dX11_errands_46 rfl 0 rfl ?_
      refine J.imul (pc := 47) dX11_errands_47 ?_
      refine J.aload_n (pc := 48) dX11_errands_48 rfl 1 rfl ?_
      obtain ⟨a18, e19, h⟩ := bnd h
      have k20 : (kd a18).1 = 0 := gR_k e19
      refine J.fR (pc := 49) dX11_errands_49 fl_RX11_78 k0 (okN hN11 k0 (by decide)) rfl e19 ?_
      refine J.iconst (pc := 52) dX11_errands_52 ic_0 ?_
      obtain ⟨x21, e22, h⟩ := bnd h
      refine J.aI (pc := 53) dX11_errands_53 k20 (okN hN11 k20 (by decide)) e22 ?_
      refine J.isub (pc := 54) dX11_errands_54 ?_
      cases h
      exact J.iret (pc := 55) dX11_errands_55 rfl ⟨rfl, rfl, hN11, trivial⟩
def fX11_howFar (v0 : Nat) (v1 : Int32) (v2 : Int32) (μ : Mem) : Option (Int32 × Mem) :=
  (fX11_laysFar v0 (0 : Int32) v2 μ).bind fun μ2 =>
  (gR μ2 v0 39 0).bind fun a5 =>
  (ldI μ2 a5 v1).bind fun x8 =>
  some (x8, μ2)
set_option maxHeartbeats 4000000 in
theorem tX11_howFar {ω : Wd} {l : Launch} (d : Nat) {v0 : Nat} {v1 : Int32} {v2 : Int32} {μ : Mem} {res : Int32 × Mem} (h : fX11_howFar v0 v1 v2 μ = some res) (hN : μ.1 = NN) (k0 : (kd v0).1 = 21) : Ct ω l mX11_howFar (d + 2) [.ref v0, .int v1, .int v2] μ 0 0 (PE (.inl (some (.int res.1))) res.2 True) := by
  refine Ct.of pn_RX11 (Nat.le_of_ble_eq_true rfl) ?_
  show J ω l mX11_howFar (d + 2) 0 [(0, .ref v0), (1, .int v1), (2, .int v2)] [] μ 0 0 _
  unfold fX11_howFar at h
  refine J.aload_n (pc := 0) dX11_howFar_0 rfl 0 rfl ?_
  refine J.iconst (pc := 1) dX11_howFar_1 ic_0 ?_
  refine J.iload_n (pc := 2) dX11_howFar_2 rfl 2 rfl ?_
  obtain ⟨μ2, e1, h⟩ := bnd h
  refine J.callV (Y := mX11_howFar) (Z := mX11_laysFar) (pc := 3) (st := []) (k2 := 0) (n2 := 0) dX11_howFar_3 ml_RX11_313 mo_X11_laysFar mv_X11_laysFar rfl (tX11_laysFar d e1 hN k0) k0 (okN hN k0 (by decide)).1 (okN hN k0 (by decide)).2 cq_11 (by decide) rfl rfl (Nat.le_of_ble_eq_true rfl) (by decide) (by decide) (fun v ν hp => ?_) (fun i ν hp => nrm hp.1)
  obtain ⟨rfl, rfl, hN3, hb4⟩ := QEl hp
  show J _ _ _ _ 6 _ ([]) _ _ _ _
  refine J.aload_n (pc := 6) dX11_howFar_6 rfl 0 rfl ?_
  obtain ⟨a5, e6, h⟩ := bnd h
  have k7 : (kd a5).1 = 0 := gR_k e6
  refine J.fR (pc := 7) dX11_howFar_7 fl_RX11_60 k0 (okN hN3 k0 (by decide)) rfl e6 ?_
  refine J.iload_n (pc := 10) dX11_howFar_10 rfl 1 rfl ?_
  obtain ⟨x8, e9, h⟩ := bnd h
  refine J.aI (pc := 11) dX11_howFar_11 k7 (okN hN3 k7 (by decide)) e9 ?_
  cases h
  exact J.iret (pc := 12) dX11_howFar_12 rfl ⟨rfl, rfl, hN3, trivial⟩
def fX11_farthest_36  : Nat → Nat → Int32 → Int32 → Int32 → Int32 → Int32 → Mem → Option (Int32 × Mem)
  | 0, _, _, _, _, _, _, _ => none
  | n + 1, v0, v2, v3, v4, v5, v6, μ =>
    if v6 < (48 : Int32) then
      (fX11_isThere v0 v6 μ).bind fun r2 =>
      if r2 = 0 then
        if (9999 : Int32) < (9999 : Int32) then
          if v5 < (9999 : Int32) then
            (fX11_farthest_36 n) v0 v2 v3 v6 (9999 : Int32) (v6 + (1 : Int32)) μ
          else
            (fX11_farthest_36 n) v0 v2 v3 v4 v5 (v6 + (1 : Int32)) μ
        else
          (fX11_farthest_36 n) v0 v2 v3 v4 v5 (v6 + (1 : Int32)) μ
      else
        (fX11_howFar v0 v3 v6 μ).bind fun (r7, μ6) =>
        if r7 < (9999 : Int32) then
          if v5 < r7 then
            (fX11_farthest_36 n) v0 v2 v3 v6 r7 (v6 + (1 : Int32)) μ6
          else
            (fX11_farthest_36 n) v0 v2 v3 v4 v5 (v6 + (1 : Int32)) μ6
        else
          (fX11_farthest_36 n) v0 v2 v3 v4 v5 (v6 + (1 : Int32)) μ6
    else
      if v2 = 0 then
        some ((fX11_toldAs v4), μ)
      else
        some (v5, μ)
set_option maxHeartbeats 4000000 in
theorem tX11_farthest_36 {ω : Wd} {l : Launch} (d : Nat) {res : Int32 × Mem} : ∀ n : Nat, ∀ (v0 : Nat) (v2 : Int32) (v3 : Int32) (v4 : Int32) (v5 : Int32) (v6 : Int32) (μ : Mem), fX11_farthest_36 n v0 v2 v3 v4 v5 v6 μ = some res → μ.1 = NN → (kd v0).1 = 21 → J ω l mX11_farthest (d + 3) 36 [(0, .ref v0), (2, .int v2), (3, .int v3), (4, .int v4), (5, .int v5), (6, .int v6)] [] μ 0 0 (PE (.inl (some (.int res.1))) res.2 True) := by
  intro n
  induction n with
  | zero =>
    intro v0 v2 v3 v4 v5 v6 μ h hN k0
    have h9 : (none : Option (Int32 × Mem)) = some res := h
    cases h9
  | succ n ih =>
    intro v0 v2 v3 v4 v5 v6 μ h hN k0
    unfold fX11_farthest_36 at h
    refine J.iload (pc := 36) dX11_farthest_36 5 rfl ?_
    refine J.bipush (pc := 38) dX11_farthest_38 ib_48 ?_
    rcases ifc h with ⟨hc, h⟩ | ⟨hc, h⟩
    · refine J.cge (pc := 40) (tgt := 99) dX11_farthest_40 (by decide) (fun _ => ?_) (fun q => absurd hc q)
      refine J.aload_n (pc := 43) dX11_farthest_43 rfl 0 rfl ?_
      refine J.iload (pc := 44) dX11_farthest_44 5 rfl ?_
      obtain ⟨r2, e1, h⟩ := bnd h
      refine J.callV (Y := mX11_farthest) (Z := mX11_isThere) (pc := 46) (st := []) (k2 := 0) (n2 := 0) dX11_farthest_46 ml_RX11_332 mo_X11_isThere mv_X11_isThere rfl (tX11_isThere (d + 2) e1 hN k0) k0 (okN hN k0 (by decide)).1 (okN hN k0 (by decide)).2 cq_11 (by decide) rfl rfl (Nat.le_of_ble_eq_true rfl) (by decide) (by decide) (fun v ν hp => ?_) (fun i ν hp => nrm hp.1)
      obtain ⟨rfl, rfl, hN3, hb4⟩ := QEl hp
      show J _ _ _ _ 49 _ ([.int r2]) _ _ _ _
      rcases ifc h with ⟨hc, h⟩ | ⟨hc, h⟩
      · refine J.zeq (pc := 49) (tgt := 62) dX11_farthest_49 (by decide) (fun _ => ?_) (fun q => absurd hc q)
        refine J.sipush (pc := 62) dX11_farthest_62 is_9999 ?_
        refine J.istore (pc := 65) ([(7, .int (9999 : Int32)), (0, .ref v0), (2, .int v2), (3, .int v3), (4, .int v4), (5, .int v5), (6, .int v6)]) dX11_farthest_65 (Nat.le_of_ble_eq_true rfl) rfl ?_
        refine J.iload (pc := 67) dX11_farthest_67 0 rfl ?_
        refine J.sipush (pc := 69) dX11_farthest_69 is_9999 ?_
        rcases ifc h with ⟨hc, h⟩ | ⟨hc, h⟩
        · refine J.cge (pc := 72) (tgt := 93) dX11_farthest_72 (by decide) (fun _ => ?_) (fun q => absurd hc q)
          refine J.iload (pc := 75) dX11_farthest_75 0 rfl ?_
          refine J.iload (pc := 77) dX11_farthest_77 5 rfl ?_
          rcases ifc h with ⟨hc, h⟩ | ⟨hc, h⟩
          · refine J.cgt (pc := 79) (tgt := 85) dX11_farthest_79 (by decide) (fun _ => ?_) (fun q => absurd hc q)
            refine J.iload (pc := 85) dX11_farthest_85 6 rfl ?_
            refine J.istore (pc := 87) ([(4, .int v6), (7, .int (9999 : Int32)), (0, .ref v0), (2, .int v2), (3, .int v3), (5, .int v5), (6, .int v6)]) dX11_farthest_87 (Nat.le_of_ble_eq_true rfl) rfl ?_
            refine J.iload (pc := 89) dX11_farthest_89 1 rfl ?_
            refine J.istore (pc := 91) ([(5, .int (9999 : Int32)), (4, .int v6), (7, .int (9999 : Int32)), (0, .ref v0), (2, .int v2), (3, .int v3), (6, .int v6)]) dX11_farthest_91 (Nat.le_of_ble_eq_true rfl) rfl ?_
            refine J.iinc (pc := 93) (j := 6) ([(6, .int (v6 + (1 : Int32))), (5, .int (9999 : Int32)), (4, .int v6), (7, .int (9999 : Int32)), (0, .ref v0), (2, .int v2), (3, .int v3)]) dX11_farthest_93 rfl (iincv ic_1) (Nat.le_of_ble_eq_true rfl) rfl ?_
            refine J.goto (pc := 96) (tgt := 36) dX11_farthest_96 (by decide) ?_
            refine J.pick [4, 5, 6, 2, 1, 0] rfl ?_
            exact ih v0 v2 v3 v6 (9999 : Int32) (v6 + (1 : Int32)) μ h hN3 k0
          · refine J.cgt (pc := 79) (tgt := 85) dX11_farthest_79 (by decide) (fun q => absurd q hc) (fun _ => ?_)
            refine J.goto (pc := 82) (tgt := 93) dX11_farthest_82 (by decide) ?_
            refine J.iinc (pc := 93) (j := 6) ([(6, .int (v6 + (1 : Int32))), (7, .int (9999 : Int32)), (0, .ref v0), (2, .int v2), (3, .int v3), (4, .int v4), (5, .int v5)]) dX11_farthest_93 rfl (iincv ic_1) (Nat.le_of_ble_eq_true rfl) rfl ?_
            refine J.goto (pc := 96) (tgt := 36) dX11_farthest_96 (by decide) ?_
            refine J.pick [2, 3, 4, 5, 6, 0] rfl ?_
            exact ih v0 v2 v3 v4 v5 (v6 + (1 : Int32)) μ h hN3 k0
        · refine J.cge (pc := 72) (tgt := 93) dX11_farthest_72 (by decide) (fun q => absurd q hc) (fun _ => ?_)
          refine J.iinc (pc := 93) (j := 6) ([(6, .int (v6 + (1 : Int32))), (7, .int (9999 : Int32)), (0, .ref v0), (2, .int v2), (3, .int v3), (4, .int v4), (5, .int v5)]) dX11_farthest_93 rfl (iincv ic_1) (Nat.le_of_ble_eq_true rfl) rfl ?_
          refine J.goto (pc := 96) (tgt := 36) dX11_farthest_96 (by decide) ?_
          refine J.pick [2, 3, 4, 5, 6, 0] rfl ?_
          exact ih v0 v2 v3 v4 v5 (v6 + (1 : Int32)) μ h hN3 k0
      · refine J.zeq (pc := 49) (tgt := 62) dX11_farthest_49 (by decide) (fun q => absurd q hc) (fun _ => ?_)
        refine J.aload_n (pc := 52) dX11_farthest_52 rfl 0 rfl ?_
        refine J.iload_n (pc := 53) dX11_farthest_53 rfl 2 rfl ?_
        refine J.iload (pc := 54) dX11_farthest_54 5 rfl ?_
        obtain ⟨⟨r7, μ6⟩, e5, h⟩ := bnd h
        try dsimp only at h
        refine J.callV (Y := mX11_farthest) (Z := mX11_howFar) (pc := 56) (st := []) (k2 := 0) (n2 := 0) dX11_farthest_56 ml_RX11_374 mo_X11_howFar mv_X11_howFar rfl (tX11_howFar d e5 hN3 k0) k0 (okN hN3 k0 (by decide)).1 (okN hN3 k0 (by decide)).2 cq_11 (by decide) rfl rfl (Nat.le_of_ble_eq_true rfl) (by decide) (by decide) (fun v ν hp => ?_) (fun i ν hp => nrm hp.1)
        obtain ⟨rfl, rfl, hN8, hb9⟩ := QEl hp
        show J _ _ _ _ 59 _ ([.int r7]) _ _ _ _
        refine J.goto (pc := 59) (tgt := 65) dX11_farthest_59 (by decide) ?_
        refine J.istore (pc := 65) ([(7, .int r7), (0, .ref v0), (2, .int v2), (3, .int v3), (4, .int v4), (5, .int v5), (6, .int v6)]) dX11_farthest_65 (Nat.le_of_ble_eq_true rfl) rfl ?_
        refine J.iload (pc := 67) dX11_farthest_67 0 rfl ?_
        refine J.sipush (pc := 69) dX11_farthest_69 is_9999 ?_
        rcases ifc h with ⟨hc, h⟩ | ⟨hc, h⟩
        · refine J.cge (pc := 72) (tgt := 93) dX11_farthest_72 (by decide) (fun _ => ?_) (fun q => absurd hc q)
          refine J.iload (pc := 75) dX11_farthest_75 0 rfl ?_
          refine J.iload (pc := 77) dX11_farthest_77 5 rfl ?_
          rcases ifc h with ⟨hc, h⟩ | ⟨hc, h⟩
          · refine J.cgt (pc := 79) (tgt := 85) dX11_farthest_79 (by decide) (fun _ => ?_) (fun q => absurd hc q)
            refine J.iload (pc := 85) dX11_farthest_85 6 rfl ?_
            refine J.istore (pc := 87) ([(4, .int v6), (7, .int r7), (0, .ref v0), (2, .int v2), (3, .int v3), (5, .int v5), (6, .int v6)]) dX11_farthest_87 (Nat.le_of_ble_eq_true rfl) rfl ?_
            refine J.iload (pc := 89) dX11_farthest_89 1 rfl ?_
            refine J.istore (pc := 91) ([(5, .int r7), (4, .int v6), (7, .int r7), (0, .ref v0), (2, .int v2), (3, .int v3), (6, .int v6)]) dX11_farthest_91 (Nat.le_of_ble_eq_true rfl) rfl ?_
            refine J.iinc (pc := 93) (j := 6) ([(6, .int (v6 + (1 : Int32))), (5, .int r7), (4, .int v6), (7, .int r7), (0, .ref v0), (2, .int v2), (3, .int v3)]) dX11_farthest_93 rfl (iincv ic_1) (Nat.le_of_ble_eq_true rfl) rfl ?_
            refine J.goto (pc := 96) (tgt := 36) dX11_farthest_96 (by decide) ?_
            refine J.pick [4, 5, 6, 2, 1, 0] rfl ?_
            exact ih v0 v2 v3 v6 r7 (v6 + (1 : Int32)) μ6 h hN8 k0
          · refine J.cgt (pc := 79) (tgt := 85) dX11_farthest_79 (by decide) (fun q => absurd q hc) (fun _ => ?_)
            refine J.goto (pc := 82) (tgt := 93) dX11_farthest_82 (by decide) ?_
            refine J.iinc (pc := 93) (j := 6) ([(6, .int (v6 + (1 : Int32))), (7, .int r7), (0, .ref v0), (2, .int v2), (3, .int v3), (4, .int v4), (5, .int v5)]) dX11_farthest_93 rfl (iincv ic_1) (Nat.le_of_ble_eq_true rfl) rfl ?_
            refine J.goto (pc := 96) (tgt := 36) dX11_farthest_96 (by decide) ?_
            refine J.pick [2, 3, 4, 5, 6, 0] rfl ?_
            exact ih v0 v2 v3 v4 v5 (v6 + (1 : Int32)) μ6 h hN8 k0
        · refine J.cge (pc := 72) (tgt := 93) dX11_farthest_72 (by decide) (fun q => absurd q hc) (fun _ => ?_)
          refine J.iinc (pc := 93) (j := 6) ([(6, .int (v6 + (1 : Int32))), (7, .int r7), (0, .ref v0), (2, .int v2), (3, .int v3), (4, .int v4), (5, .int v5)]) dX11_farthest_93 rfl (iincv ic_1) (Nat.le_of_ble_eq_true rfl) rfl ?_
          refine J.goto (pc := 96) (tgt := 36) dX11_farthest_96 (by decide) ?_
          refine J.pick [2, 3, 4, 5, 6, 0] rfl ?_
          exact ih v0 v2 v3 v4 v5 (v6 + (1 : Int32)) μ6 h hN8 k0
    · refine J.cge (pc := 40) (tgt := 99) dX11_farthest_40 (by decide) (fun q => absurd q hc) (fun _ => ?_)
      refine J.iload_n (pc := 99) dX11_farthest_99 rfl 1 rfl ?_
      rcases ifc h with ⟨hc, h⟩ | ⟨hc, h⟩
      · refine J.zne (pc := 100) (tgt := 111) dX11_farthest_100 (by decide) (fun _ => ?_) (fun q => absurd hc q)
        refine J.iload (pc := 103) dX11_farthest_103 3 rfl ?_
        refine J.callS (Y := mX11_farthest) (Z := mX11_toldAs) (pc := 105) (st := []) (k2 := 0) (n2 := 0) dX11_farthest_105 ml_RX11_371 mo_X11_toldAs ms_X11_toldAs rfl (tX11_toldAs (d + 2) v4 μ hN ) rfl rfl (Nat.le_of_ble_eq_true rfl) (by decide) (by decide) (fun v ν hp => ?_) (fun i ν hp => nrm hp.1)
        obtain ⟨rfl, rfl, hN11, hb12⟩ := QEl hp
        show J _ _ _ _ 108 _ ([.int (fX11_toldAs v4)]) _ _ _ _
        refine J.goto (pc := 108) (tgt := 113) dX11_farthest_108 (by decide) ?_
        cases h
        exact J.iret (pc := 113) dX11_farthest_113 rfl ⟨rfl, rfl, hN11, trivial⟩
      · refine J.zne (pc := 100) (tgt := 111) dX11_farthest_100 (by decide) (fun q => absurd q hc) (fun _ => ?_)
        refine J.iload (pc := 111) dX11_farthest_111 4 rfl ?_
        cases h
        exact J.iret (pc := 113) dX11_farthest_113 rfl ⟨rfl, rfl, hN, trivial⟩
def fX11_farthest (v0 : Nat) (v1 : Int32) (v2 : Int32) (μ : Mem) : Option (Int32 × Mem) :=
  (some (sI μ v0 0 (0 : Int32))).bind fun μ1 =>
  (fX11_placeOf v0 v1 μ1).bind fun (r6, μ5) =>
  if r6 = (-1 : Int32) then
    some ((0 : Int32), μ5)
  else
    (fX11_isWhat v0 v2 (1 : Int32) μ5).bind fun (r11, μ10) =>
    if r11 = 0 then
      some ((0 : Int32), μ10)
    else
      (fX11_farthest_36 fuel) v0 v2 r6 r6 (0 : Int32) (0 : Int32) μ10
set_option maxHeartbeats 4000000 in
theorem tX11_farthest {ω : Wd} {l : Launch} (d : Nat) {v0 : Nat} {v1 : Int32} {v2 : Int32} {μ : Mem} {res : Int32 × Mem} (h : fX11_farthest v0 v1 v2 μ = some res) (hN : μ.1 = NN) (k0 : (kd v0).1 = 21) : Ct ω l mX11_farthest (d + 3) [.ref v0, .int v1, .int v2] μ 0 0 (PE (.inl (some (.int res.1))) res.2 True) := by
  refine Ct.of pn_RX11 (Nat.le_of_ble_eq_true rfl) ?_
  show J ω l mX11_farthest (d + 3) 0 [(0, .ref v0), (1, .int v1), (2, .int v2)] [] μ 0 0 _
  unfold fX11_farthest at h
  refine J.aload_n (pc := 0) dX11_farthest_0 rfl 0 rfl ?_
  refine J.iconst (pc := 1) dX11_farthest_1 ic_0 ?_
  obtain ⟨μ1, e2, h⟩ := bnd h
  have hN3 : μ1.1 = NN := smN e2 hN
  refine J.qI (pc := 2) dX11_farthest_2 fl_RX11_99 k0 (okN hN k0 (by decide)) rfl rfl e2 ?_
  refine J.aload_n (pc := 5) dX11_farthest_5 rfl 0 rfl ?_
  refine J.iload_n (pc := 6) dX11_farthest_6 rfl 1 rfl ?_
  obtain ⟨⟨r6, μ5⟩, e4, h⟩ := bnd h
  try dsimp only at h
  refine J.callV (Y := mX11_farthest) (Z := mX11_placeOf) (pc := 7) (st := []) (k2 := 0) (n2 := 0) dX11_farthest_7 ml_RX11_380 mo_X11_placeOf mv_X11_placeOf rfl (tX11_placeOf (d + 1) e4 hN3 k0) k0 (okN hN3 k0 (by decide)).1 (okN hN3 k0 (by decide)).2 cq_11 (by decide) rfl rfl (Nat.le_of_ble_eq_true rfl) (by decide) (by decide) (fun v ν hp => ?_) (fun i ν hp => nrm hp.1)
  obtain ⟨rfl, rfl, hN7, hb8⟩ := QEl hp
  show J _ _ _ _ 10 _ ([.int r6]) _ _ _ _
  refine J.istore_n (pc := 10) ([(3, .int r6), (0, .ref v0), (1, .int v1), (2, .int v2)]) dX11_farthest_10 rfl (Nat.le_of_ble_eq_true rfl) rfl ?_
  refine J.iload_n (pc := 11) dX11_farthest_11 rfl 0 rfl ?_
  refine J.iconst (pc := 12) dX11_farthest_12 ic_m1 ?_
  rcases ifc h with ⟨hc, h⟩ | ⟨hc, h⟩
  · refine J.ceq (pc := 13) (tgt := 25) dX11_farthest_13 (by decide) (fun _ => ?_) (fun q => absurd hc q)
    refine J.iconst (pc := 25) dX11_farthest_25 ic_0 ?_
    cases h
    exact J.iret (pc := 26) dX11_farthest_26 rfl ⟨rfl, rfl, hN7, trivial⟩
  · refine J.ceq (pc := 13) (tgt := 25) dX11_farthest_13 (by decide) (fun q => absurd q hc) (fun _ => ?_)
    refine J.aload_n (pc := 16) dX11_farthest_16 rfl 1 rfl ?_
    refine J.iload_n (pc := 17) dX11_farthest_17 rfl 3 rfl ?_
    refine J.iconst (pc := 18) dX11_farthest_18 ic_1 ?_
    obtain ⟨⟨r11, μ10⟩, e9, h⟩ := bnd h
    try dsimp only at h
    refine J.callV (Y := mX11_farthest) (Z := mX11_isWhat) (pc := 19) (st := []) (k2 := 0) (n2 := 0) dX11_farthest_19 ml_RX11_365 mo_X11_isWhat mv_X11_isWhat rfl (tX11_isWhat (d + 1) e9 hN7 k0) k0 (okN hN7 k0 (by decide)).1 (okN hN7 k0 (by decide)).2 cq_11 (by decide) rfl rfl (Nat.le_of_ble_eq_true rfl) (by decide) (by decide) (fun v ν hp => ?_) (fun i ν hp => nrm hp.1)
    obtain ⟨rfl, rfl, hN12, hb13⟩ := QEl hp
    show J _ _ _ _ 22 _ ([.int r11]) _ _ _ _
    rcases ifc h with ⟨hc, h⟩ | ⟨hc, h⟩
    · refine J.zne (pc := 22) (tgt := 27) dX11_farthest_22 (by decide) (fun _ => ?_) (fun q => absurd hc q)
      refine J.iconst (pc := 25) dX11_farthest_25 ic_0 ?_
      cases h
      exact J.iret (pc := 26) dX11_farthest_26 rfl ⟨rfl, rfl, hN12, trivial⟩
    · refine J.zne (pc := 22) (tgt := 27) dX11_farthest_22 (by decide) (fun q => absurd q hc) (fun _ => ?_)
      refine J.iload_n (pc := 27) dX11_farthest_27 rfl 0 rfl ?_
      refine J.istore (pc := 28) ([(4, .int r6), (3, .int r6), (0, .ref v0), (1, .int v1), (2, .int v2)]) dX11_farthest_28 (Nat.le_of_ble_eq_true rfl) rfl ?_
      refine J.iconst (pc := 30) dX11_farthest_30 ic_0 ?_
      refine J.istore (pc := 31) ([(5, .int (0 : Int32)), (4, .int r6), (3, .int r6), (0, .ref v0), (1, .int v1), (2, .int v2)]) dX11_farthest_31 (Nat.le_of_ble_eq_true rfl) rfl ?_
      refine J.iconst (pc := 33) dX11_farthest_33 ic_0 ?_
      refine J.istore (pc := 34) ([(6, .int (0 : Int32)), (5, .int (0 : Int32)), (4, .int r6), (3, .int r6), (0, .ref v0), (1, .int v1), (2, .int v2)]) dX11_farthest_34 (Nat.le_of_ble_eq_true rfl) rfl ?_
      refine J.pick [4, 6, 3, 2, 1, 0] rfl ?_
      exact (tX11_farthest_36 d fuel) v0 v2 r6 r6 (0 : Int32) (0 : Int32) μ10 h hN12 k0
