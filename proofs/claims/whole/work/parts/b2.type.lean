/-! ACTS: type, send, let -/
theorem AA.rc {C : Cel} {μ ν : Mem} (h : AA μ ν) (hR : RC C μ) : RC C ν := by
  refine ⟨h.gr hR.1, hR.2.1, ?_, ?_, ?_⟩
  · rw [h.2.2.2.2 1 (by decide)]; exact hR.2.2.1
  · rw [h.2.2.2.2 2 (by decide)]; exact hR.2.2.2.1
  · rw [h.hi (by omega)]; exact hR.2.2.2.2
theorem thr_aa (μ : Mem) (w : Int32) : AA μ (thr μ w) := (FrF.f (f := 0) w (by decide)).aa
theorem okR_mk {a : Int32} {lo hi : Nat} (h1 : ¬ a < I lo) (h2 : ¬ I hi < a) : okR a lo hi = true := by
  unfold okR
  rw [decide_eq_false h1, decide_eq_false h2]
  rfl
theorem m1m1 : (-1 : Int32) - 1 = -2 := by decide
theorem Good.ink {C : Cel} {pc : Nat → Int32} {r : Row} (hC : C.ok) (h : Good C pc r) {x : Nat} (hx : there C x = true) (v : Int32) : Good C pc (up r (1 + x) v) := by
  have hP := hC.2.1
  have hx48 := there_lt hC hx
  obtain ⟨h1, h2, h3, h4⟩ := h
  refine ⟨h1.congr (fun k h1 _ => (up_n _ _ (by omega)).symm) hC, ?_, fun p hp => by rw [up_n _ _ (by omega)]; exact h3 p hp, fun d hd p hp => by rw [up_n _ _ (by omega)]; exact h4 d hd p hp⟩
  intro y hy hn
  by_cases e : y = x
  · subst e; rw [hx] at hn; cases hn
  · rw [up_n _ _ (by omega)]; exact h2 y hy hn
theorem Good.sent {C : Cel} {pc : Nat → Int32} {r : Row} (hC : C.ok) (h : Good C pc r) {p : Nat} (hp : p < C.P) {v : Int32} (hv : v = -1 ∨ ∃ x, v = I x ∧ there C x = true) : Good C pc (up r (61 + p) v) := by
  have hP := hC.2.1
  obtain ⟨⟨g1, g2, g3⟩, h2, h3, h4⟩ := h
  refine ⟨⟨StOK_congr (fun k _ _ => (up_n _ _ (by omega)).symm) g1, fun q hq => by rw [up_n _ _ (by omega)]; exact g2 q hq, ?_⟩, fun y hy hn => by rw [up_n _ _ (by omega)]; exact h2 y hy hn, fun q hq => by rw [up_n _ _ (by omega)]; exact h3 q hq, fun d hd q hq => by rw [up_n _ _ (by omega)]; exact h4 d hd q hq⟩
  intro q hq
  by_cases e : q = p
  · subst e; rw [up_s]; exact hv
  · rw [up_n _ _ (by omega)]; exact g3 q hq
theorem Good.at {C : Cel} {pc : Nat → Int32} {r : Row} (hC : C.ok) (h : Good C pc r) {p x : Nat} (hp : p < C.P) (hx : there C x = true) : Good C pc (up r (55 + p) (I x)) := by
  have hP := hC.2.1
  obtain ⟨⟨g1, g2, g3⟩, h2, h3, h4⟩ := h
  refine ⟨⟨StOK_congr (fun k _ _ => (up_n _ _ (by omega)).symm) g1, ?_, fun q hq => by rw [up_n _ _ (by omega)]; exact g3 q hq⟩, fun y hy hn => by rw [up_n _ _ (by omega)]; exact h2 y hy hn, fun q hq => by rw [up_n _ _ (by omega)]; exact h3 q hq, fun d hd q hq => by rw [up_n _ _ (by omega)]; exact h4 d hd q hq⟩
  intro q hq
  by_cases e : q = p
  · subst e; rw [up_s]; exact ⟨x, rfl, hx⟩
  · rw [up_n _ _ (by omega)]; exact g2 q hq
section Ty
variable {C : Cel} {G Fd : List Itm} {pc : Nat → Int32} {k : Nat} {r : Row} {μ : Mem}
theorem QA.thr1 (hI : INV C G Fd pc k r μ) {fc fr : Mem → Option (Int32 × Mem)} {v : Int32} (hc : fc μ = some (1, μ)) (hr : fr μ = some (v, thr (thr μ 0) 1)) : QA fc fr μ := by
  refine ⟨1, μ, v, _, hc, hr, ?_, fun q => absurd q (by decide), C, G, Fd, pc, k, r, hI.q (FR.ag ((FR.f 0 (by decide)).trans (FR.f 1 (by decide))) ?_ ?_)⟩
  · show (thr (thr μ 0) 1).2.1 492 0 = 1
    rw [sC_s, up_s]
  · rw [sC_s, up_n _ _ (by decide), sC_s, up_n _ _ (by decide)]
  · rw [sC_s, up_n _ _ (by decide), sC_s, up_n _ _ (by decide)]
/-- the class's act on its State: out goes the answer -/
theorem act_cls (hI : INV C G Fd pc k r μ) {K j : Nat} {v : Int32} {ν ν' : Mem} (hK : K ≤ 40) (hk : KF μ ν) (hA : ActC C (kpK K) (kpR K (krow μ 503) r) 38 40 ν) (h1 : ν'.1 = ν.1) (h2 : ν'.2.2.2 = ν.2.2.2) (h3 : ∀ c, c < 33 ∨ 38 ≤ c → ν'.2.1 c = ν.2.1 c) (h4 : ∀ c, c < 33 ∨ 38 ≤ c → ν'.2.2.1 c = ν.2.2.1 c) (hS : SH C (up r j v) 33 ν') (x : Int32) : FrC μ (sLC ν' 518 (up (ν'.2.2.1 518) 0 x.toInt64)) ∧ SH C (up r j v) 33 (sLC ν' 518 (up (ν'.2.2.1 518) 0 x.toInt64)) ∧ ActC C (kpK K) (kpR K (krow μ 503) r) 38 40 (sLC ν' 518 (up (ν'.2.2.1 518) 0 x.toInt64)) ∧ (sLC ν' 518 (up (ν'.2.2.1 518) 0 x.toInt64)).2.1 2 = μ.2.1 2 := by
  refine ⟨(hk.fc.trans ⟨h1, fun a f _ => by rw [h2], fun c _ _ hc => ?_, fun c _ hc => ?_⟩).trans (FrC.lc _), hS.lc _ (by decide), (hA.fr (fun c q _ => h3 c (by omega)) (fun c q _ => h4 c (by omega))).lc _, ?_⟩
  · by_cases q : 33 ≤ c ∧ c < 240
    · exact absurd q hc
    · exact h3 c (by omega)
  · by_cases q : 33 ≤ c ∧ c < 240
    · exact absurd q hc
    · exact h4 c (by omega)
  · rw [sLC_i, h3 2 (by omega), hk.2.2.1 2 (by omega)]
theorem stL518 (ν : Mem) (x : Int64) : stL ν 518 (0 : Int32) x = some (sLC ν 518 (up (ν.2.2.1 518) 0 x)) := stL_I (n := 0) kd518 (by omega) (by omega)
theorem INV.sh (hI : INV C G Fd pc k r μ) : SH C r 33 μ := hI.2.2.2.2.2.2.2.2.2.1
theorem INV.good (hI : INV C G Fd pc k r μ) : Good C pc r := hI.2.2.2.2.2.2.2.2.1
theorem INV.rcc (hI : INV C G Fd pc k r μ) : RC C μ := hI.2.2.2.2.2.2.1
theorem INV.r502 (hI : INV C G Fd pc k r μ) {j : Nat} (hj : j < 79) : μ.2.1 502 j = r j := by
  have := hI.2.2.2.2.2.2.2.2.2.2.1 j hj
  unfold rwb at this
  rw [Nat.zero_add] at this
  exact this
theorem qa_type (hI : INV C G Fd pc k r μ) (a b : Int32) : QA (fun μ => fL_type 0 a b 518 μ) (fun ν => fX11_type 492 a b ν) μ := by
  have hC := hI.2.1
  have hG := hI.1
  cases hp : plc C a with
  | none =>
    obtain ⟨t1, t2, t3, t4⟩ := thr0 μ
    refine QA.thr1 hI (v := 0) ?_ ?_
    · show fL_type 0 a b 518 μ = _
      unfold fL_type fX10_type
      rw [inside_ok hI, hp, bs]
      rfl
    · show fX11_type 492 a b μ = _
      unfold fX11_type
      rw [bs, sI_C, placeOf_ok (t1.rc hI.rcc) t2, hp, bs]
      simp only [if_true]
  | some x =>
    have hth := plc_there hC hp
    have hx := there_lt hC hth
    have hxx : μ.2.1 34 x = r (1 + x) := hI.sh.2.2.2.1 x hx
    by_cases hb : okR b 0 9 = true
    · obtain ⟨n, _, hn, rfl⟩ := okR_ex (by decide) hb (by decide)
      obtain ⟨K, hK, hA, h36, hgo⟩ := hI.kept
      obtain ⟨ν, e1, e2, e3⟩ := keep_ok hG hK hA hI.sh
      have hGν : Gr ν := e2.fc.aa.gr hG
      have hSν : SH C r 33 ν := hI.sh.fr (e2.2.2.1 _ (by omega)) (e2.2.2.2 _ (by omega)) (e2.2.2.1 _ (by omega)) (e2.2.2.1 _ (by omega)) (e2.2.2.1 _ (by omega)) (e2.2.2.1 _ (by omega))
      obtain ⟨k1, k2, k3, k4⟩ := act_cls hI (j := 1 + x) (v := I n) hK e2 e3 (ν' := sLC (sC ν 34 (up (ν.2.1 34) x (I n))) 33 (up (ν.2.2.1 33) 1 (inkW (ν.2.2.1 33 1) x (I n)))) rfl rfl (fun c hc => by rw [sLC_i, sC_n _ _ (by omega)]) (fun c hc => by rw [sLC_n _ _ (by omega)]; rfl) (hSν.ink hC hth (I n)) (r (1 + x))
      obtain ⟨M, m1, m2, m3, m4, m5, m6⟩ := act_one hI k1 k2 k3 hK h36 hgo k4 (hI.good.ink hC hth (I n))
      refine QA.mk0 (v := r (1 + x)) (ν := sLC (sC ν 34 (up (ν.2.1 34) x (I n))) 33 (up (ν.2.2.1 33) 1 (inkW (ν.2.2.1 33 1) x (I n)))) ?_ (ξ := sC M 502 (up (M.2.1 502) (1 + x) (I n))) ?_ ?_ ?_ ⟨C, G, Fd, pc, k, _, m6⟩
      · show fL_type 0 a (I n) 518 μ = _
        unfold fL_type fX10_type
        rw [inside_ok hI, hp, bs]
        simp only
        rw [if_neg (I_neg (by omega)), if_neg (by rw [l_ltI (by omega) (by decide)]; show ¬ 9 < n; omega), g_0_7 hG, bs, hG.ink a33, bs, ld_34 hx, bs, g_0_8 hG, bs, bs, e1, bs, g_0_7 hGν, bs, setInk_eq hGν a33 hx, bs, bs]
        simp only
        rw [stL518, bs, hxx]
      · show fX11_type 492 a (I n) _ = _
        unfold fX11_type
        rw [bs, sI_C, placeOf_ok ((k1.aa.trans (thr_aa _ 0)).rc hI.rcc) (by rw [sC_s, up_s]), hp, bs]
        simp only
        rw [if_neg (I_m1 (by omega)), g_492_34 ((k1.aa.trans (thr_aa _ 0)).gr hG), bs, l_addI, ld_502 (by show 1 + x < 158; omega), bs, show fX11_within (I n) (0 : Int32) (9 : Int32) = _ from within_ok (I n) 0 9, if_pos hb, if_neg (by decide), m1, bs, g_492_34 m2, bs, st_502 (by show 1 + x < 158; omega), bs]
        congr 2
        rw [sC_n _ _ (by decide), k1.2.2.1 502 LC_492.2 (by decide) (by omega)]
        exact hI.r502 (by omega)
      · rw [sC_n _ _ (by decide)]; exact m4
      · show M.2.2.1 518 0 = _
        rw [m5, sLC_s, up_s]
    · refine QA.refu hI (i := 1) (by decide) (v := -1) ?_ ?_
      · show fL_type 0 a b 518 μ = _
        have hcl : fX10_type 0 a b μ = some (.inl (-1), sC μ 2 (up (μ.2.1 2) 1 (μ.2.1 2 1 + 1))) := by
          unfold fX10_type
          rw [inside_ok hI, hp, bs]
          simp only
          have q := crefuse hG (i := 1) (by decide) (fun μ10 => some ((Sum.inl (-1 : Int32) : Int32 ⊕ Nat), μ10))
          by_cases h1 : b < 0
          · rw [if_pos h1]; exact q
          · rw [if_neg h1]
            by_cases h2 : (9 : Int32) < b
            · rw [if_pos h2]; exact q
            · exact absurd (okR_mk h1 h2) hb
        unfold fL_type
        rw [hcl, bs]
        simp only
        rw [stL518, bs]
        rfl
      · intro ν hν he
        show fX11_type 492 a b ν = _
        have hR : RC C (thr ν 0) := ⟨hν.sC _ _, hC, by rw [sC_s, up_n _ _ (by decide), he 492 (by decide)]; exact hI.rcc.2.2.1, by rw [sC_s, up_n _ _ (by decide), he 492 (by decide)]; exact hI.rcc.2.2.2.1, by rw [sC_n _ _ (by decide), he 493 (by decide)]; exact hI.rcc.2.2.2.2⟩
        unfold fX11_type
        rw [bs, sI_C, placeOf_ok hR (by rw [sC_s, up_s]), hp, bs]
        simp only
        rw [if_neg (I_m1 (by omega)), g_492_34 hR.1, bs, l_addI, ld_502 (by show 1 + x < 158; omega), bs, show fX11_within b (0 : Int32) (9 : Int32) = _ from within_ok b 0 9, if_neg hb, if_pos rfl, show fX11_refuses 492 (1 : Int32) _ = _ from rrefuse (i := 1) hR.1 (by decide), bs]
/-- the reference, where the class has only refused -/
theorem rc_ref (hI : INV C G Fd pc k r μ) {ν : Mem} (hν : Gr ν) (he : ∀ c, c ≠ 2 → ν.2.1 c = μ.2.1 c) : RC C (thr ν 0) ∧ (thr ν 0).2.1 492 0 = 0 ∧ ∀ j, j < 79 → (thr ν 0).2.1 502 j = r j := by
  refine ⟨⟨hν.sC _ _, hI.2.1, by rw [sC_s, up_n _ _ (by decide), he 492 (by decide)]; exact hI.rcc.2.2.1, by rw [sC_s, up_n _ _ (by decide), he 492 (by decide)]; exact hI.rcc.2.2.2.1, by rw [sC_n _ _ (by decide), he 493 (by decide)]; exact hI.rcc.2.2.2.2⟩, by rw [sC_s, up_s], ?_⟩
  intro j hj
  rw [sC_n _ _ (by decide), he 502 (by decide)]
  exact hI.r502 hj
/-- and where it has acted -/
theorem rc_act (hI : INV C G Fd pc k r μ) {ν : Mem} (h : FrC μ ν) : RC C (thr ν 0) ∧ (thr ν 0).2.1 492 0 = 0 ∧ ∀ j, j < 79 → (thr ν 0).2.1 502 j = r j := by
  refine ⟨(h.aa.trans (thr_aa _ 0)).rc hI.rcc, by rw [sC_s, up_s], ?_⟩
  intro j hj
  rw [sC_n _ _ (by decide), h.2.2.1 502 LC_492.2 (by decide) (by omega)]
  exact hI.r502 hj
theorem KF.sh {C : Cel} {r : Row} {μ ν : Mem} (h : KF μ ν) (hS : SH C r 33 μ) : SH C r 33 ν := hS.fr (h.2.2.1 _ (by omega)) (h.2.2.2 _ (by omega)) (h.2.2.1 _ (by omega)) (h.2.2.1 _ (by omega)) (h.2.2.1 _ (by omega)) (h.2.2.1 _ (by omega))
theorem qa_let (hI : INV C G Fd pc k r μ) (a b : Int32) : QA (fun μ => fL_let 0 a b 518 μ) (fun ν => fX11_let 492 a b ν) μ := by
  have hC := hI.2.1
  have hP := hC.2.1
  have hG := hI.1
  obtain ⟨t1, t2, t3, t4⟩ := thr0 μ
  by_cases ha : okP C a = true
  · cases hp : plc C b with
    | none =>
      refine QA.thr1 hI (v := 0) ?_ ?_
      · show fL_let 0 a b 518 μ = _
        unfold fL_let fX10_let
        rw [needP_ok hI, if_pos ha, bs]
        simp only
        rw [inside_ok hI, hp, bs]
        rfl
      · show fX11_let 492 a b μ = _
        unfold fX11_let
        rw [bs, sI_C, isPerson_ok (t1.rc hI.rcc) t2, if_pos ha, bs]
        simp only
        rw [if_neg (by decide), placeOf_ok (t1.rc hI.rcc) t2, hp, bs]
        simp only [if_true]
    | some x =>
      have hth := plc_there hC hp
      have hx := there_lt hC hth
      obtain ⟨p, hpP, rfl⟩ := okP_ex hC ha
      have hat : μ.2.1 35 p = r (55 + p) := by
        have := hI.sh.2.2.2.2.1 p (by omega)
        rw [if_pos hpP] at this
        exact this
      have hink : μ.2.1 34 x = r (1 + x) := hI.sh.2.2.2.1 x hx
      by_cases hq : r (55 + p) = I x ∨ r (1 + x) ≠ 0
      · refine QA.refu hI (i := 1) (by decide) (v := -1) ?_ ?_
        · show fL_let 0 (I p) b 518 μ = _
          have hcl : fX10_let 0 (I p) b μ = some (.inl (-1), sC μ 2 (up (μ.2.1 2) 1 (μ.2.1 2 1 + 1))) := by
            unfold fX10_let
            rw [needP_ok hI, if_pos ha, bs]
            simp only
            rw [inside_ok hI, hp, bs]
            simp only
            have q := crefuse hG (i := 1) (by decide) (fun μ10 => some ((Sum.inl (-1 : Int32) : Int32 ⊕ Nat), μ10))
            rw [g_0_7 hG, bs, hG.at a33, bs, ld_35 (by omega), bs, hat]
            by_cases h1 : r (55 + p) = I x
            · rw [if_pos h1]; exact q
            · rw [if_neg h1, bs, hG.ink a33, bs, ld_34 hx, bs, hink, if_neg (by rcases hq with h | h; exact absurd h h1; exact h)]
              exact q
          unfold fL_let
          rw [hcl, bs]
          simp only
          rw [stL518, bs]
          rfl
        · intro ν hν he
          obtain ⟨hR, h0, hr⟩ := rc_ref hI hν he
          show fX11_let 492 (I p) b ν = _
          unfold fX11_let
          rw [bs, sI_C, isPerson_ok hR h0, if_pos ha, bs]
          simp only
          rw [if_neg (by decide), placeOf_ok hR h0, hp, bs]
          simp only
          rw [if_neg (I_m1 (by omega)), g_492_34 hR.1, bs, l_addI, ld_502 (by show 55 + p < 158; omega), bs, hr (OfNat.ofNat 55 + p) (by show 55 + p < 79; omega)]
          by_cases h1 : r (55 + p) = I x
          · rw [if_pos h1, show fX11_refuses 492 (1 : Int32) _ = _ from rrefuse (i := 1) hR.1 (by decide), bs]
          · have h2 : ¬ r (1 + x) = 0 := by rcases hq with h | h; exact absurd h h1; exact h
            have hw : rwb (thr ν 0) 0 (1 + x) = r (1 + x) := by
              unfold rwb
              rw [Nat.zero_add]
              exact hr _ (by omega)
            rw [if_neg h1, show fX11_isWhite 492 (0 : Int32) (I x) _ = _ from white_ok (b := 0) hR.1 (by omega) hx, bs, hw, if_neg h2, if_pos rfl, show fX11_refuses 492 (1 : Int32) _ = _ from rrefuse (i := 1) hR.1 (by decide), bs]
      · have hq1 : ¬ r (55 + p) = I x := fun h => hq (Or.inl h)
        have hq2 : r (1 + x) = 0 := Classical.not_not.mp (fun h => hq (Or.inr h))
        obtain ⟨K, hK, hA, h36, hgo⟩ := hI.kept
        obtain ⟨ν, e1, e2, e3⟩ := keep_ok hG hK hA hI.sh
        have hGν : Gr ν := e2.fc.aa.gr hG
        have hSν := e2.sh hI.sh
        have hpl : fX10_outside (r (55 + p)) = fX11_toldAs (r (55 + p)) := by
          obtain ⟨y, hy1, hy2⟩ := hI.good.1.2.1 p hpP
          have := there_lt hC hy2
          rw [hy1]
          unfold fX10_outside fX11_toldAs
          rw [if_neg (I_neg (by omega)), if_neg (I_m1 (by omega))]
        obtain ⟨k1, k2, k3, k4⟩ := act_cls hI (j := 55 + p) (v := I x) hK e2 e3 (ν' := sC ν 35 (up (ν.2.1 35) p (I x))) rfl rfl (fun c hc => by rw [sC_n _ _ (by omega)]) (fun c hc => rfl) (hSν.at hC hpP (sC_n _ _ (by decide)) rfl (sC_n _ _ (by decide)) (sC_s _ _ _) (sC_n _ _ (by decide)) (sC_n _ _ (by decide))) (fX10_outside (r (55 + p)))
        obtain ⟨M, m1, m2, m3, m4, m5, m6⟩ := act_one hI k1 k2 k3 hK h36 hgo k4 (hI.good.at hC hpP hth)
        obtain ⟨hR, h0, hr⟩ := rc_act hI k1
        refine QA.mk0 (v := fX10_outside (r (55 + p))) (ν := sC ν 35 (up (ν.2.1 35) p (I x))) ?_ (ξ := sC M 502 (up (M.2.1 502) (55 + p) (I x))) ?_ ?_ ?_ ⟨C, G, Fd, pc, k, _, m6⟩
        · show fL_let 0 (I p) b 518 μ = _
          unfold fL_let fX10_let
          rw [needP_ok hI, if_pos ha, bs]
          simp only
          rw [inside_ok hI, hp, bs]
          simp only
          rw [g_0_7 hG, bs, hG.at a33, bs, ld_35 (by omega), bs, hat, if_neg hq1, bs, hG.ink a33, bs, ld_34 hx, bs, hink, if_pos hq2, g_0_8 hG, bs, bs, e1, bs, g_0_7 hGν, bs, hGν.at a33, bs, st_35 (by omega), bs, bs]
          simp only
          rw [stL518, bs]
        · show fX11_let 492 (I p) b _ = _
          have hw : rwb (thr (sLC (sC ν 35 (up (ν.2.1 35) p (I x))) 518 (up ((sC ν 35 (up (ν.2.1 35) p (I x))).2.2.1 518) 0 (fX10_outside (r (55 + p))).toInt64)) 0) 0 (1 + x) = r (1 + x) := by
            unfold rwb
            rw [Nat.zero_add]
            exact hr _ (by omega)
          unfold fX11_let
          rw [bs, sI_C, isPerson_ok hR h0, if_pos ha, bs]
          simp only
          rw [if_neg (by decide), placeOf_ok hR h0, hp, bs]
          simp only
          rw [if_neg (I_m1 (by omega)), g_492_34 hR.1, bs, l_addI, ld_502 (by show 55 + p < 158; omega), bs, hr (OfNat.ofNat 55 + p) (by show 55 + p < 79; omega), if_neg hq1, show fX11_isWhite 492 (0 : Int32) (I x) _ = _ from white_ok (b := 0) hR.1 (by omega) hx, bs, hw, if_pos hq2, if_neg (by decide), m1, bs, g_492_34 m2, bs, st_502 (by show 55 + p < 158; omega), bs, ← hpl]
        · rw [sC_n _ _ (by decide)]; exact m4
        · show M.2.2.1 518 0 = _
          rw [m5, sLC_s, up_s]
  · refine QA.thr1 hI (v := 0) ?_ ?_
    · show fL_let 0 a b 518 μ = _
      unfold fL_let fX10_let
      rw [needP_ok hI, if_neg ha, bs]
      rfl
    · show fX11_let 492 a b μ = _
      unfold fX11_let
      rw [bs, sI_C, isPerson_ok (t1.rc hI.rcc) t2, if_neg ha, bs]
      simp only [if_true]
theorem outs_told (hI : INV C G Fd pc k r μ) {p : Nat} (hp : p < C.P) : fX10_outside (r (61 + p)) = fX11_toldAs (r (61 + p)) := by
  rcases hI.good.1.2.2 p hp with h | ⟨y, hy1, hy2⟩
  · rw [h]; rfl
  · have := there_lt hI.2.1 hy2
    rw [hy1]
    unfold fX10_outside fX11_toldAs
    rw [if_neg (I_neg (by omega)), if_neg (I_m1 (by omega))]
/-- where one is to be sent -/
def toV (C : Cel) (b : Int32) : Option Int32 := if b = -1 then some (-1) else match plc C b with
  | none => none
  | some x => some (I x)
theorem qa_send (hI : INV C G Fd pc k r μ) (a b : Int32) : QA (fun μ => fL_send 0 a b 518 μ) (fun ν => fX11_send 492 a b ν) μ := by
  have hC := hI.2.1
  have hP := hC.2.1
  have hG := hI.1
  obtain ⟨t1, t2, t3, t4⟩ := thr0 μ
  by_cases ha : okP C a = true
  · obtain ⟨p, hpP, rfl⟩ := okP_ex hC ha
    have hse : μ.2.1 36 p = r (61 + p) := by
      have := hI.sh.2.2.2.2.2.1 p (by omega)
      rw [if_pos hpP] at this
      exact this
    cases ht : toV C b with
    | none =>
      unfold toV at ht
      by_cases hb : b = -1
      · rw [if_pos hb] at ht; cases ht
      · rw [if_neg hb] at ht
        have hp : plc C b = none := by
          cases hq : plc C b with
          | none => rfl
          | some x => rw [hq] at ht; cases ht
        refine QA.thr1 hI (v := 0) ?_ ?_
        · show fL_send 0 (I p) b 518 μ = _
          unfold fL_send fX10_send
          rw [needP_ok hI, if_pos ha, bs]
          simp only
          rw [if_neg hb, inside_ok hI, hp, bs]
          rfl
        · show fX11_send 492 (I p) b μ = _
          unfold fX11_send
          rw [bs, sI_C, isPerson_ok (t1.rc hI.rcc) t2, if_pos ha, bs]
          simp only
          rw [if_neg (by decide), if_neg hb, placeOf_ok (t1.rc hI.rcc) t2, hp, bs]
          simp only
          rw [sC_s, up_s, if_neg (by decide)]
    | some v =>
      have hv : v = -1 ∨ ∃ x, v = I x ∧ there C x = true := by
        unfold toV at ht
        by_cases hb : b = -1
        · rw [if_pos hb] at ht; exact Or.inl (Option.some.inj ht).symm
        · rw [if_neg hb] at ht
          cases hq : plc C b with
          | none => rw [hq] at ht; cases ht
          | some x => rw [hq] at ht; exact Or.inr ⟨x, (Option.some.inj ht).symm, plc_there hC hq⟩
      -- the class's and the reference's common ends
      have cl : fX10_send 0 (I p) b μ = if r (61 + p) = v then some (.inl (-2), sC μ 2 (up (μ.2.1 2) 1 (μ.2.1 2 1 + 1))) else (fX0_keep 38 33 μ).bind fun ν => (gR ν 0 7 19).bind fun a30 => (gR ν a30 5 0).bind fun a33 => (stI ν a33 (I p) v).bind fun μ36 => some (.inl (fX10_outside (r (61 + p))), μ36) := by
        have q := crefuse hG (i := 1) (by decide) (fun μ10 => some ((Sum.inl (-2 : Int32) : Int32 ⊕ Nat), μ10))
        unfold toV at ht
        unfold fX10_send
        rw [needP_ok hI, if_pos ha, bs]
        simp only
        by_cases hb : b = -1
        · rw [if_pos hb] at ht
          obtain rfl := Option.some.inj ht
          rw [if_pos hb, g_0_7 hG, bs, hG.sent a33, bs, ld_36 (by omega), bs, hse]
          by_cases h1 : r (61 + p) = -1
          · rw [if_pos h1, if_pos h1]; exact q
          · rw [if_neg h1, if_neg h1, g_0_8 hG, bs, bs]
        · rw [if_neg hb] at ht
          cases hq : plc C b with
          | none => rw [hq] at ht; cases ht
          | some x =>
            rw [hq] at ht
            obtain rfl := Option.some.inj ht
            rw [if_neg hb, inside_ok hI, hq, bs]
            simp only
            rw [g_0_7 hG, bs, hG.sent a33, bs, ld_36 (by omega), bs, hse]
            by_cases h1 : r (61 + p) = I x
            · rw [if_pos h1, if_pos h1]; exact q
            · rw [if_neg h1, if_neg h1, g_0_8 hG, bs, bs]
      have rf : ∀ ν, RC C (thr ν 0) → (thr ν 0).2.1 492 0 = 0 → (∀ j, j < 79 → (thr ν 0).2.1 502 j = r j) → fX11_send 492 (I p) b ν = if r (61 + p) = v then some (-2, sC (thr ν 0) 496 (up ((thr ν 0).2.1 496) 1 ((thr ν 0).2.1 496 1 + 1))) else (fX11_keeps 492 (thr ν 0)).bind fun μ20 => (gR μ20 492 34 0).bind fun a23 => (stI μ20 a23 (I (61 + p)) v).bind fun μ26 => some (fX11_toldAs (r (61 + p)), μ26) := by
        intro ν hR h0 hr
        unfold toV at ht
        unfold fX11_send
        rw [bs, sI_C, isPerson_ok hR h0, if_pos ha, bs]
        simp only
        rw [if_neg (by decide)]
        by_cases hb : b = -1
        · rw [if_pos hb] at ht
          obtain rfl := Option.some.inj ht
          rw [if_pos hb, if_pos h0, g_492_34 hR.1, bs, l_addI, ld_502 (by show 61 + p < 158; omega), bs, hr (OfNat.ofNat 61 + p) (by show 61 + p < 79; omega)]
          by_cases h1 : r (61 + p) = -1
          · rw [if_pos h1, if_pos h1, show fX11_refuses 492 (1 : Int32) _ = _ from rrefuse (i := 1) hR.1 (by decide), bs]
            show some ((-1 : Int32) - 1, _) = _
            rw [m1m1]
          · rw [if_neg h1, if_neg h1]
        · rw [if_neg hb] at ht
          cases hq : plc C b with
          | none => rw [hq] at ht; cases ht
          | some x =>
            rw [hq] at ht
            obtain rfl := Option.some.inj ht
            rw [if_neg hb, placeOf_ok hR h0, hq, bs]
            simp only
            rw [if_pos h0, g_492_34 hR.1, bs, l_addI, ld_502 (by show 61 + p < 158; omega), bs, hr (OfNat.ofNat 61 + p) (by show 61 + p < 79; omega)]
            by_cases h1 : r (61 + p) = I x
            · rw [if_pos h1, if_pos h1, show fX11_refuses 492 (1 : Int32) _ = _ from rrefuse (i := 1) hR.1 (by decide), bs]
              show some ((-1 : Int32) - 1, _) = _
              rw [m1m1]
            · rw [if_neg h1, if_neg h1]
      by_cases hs : r (61 + p) = v
      · rw [if_pos hs] at cl
        refine QA.refu hI (i := 1) (by decide) (v := -2) ?_ ?_
        · show fL_send 0 (I p) b 518 μ = _
          unfold fL_send
          rw [cl, bs]
          simp only
          rw [stL518, bs]
          rfl
        · intro ν hν he
          obtain ⟨hR, h0, hr⟩ := rc_ref hI hν he
          show fX11_send 492 (I p) b ν = _
          rw [rf ν hR h0 hr, if_pos hs]
      · rw [if_neg hs] at cl
        obtain ⟨K, hK, hA, h36, hgo⟩ := hI.kept
        obtain ⟨ν, e1, e2, e3⟩ := keep_ok hG hK hA hI.sh
        have hGν : Gr ν := e2.fc.aa.gr hG
        have hSν := e2.sh hI.sh
        obtain ⟨k1, k2, k3, k4⟩ := act_cls hI (j := 61 + p) (v := v) hK e2 e3 (ν' := sC ν 36 (up (ν.2.1 36) p v)) rfl rfl (fun c hc => by rw [sC_n _ _ (by omega)]) (fun c hc => rfl) (hSν.sent hC hpP (sC_n _ _ (by decide)) rfl (sC_n _ _ (by decide)) (sC_n _ _ (by decide)) (sC_s _ _ _) (sC_n _ _ (by decide))) (fX10_outside (r (61 + p)))
        obtain ⟨M, m1, m2, m3, m4, m5, m6⟩ := act_one hI k1 k2 k3 hK h36 hgo k4 (hI.good.sent hC hpP hv)
        obtain ⟨hR, h0, hr⟩ := rc_act hI k1
        refine QA.mk0 (v := fX10_outside (r (61 + p))) (ν := sC ν 36 (up (ν.2.1 36) p v)) ?_ (ξ := sC M 502 (up (M.2.1 502) (61 + p) v)) ?_ ?_ ?_ ⟨C, G, Fd, pc, k, _, m6⟩
        · show fL_send 0 (I p) b 518 μ = _
          unfold fL_send
          rw [cl, e1, bs, g_0_7 hGν, bs, hGν.sent a33, bs, st_36 (by omega), bs, bs]
          simp only
          rw [stL518, bs]
        · show fX11_send 492 (I p) b _ = _
          rw [rf _ hR h0 hr, if_neg hs, m1, bs, g_492_34 m2, bs, st_502 (by omega), bs, ← outs_told hI hpP]
        · rw [sC_n _ _ (by decide)]; exact m4
        · show M.2.2.1 518 0 = _
          rw [m5, sLC_s, up_s]
  · refine QA.thr1 hI (v := 0) ?_ ?_
    · show fL_send 0 a b 518 μ = _
      unfold fL_send fX10_send
      rw [needP_ok hI, if_neg ha, bs]
      rfl
    · show fX11_send 492 a b μ = _
      unfold fX11_send
      rw [bs, sI_C, isPerson_ok (t1.rc hI.rcc) t2, if_neg ha, bs]
      simp only [if_true]
end Ty
