/-! LINES: rules; any line -/
section Li
variable {B : Nat → Nat} {n q : Nat} {μ0 μ ν0 ν : Mem} {k : Nat} {C : Cel} {G Fd : List Itm} {pc : Nat → Int32} {r : Row}
theorem beg_ok2 (hn : n ≤ 700) (hB : ∀ i, i < n → B i < 256) (h : RLs B n ν0 k C G Fd r ν) : ∃ ν', fX11_begins 492 0 0 ν = some (1, ν') ∧ RLs B n ν0 (k + 1) C G Fd r ν' ∧ (∀ f, 19 ≤ f → ν'.2.1 492 f = ν.2.1 492 f) ∧ ν'.2.1 497 = ν.2.1 497 ∧ ν'.2.1 498 = ν.2.1 498 ∧ ν'.2.1 499 = ν.2.1 499 := by
  obtain ⟨g, l, e1, e2, e3⟩ := h.1.goes hn hB
  refine ⟨rM ν g l, ?_, ⟨e2, by rw [rM_g, e3 9 (by omega)]; exact h.2.1, h.2.2.fr (by omega) (fun f h1 h2 => by rw [rM_g, e3 f (by omega)]) (rM_n _ _ _ (by decide)) (rM_n _ _ _ (by decide)) (rM_n _ _ _ (by decide))⟩, fun f hf => by rw [rM_g, e3 f (by omega)], rM_n _ _ _ (by decide), rM_n _ _ _ (by decide), rM_n _ _ _ (by decide)⟩
  unfold fX11_begins
  rw [if_pos rfl, if_pos rfl, if_neg (goodL h.2.1), e1, bs]
theorem RU.mono {c c' : Row} {t t' : Nat} {f : Int32} {vm : Nat → Nat} {G : List Itm} (h : RU c t f vm G) (ht : t ≤ t') (hc : ∀ i, i < t → c' i = c i) : RU c' t' f vm G := by
  rcases h with h | ⟨h1, k0, h2, h3, h4⟩
  · exact Or.inl h
  · refine Or.inr ⟨h1, k0, h2, AtC_congr _ _ (fun i i1 i2 => ?_) h3, by omega⟩
    rw [List.length_append] at i2
    exact (hc i (by have : i < k0 + ((fl vm G).length + 1) := i2; omega)).symm
theorem told_ok {G : List Itm} {a : Nat} (h : μ.2.1 a 1 = I G.length) (hl : G.length ≤ 700) : fX7_isTold a μ = if G = [] then 0 else 1 := by
  unfold fX7_isTold
  rw [h]
  cases G with
  | nil => rw [if_neg (by decide), if_pos rfl]
  | cons t l => rw [if_pos (by rw [l_ltI (m := 0) (by omega) (by decide)]; show 0 < l.length + 1; omega), if_neg (by simp)]
theorem body_goes (hn : n ≤ 700) (hB : ∀ i, i < n → B i < 256) (hq : q = 3 ∨ q = 17) (h : CLs B n q μ0 k C G Fd pc r μ) (hw : tkS B n (Pq B n k) ≠ 0) : BOUT B n q μ0 ν0 k C G Fd r (rbod 0 (if G = [] then 0 else 1) (fun ν => (some (sI ν 492 22 (ν.2.1 492 24))).bind fun μ => fX11_expression 492 (0 : Int32) (5 : Int32) μ)) (fX6_readRule 31 (q + 3) 0 μ) := by
  have hcl := h
  obtain ⟨hb, h0, hE, hS, hA, hkn⟩ := h
  unfold fX6_readRule
  rw [told_ok hE.2.2.2.2.2.1 hE.2.2.2.2.2.2.2.2.2.1.2.1]
  by_cases hG : G = []
  · obtain ⟨μ1, e1, h1⟩ := hcl.adv hn hB hq hw
    have hE1 := h1.2.2.1
    have hsz : μ1.2.1 (q + 3) 1 = 0 := by rw [hE1.2.2.2.2.2.1, hG]; rfl
    rw [if_pos hG, if_pos rfl, e1, bs, bs, bs]
    obtain ⟨μ', e', O⟩ := rule_core (ν0 := ν0) hn hB hq (vok_G hn hB) (by decide) (a := q + 3) (by omega) h1.1 h1.2.1 hsz h1.2.2.2.2.2 (by omega)
    rw [e', bs]
    rcases O with ⟨j, X, y1, y2, y3, y4, y5, y6, y7, y8, y9, y10, y11⟩ | ⟨w, p, z1, z2⟩
    · refine ⟨μ', rfl, Or.inl ⟨j, C, X, Fd, pc, r, by omega, ⟨y2, y3, ?_, ?_, hA, y10⟩, ?_⟩⟩
      · obtain ⟨a1, a2, a3, a4, a5, a6, a7, a8, a9, a10, a11⟩ := hE1
        exact ⟨by rw [y5 _ (by omega) (by omega) (by omega)]; exact a1, by rw [y5 _ (by omega) (by omega) (by omega)]; exact a2, by rw [y4]; exact a3, by rw [y5 _ (by omega) (by omega) (by omega)]; exact a4, by rw [y5 _ (by omega) (by omega) (by omega)]; exact a5, y6, y7, by rw [y5 _ (by omega) (by omega) (by omega)]; exact a8, by rw [y5 _ (by omega) (by omega) (by omega)]; exact a9, y9, a11⟩
      · exact h1.2.2.2.1.fr (y5 _ (by omega) (by omega) (by omega)) (by rw [y4]) (y5 _ (by omega) (by omega) (by omega)) (y5 _ (by omega) (by omega) (by omega)) (y5 _ (by omega) (by omega) (by omega)) (y5 _ (by omega) (by omega) (by omega))
      · intro ν hν
        obtain ⟨ν1, u1, u2, u3, u4, u5, u6⟩ := beg_ok2 hn hB hν
        obtain ⟨b1, b2, b3, b4, t, b5, b6, b7, b8⟩ := hν.2.2
        have t24 : ν1.2.1 492 24 = I t := by rw [u3 24 (by omega)]; exact b5
        have R2 := u2.1.f (f := 22) (I t) (by omega)
        obtain ⟨ν', v1, v2, v3, v4, v5, v6, v7⟩ := y11 (sC ν1 492 (up (ν1.2.1 492) 22 (I t))) t R2 (by rw [sC_s, up_n _ _ (by decide)]; exact u2.2.1) (by rw [sC_s, up_n _ _ (by decide)]; exact t24) (by omega)
        refine ⟨ν', ?_, v2, v3, ?_, ?_, ?_, ?_, t + (fl vmG X).length + 1, v5, v7, ?_, ?_⟩
        · unfold rbod
          rw [u1, bs]
          simp only
          rw [if_neg (by decide), bs, sI_C, t24]
          exact v1
        · rw [v4.2.2.2.2.1 20 (by omega), sC_s, up_n _ _ (by decide), u3 20 (by omega)]; exact b1
        · rw [v4.2.2.2.2.1 21 (by omega), sC_s, up_n _ _ (by decide), u3 21 (by omega)]; exact b2
        · rw [v4.2.2.1 497 (by decide) (by decide) (by decide) (by decide), sC_n _ _ (by decide), u4]; exact b3
        · rw [v4.2.2.1 498 (by decide) (by decide) (by decide) (by decide), sC_n _ _ (by decide), u5]; exact b4
        · rw [v4.2.2.2.2.1 22 (by omega), sC_s, up_s]
          exact Or.inr ⟨y8, t, rfl, v6, Nat.le_refl _⟩
        · rw [v4.2.2.2.2.1 23 (by omega), sC_s, up_n _ _ (by decide), u3 23 (by omega)]
          refine RU.mono b8 (t := t) (by omega) (fun i hi => ?_)
          rw [v4.2.2.2.2.2.1 i hi, sC_n _ _ (by decide), u6]
    · refine ⟨μ', rfl, Or.inr ⟨w, p, z1, ?_⟩⟩
      intro ν hν
      obtain ⟨ν1, u1, u2, u3, u4, u5, u6⟩ := beg_ok2 hn hB hν
      obtain ⟨b1, b2, b3, b4, t, b5, b6, b7, b8⟩ := hν.2.2
      have t24 : ν1.2.1 492 24 = I t := by rw [u3 24 (by omega)]; exact b5
      have R2 := u2.1.f (f := 22) (I t) (by omega)
      obtain ⟨ν', v1, v2⟩ := z2 (sC ν1 492 (up (ν1.2.1 492) 22 (I t))) t R2 (by rw [sC_s, up_n _ _ (by decide)]; exact u2.2.1) (by rw [sC_s, up_n _ _ (by decide)]; exact t24) (by omega)
      refine ⟨ν', ?_, v2⟩
      unfold rbod
      rw [u1, bs]
      simp only
      rw [if_neg (by decide), bs, sI_C, t24]
      exact v1
  · obtain ⟨g, e1, F1⟩ := hb.refuse h0 (w := 5) (by decide)
    rw [if_neg hG, if_neg (by decide), e1, bs]
    refine ⟨_, rfl, Or.inr ⟨5, k, F1, ?_⟩⟩
    intro ν hν
    obtain ⟨ν1, u1, u2⟩ := beg_again hν
    refine ⟨ν1, ?_, u2⟩
    unfold rbod
    rw [u1, bs]
    simp only
    rw [if_pos trivial]
theorem body_fades (hn : n ≤ 700) (hB : ∀ i, i < n → B i < 256) (hq : q = 3 ∨ q = 17) (h : CLs B n q μ0 k C G Fd pc r μ) (hw : tkS B n (Pq B n k) ≠ 0) : BOUT B n q μ0 ν0 k C G Fd r (rbod 0 (if Fd = [] then 0 else 1) (fun ν => (some (sI ν 492 23 (ν.2.1 492 24))).bind fun μ => fX11_expression 492 (4 : Int32) (8 : Int32) μ)) (fX6_readRule 31 (q + 6) 8 μ) := by
  have hcl := h
  obtain ⟨hb, h0, hE, hS, hA, hkn⟩ := h
  unfold fX6_readRule
  rw [told_ok hE.2.2.2.2.2.2.2.1 hE.2.2.2.2.2.2.2.2.2.2.2.1]
  by_cases hG : Fd = []
  · obtain ⟨μ1, e1, h1⟩ := hcl.adv hn hB hq hw
    have hE1 := h1.2.2.1
    have hsz : μ1.2.1 (q + 6) 1 = 0 := by rw [hE1.2.2.2.2.2.2.2.1, hG]; rfl
    rw [if_pos hG, if_pos rfl, e1, bs, bs, bs]
    obtain ⟨μ', e', O⟩ := rule_core (ν0 := ν0) hn hB hq (vok_F hn hB) (by decide) (a := q + 6) (by omega) h1.1 h1.2.1 hsz h1.2.2.2.2.2 (by omega)
    rw [e', bs]
    rcases O with ⟨j, X, y1, y2, y3, y4, y5, y6, y7, y8, y9, y10, y11⟩ | ⟨w, p, z1, z2⟩
    · refine ⟨μ', rfl, Or.inl ⟨j, C, G, X, pc, r, by omega, ⟨y2, y3, ?_, ?_, hA, y10⟩, ?_⟩⟩
      · obtain ⟨a1, a2, a3, a4, a5, a6, a7, a8, a9, a10, a11⟩ := hE1
        exact ⟨by rw [y5 _ (by omega) (by omega) (by omega)]; exact a1, by rw [y5 _ (by omega) (by omega) (by omega)]; exact a2, by rw [y4]; exact a3, by rw [y5 _ (by omega) (by omega) (by omega)]; exact a4, by rw [y5 _ (by omega) (by omega) (by omega)]; exact a5, by rw [y5 _ (by omega) (by omega) (by omega)]; exact a6, by rw [y5 _ (by omega) (by omega) (by omega)]; exact a7, y6, y7, a10, y9⟩
      · exact h1.2.2.2.1.fr (y5 _ (by omega) (by omega) (by omega)) (by rw [y4]) (y5 _ (by omega) (by omega) (by omega)) (y5 _ (by omega) (by omega) (by omega)) (y5 _ (by omega) (by omega) (by omega)) (y5 _ (by omega) (by omega) (by omega))
      · intro ν hν
        obtain ⟨ν1, u1, u2, u3, u4, u5, u6⟩ := beg_ok2 hn hB hν
        obtain ⟨b1, b2, b3, b4, t, b5, b6, b7, b8⟩ := hν.2.2
        have t24 : ν1.2.1 492 24 = I t := by rw [u3 24 (by omega)]; exact b5
        have R2 := u2.1.f (f := 23) (I t) (by omega)
        obtain ⟨ν', v1, v2, v3, v4, v5, v6, v7⟩ := y11 (sC ν1 492 (up (ν1.2.1 492) 23 (I t))) t R2 (by rw [sC_s, up_n _ _ (by decide)]; exact u2.2.1) (by rw [sC_s, up_n _ _ (by decide)]; exact t24) (by omega)
        refine ⟨ν', ?_, v2, v3, ?_, ?_, ?_, ?_, t + (fl vmF X).length + 1, v5, v7, ?_, ?_⟩
        · unfold rbod
          rw [u1, bs]
          simp only
          rw [if_neg (by decide), bs, sI_C, t24]
          exact v1
        · rw [v4.2.2.2.2.1 20 (by omega), sC_s, up_n _ _ (by decide), u3 20 (by omega)]; exact b1
        · rw [v4.2.2.2.2.1 21 (by omega), sC_s, up_n _ _ (by decide), u3 21 (by omega)]; exact b2
        · rw [v4.2.2.1 497 (by decide) (by decide) (by decide) (by decide), sC_n _ _ (by decide), u4]; exact b3
        · rw [v4.2.2.1 498 (by decide) (by decide) (by decide) (by decide), sC_n _ _ (by decide), u5]; exact b4
        · rw [v4.2.2.2.2.1 22 (by omega), sC_s, up_n _ _ (by decide), u3 22 (by omega)]
          refine RU.mono b7 (t := t) (by omega) (fun i hi => ?_)
          rw [v4.2.2.2.2.2.1 i hi, sC_n _ _ (by decide), u6]
        · rw [v4.2.2.2.2.1 23 (by omega), sC_s, up_s]
          exact Or.inr ⟨y8, t, rfl, v6, Nat.le_refl _⟩
    · refine ⟨μ', rfl, Or.inr ⟨w, p, z1, ?_⟩⟩
      intro ν hν
      obtain ⟨ν1, u1, u2, u3, u4, u5, u6⟩ := beg_ok2 hn hB hν
      obtain ⟨b1, b2, b3, b4, t, b5, b6, b7, b8⟩ := hν.2.2
      have t24 : ν1.2.1 492 24 = I t := by rw [u3 24 (by omega)]; exact b5
      have R2 := u2.1.f (f := 23) (I t) (by omega)
      obtain ⟨ν', v1, v2⟩ := z2 (sC ν1 492 (up (ν1.2.1 492) 23 (I t))) t R2 (by rw [sC_s, up_n _ _ (by decide)]; exact u2.2.1) (by rw [sC_s, up_n _ _ (by decide)]; exact t24) (by omega)
      refine ⟨ν', ?_, v2⟩
      unfold rbod
      rw [u1, bs]
      simp only
      rw [if_neg (by decide), bs, sI_C, t24]
      exact v1
  · obtain ⟨g, e1, F1⟩ := hb.refuse h0 (w := 5) (by decide)
    rw [if_neg hG, if_neg (by decide), e1, bs]
    refine ⟨_, rfl, Or.inr ⟨5, k, F1, ?_⟩⟩
    intro ν hν
    obtain ⟨ν1, u1, u2⟩ := beg_again hν
    refine ⟨ν1, ?_, u2⟩
    unfold rbod
    rw [u1, bs]
    simp only
    rw [if_pos trivial]
/-- the end of a line -/
theorem pass_ok2 (hn : n ≤ 700) (hB : ∀ i, i < n → B i < 256) (hq : q = 3 ∨ q = 17) {rb : Mem → Option Mem} {x : Option Mem} (h : BOUT B n q μ0 ν0 k C G Fd r rb x) : BOUT B n q μ0 ν0 k C G Fd r (fun ν => (rb ν).bind fun μ => (fX11_need 492 (fX11_isSign 492 (59 : Int32) μ) μ).bind fun μ' => some μ') (x.bind fun μ6 => (fX6_pass 31 (59 : Int32) μ6).bind fun μ10 => some μ10) := by
  obtain ⟨μ', e, O⟩ := h
  rw [e, bs]
  rcases O with ⟨j, C', G', Fd', pc', r', y1, y2, y3⟩ | ⟨w, p, z1, z2⟩
  · by_cases hc : sg B n j 59 = true
    · have hS : tkS B n (Pq B n j) ≠ 0 := by rw [(sg_iff.mp hc).1]; decide
      obtain ⟨μ2, e2, h2⟩ := y2.adv hn hB hq hS
      have hp : fX6_pass 31 (59 : Int32) μ' = some μ2 := by
        unfold fX6_pass
        rw [if_pos y2.2.1, if_pos (show μ'.2.1 31 6 = (59 : Int32) from (ksg hB y2.1.2.2.1 (c := 59) (by decide)).mpr hc), e2, bs]
      rw [hp, bs]
      refine ⟨μ2, rfl, Or.inl ⟨j + 1, C', G', Fd', pc', r', by omega, h2, ?_⟩⟩
      intro ν hν
      obtain ⟨ν', u1, u2⟩ := y3 ν hν
      obtain ⟨ν2, u3, u4⟩ := u2.goes hn hB
      refine ⟨ν2, ?_, u4⟩
      show (rb ν).bind _ = _
      rw [u1, bs]
      unfold fX11_need
      rw [if_neg (goodL u2.2.1), show fX11_isSign 492 (59 : Int32) ν' = _ from u2.1.sign hB (c := 59) (by decide), if_pos hc, if_neg (by decide), u3, bs, bs]
    · obtain ⟨g, e2, F2⟩ := y2.1.refuse y2.2.1 (w := 1) (by decide)
      have hp : fX6_pass 31 (59 : Int32) μ' = some (sC μ' 31 g) := by
        unfold fX6_pass
        rw [if_pos y2.2.1, if_neg (show ¬ μ'.2.1 31 6 = (59 : Int32) from fun z => hc ((ksg hB y2.1.2.2.1 (c := 59) (by decide)).mp z)), e2, bs]
      rw [hp, bs]
      refine ⟨_, rfl, Or.inr ⟨1, j, F2, ?_⟩⟩
      intro ν hν
      obtain ⟨ν', u1, u2⟩ := y3 ν hν
      obtain ⟨ν2, u3, u4, _⟩ := u2.1.wrong u2.2.1 1
      refine ⟨ν2, ?_, u4⟩
      show (rb ν).bind _ = _
      rw [u1, bs]
      unfold fX11_need
      rw [if_neg (goodL u2.2.1), show fX11_isSign 492 (59 : Int32) ν' = _ from u2.1.sign hB (c := 59) (by decide), if_neg hc, if_pos rfl, u3, bs, bs]
  · rw [passl_f z1, bs]
    refine ⟨μ', rfl, Or.inr ⟨w, p, z1, ?_⟩⟩
    intro ν hν
    obtain ⟨ν', u1, u2⟩ := z2 ν hν
    refine ⟨ν', ?_, u2⟩
    show (rb ν).bind _ = _
    rw [u1, bs, need_f z1.1 u2, bs]
theorem rb_eq (b1 b2 : Int32) (F N : Mem → Option Mem) (ν : Mem) : ((fX11_begins 492 b1 b2 ν).bind fun x => if x.1 = 0 then N x.2 else (F x.2).bind N) = (rbod b1 b2 F ν).bind N := by
  unfold rbod
  cases fX11_begins 492 b1 b2 ν with
  | none => rfl
  | some x =>
    rw [bs, bs]
    split
    · rw [bs]
    · rfl
theorem BOUT.rb {rb rb' : Mem → Option Mem} {x : Option Mem} (h : BOUT B n q μ0 ν0 k C G Fd r rb x) (e : ∀ ν, RLs B n ν0 k C G Fd r ν → rb' ν = rb ν) : BOUT B n q μ0 ν0 k C G Fd r rb' x := by
  obtain ⟨μ', e1, O⟩ := h
  refine ⟨μ', e1, ?_⟩
  rcases O with ⟨j, C', G', Fd', pc', r', y1, y2, y3⟩ | ⟨w, p, z1, z2⟩
  · exact Or.inl ⟨j, C', G', Fd', pc', r', y1, y2, fun ν hν => by rw [e ν hν]; exact y3 ν hν⟩
  · exact Or.inr ⟨w, p, z1, fun ν hν => by rw [e ν hν]; exact z2 ν hν⟩
theorem line_ok (hn : n ≤ 700) (hB : ∀ i, i < n → B i < 256) (hq : q = 3 ∨ q = 17) (h : CLs B n q μ0 k C G Fd pc r μ) (hw : tkS B n (Pq B n k) ≠ 0) : BOUT B n q μ0 ν0 k C G Fd r (fun ν => fX11_line 492 ν) (fX6_readLine 31 μ) := by
  have hb := h.1
  have hC := h.2.2.2.2.1.1
  have hD6 := hC.1
  have hP6 := hC.2.1
  unfold fX6_readLine
  rw [wf_LN_ok hn hB hb.1 (Pq_le _) hb.2.2.1, bs]
  have kwp : ∀ v, v < 17 → KW B n (Pq B n k) = v → (if KW B n (Pq B n k) = 17 then (-1 : Int32) else I (KW B n (Pq B n k))) = I v := fun v hv e => (kwv v hv).mpr e
  have kwn : ∀ v, v < 17 → KW B n (Pq B n k) ≠ v → ¬ (if KW B n (Pq B n k) = 17 then (-1 : Int32) else I (KW B n (Pq B n k))) = I v := fun v hv e z => e ((kwv v hv).mp z)
  by_cases k8 : KW B n (Pq B n k) = 8
  · rw [show wf_LN (KW B n (Pq B n k)) = I 0 by rw [k8]; rfl, if_pos (show I 0 = (0 : Int32) from rfl)]
    refine (pass_ok2 hn hB hq (body_deed hn hB hq h hw)).rb ?_
    intro ν hν
    show fX11_line 492 ν = _
    unfold fX11_line
    rw [hν.1.word hn, bs, kwp 8 (by decide) k8, if_pos (show I 8 = (8 : Int32) from rfl), hν.2.2.1, ← rb_eq]
    by_cases e : C.D = 6
    · rw [if_pos (show I C.D = (6 : Int32) by rw [e]; rfl), if_pos e]
    · rw [if_neg (show ¬ I C.D = (6 : Int32) from fun z => e ((I_inj (m := 6) (by omega) (by omega)).mp z)), if_neg e]
  · by_cases k9 : KW B n (Pq B n k) = 9
    · rw [show wf_LN (KW B n (Pq B n k)) = I 1 by rw [k9]; rfl, if_neg (by decide), if_pos (show I 1 = (1 : Int32) from rfl)]
      refine (pass_ok2 hn hB hq (body_stile hn hB hq h hw)).rb ?_
      intro ν hν
      show fX11_line 492 ν = _
      unfold fX11_line
      rw [hν.1.word hn, bs, kwp 9 (by decide) k9, if_neg (by decide), if_pos (show I 9 = (9 : Int32) from rfl), ← rb_eq]
    · by_cases k10 : KW B n (Pq B n k) = 10
      · rw [show wf_LN (KW B n (Pq B n k)) = I 2 by rw [k10]; rfl, if_neg (by decide), if_neg (by decide), if_pos (show I 2 = (2 : Int32) from rfl)]
        refine (pass_ok2 hn hB hq (body_person hn hB hq h hw)).rb ?_
        intro ν hν
        show fX11_line 492 ν = _
        unfold fX11_line
        rw [hν.1.word hn, bs, kwp 10 (by decide) k10, if_neg (by decide), if_neg (by decide), if_pos (show I 10 = (10 : Int32) from rfl), hν.2.2.2.1, ← rb_eq]
        by_cases e : C.P = 6
        · rw [if_pos (show I C.P = (6 : Int32) by rw [e]; rfl), if_pos e]
        · rw [if_neg (show ¬ I C.P = (6 : Int32) from fun z => e ((I_inj (m := 6) (by omega) (by omega)).mp z)), if_neg e]
      · obtain ⟨_, _, c5, c6, _⟩ := cel_g hb.2.1 hq
        have ru : ∀ (c : Row) (t : Nat) (f : Int32) (vm : Nat → Nat) (G : List Itm), t ≤ 1400 → RU c t f vm G → (f = -1 ↔ G = []) := by
          intro c t f vm G ht hR
          rcases hR with ⟨z1, z2⟩ | ⟨z1, k0, z2, _, z3⟩
          · exact ⟨fun _ => z1, fun _ => z2⟩
          · exact ⟨fun e => absurd (z2 ▸ e) (I_m1 (by omega)), fun e => absurd e z1⟩
        by_cases k12 : KW B n (Pq B n k) = 12
        · rw [show wf_LN (KW B n (Pq B n k)) = I 3 by rw [k12]; rfl, if_neg (by decide), if_neg (by decide), if_neg (by decide), if_pos (show I 3 = (3 : Int32) from rfl), hb.2.2.2.1, bs, c5, bs]
          refine (pass_ok2 hn hB hq (body_goes hn hB hq h hw)).rb ?_
          intro ν hν
          show fX11_line 492 ν = _
          obtain ⟨_, _, _, _, t, _, b6, b7, _⟩ := hν.2.2
          have hkn := h.2.2.2.2.2
          have hz := ru _ _ _ _ _ (by omega) b7
          unfold fX11_line
          rw [hν.1.word hn, bs, kwp 12 (by decide) k12, if_neg (by decide), if_neg (by decide), if_neg (by decide), if_pos (show I 12 = (12 : Int32) from rfl), ← rb_eq]
          by_cases e : G = []
          · rw [if_pos (hz.mpr e), if_pos e]
            rfl
          · rw [if_neg (fun z => e (hz.mp z)), if_neg e]
            rfl
        · by_cases k13 : KW B n (Pq B n k) = 13
          · rw [show wf_LN (KW B n (Pq B n k)) = I 4 by rw [k13]; rfl, if_neg (by decide), if_neg (by decide), if_neg (by decide), if_neg (by decide), if_pos (show I 4 = (4 : Int32) from rfl), hb.2.2.2.1, bs, c6, bs]
            refine (pass_ok2 hn hB hq (body_fades hn hB hq h hw)).rb ?_
            intro ν hν
            show fX11_line 492 ν = _
            obtain ⟨_, _, _, _, t, _, b6, _, b8⟩ := hν.2.2
            have hkn := h.2.2.2.2.2
            have hz := ru _ _ _ _ _ (by omega) b8
            unfold fX11_line
            rw [hν.1.word hn, bs, kwp 13 (by decide) k13, if_neg (by decide), if_neg (by decide), if_neg (by decide), if_neg (by decide), if_pos (show I 13 = (13 : Int32) from rfl), ← rb_eq]
            by_cases e : Fd = []
            · rw [if_pos (hz.mpr e), if_pos e]
              rfl
            · rw [if_neg (fun z => e (hz.mp z)), if_neg e]
              rfl
          · have hwf : wf_LN (KW B n (Pq B n k)) = -1 := by
              unfold wf_LN
              rw [if_neg k8, if_neg k9, if_neg k10, if_neg k12, if_neg k13]
            obtain ⟨g, e1, F1⟩ := hb.refuse h.2.1 (w := 1) (by decide)
            rw [hwf, if_neg (by decide), if_neg (by decide), if_neg (by decide), if_neg (by decide), if_neg (by decide), e1, bs, passl_f F1, bs]
            refine ⟨_, rfl, Or.inr ⟨1, k, F1, ?_⟩⟩
            intro ν hν
            obtain ⟨ν1, u1, u2, _⟩ := hν.1.wrong hν.2.1 1
            refine ⟨ν1, ?_, u2⟩
            show fX11_line 492 ν = _
            unfold fX11_line
            rw [hν.1.word hn, bs, if_neg (show ¬ _ = (8 : Int32) from kwn 8 (by decide) k8), if_neg (show ¬ _ = (9 : Int32) from kwn 9 (by decide) k9), if_neg (show ¬ _ = (10 : Int32) from kwn 10 (by decide) k10), if_neg (show ¬ _ = (12 : Int32) from kwn 12 (by decide) k12), if_neg (show ¬ _ = (13 : Int32) from kwn 13 (by decide) k13), u1, bs, need_f (by decide) u2, bs]
end Li
