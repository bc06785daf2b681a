/-! ACTS: stile, days, undo -/
theorem tb_addb {v : Int32} {j : Nat} (hj : j < 32) (h : tb v j = false) (p : Nat) : tb (v + bitI j) p = (tb v p || decide (p = j)) := by
  have e : v.toBitVec &&& (bitI j).toBitVec = 0#32 := by
    apply BitVec.eq_of_getLsbD_eq
    intro i hi
    rw [BitVec.getLsbD_and]
    have h1 : (bitI j).toBitVec.getLsbD i = decide (i = j) := tb_bitI hj i
    rw [h1]
    by_cases q : i = j
    · subst q
      have h2 : v.toBitVec.getLsbD i = false := h
      rw [h2]
      simp
    · simp [q]
  have e2 : v + bitI j = v ||| bitI j := by
    rw [← Int32.toBitVec_inj, Int32.toBitVec_add, BitVec.add_eq_or_of_and_eq_zero _ _ e]
    rfl
  rw [e2, tb_or, tb_bitI hj]
theorem tb_subb {v : Int32} {j : Nat} (hj : j < 32) (h : tb v j = true) {p : Nat} (hp : p < 32) : tb (v + ((0 : Int32) - bitI j)) p = (tb v p && !decide (p = j)) := by
  have hw : ∀ q, q < 32 → tb (v &&& (bitI j ^^^ (-1 : Int32))) q = (tb v q && !decide (q = j)) := by
    intro q hq
    rw [tb_and, tb_not hq, tb_bitI hj]
  have e : (v &&& (bitI j ^^^ (-1 : Int32))) + bitI j = v := by
    refine tb_ext (fun q hq => ?_)
    rw [tb_addb hj (by rw [hw j hj]; simp), hw q hq]
    by_cases e : q = j
    · subst e; rw [h]; simp
    · simp [e]
  have e3 : v + ((0 : Int32) - bitI j) = v &&& (bitI j ^^^ (-1 : Int32)) := by
    have := Int32.add_sub_cancel (v &&& (bitI j ^^^ (-1 : Int32))) (bitI j)
    rw [e] at this
    rw [Int32.zero_sub, ← Int32.sub_eq_add_neg]
    exact this
  rw [e3, hw p hp]
theorem stl_up {r : Row} {x : Nat} (hx : x < 48) {v : Int32} (h : ∀ p, p < 8 → tb v p = xor (tb (r (49 + x / 8)) p) (decide (p = x % 8))) (y : Nat) : stl (up r (49 + x / 8) v) y = xor (stl r y) (decide (y = x)) := by
  unfold stl
  by_cases hy : y < 48
  · rw [decide_eq_true hy, Bool.true_and, Bool.true_and]
    by_cases e : y / 8 = x / 8
    · rw [e, up_s, h (y % 8) (by omega)]
      have : decide (y % 8 = x % 8) = decide (y = x) := by
        by_cases q : y = x
        · subst q; simp
        · rw [decide_eq_false q, decide_eq_false (by omega)]
      rw [this]
    · rw [up_n _ _ (by omega), decide_eq_false (show ¬ y = x by intro q; exact e (by rw [q])), Bool.xor_false]
  · rw [decide_eq_false hy, decide_eq_false (show ¬ y = x by omega)]
    rfl
theorem mb_xor (a b : Int64) (x : Nat) : mb (a ^^^ b) x = xor (mb a x) (mb b x) := BitVec.getLsbD_xor
theorem SH.stile {C : Cel} {r : Row} {x : Nat} {v : Int32} {μ : Mem} (hC : C.ok) (hS : SH C r 33 μ) (hx : x < 48) (h : ∀ p, p < 8 → tb v p = xor (tb (r (49 + x / 8)) p) (decide (p = x % 8))) : SH C (up r (49 + x / 8) v) 33 (sLC μ 33 (up (μ.2.2.1 33) 2 (μ.2.2.1 33 2 ^^^ fX10_bit (I x)))) := by
  have hP := hC.2.1
  obtain ⟨b0, b1, b2, b3, b4, b5, b6⟩ := hS
  have ew : wh C (up r (49 + x / 8) v) = wh C r := wh_congr hC (fun k _ hk => up_n _ _ (by omega))
  unfold SH
  rw [ew]
  simp only [sLC_i, sLC_s]
  refine ⟨by rw [up_n _ _ (by omega)]; exact b0, fun y => by rw [up_n _ _ (by decide)]; exact b1 y, ?_, fun y hy => by rw [up_n _ _ (by omega)]; exact b3 y hy, ?_, ?_, ?_⟩
  · intro y
    rw [up_s, mb_xor, b2 y, mb_bit (by omega), stl_up hx h]
  · intro q hq; rw [b4 q hq]; split
    · rw [up_n _ _ (by omega)]
    · rfl
  · intro q hq; rw [b5 q hq]; split
    · rw [up_n _ _ (by omega)]
    · rfl
  · intro q hq; rw [b6 q hq]; split
    · rw [up_n _ _ (by omega)]
    · rfl
theorem Good.stile {C : Cel} {pc : Nat → Int32} {r : Row} (hC : C.ok) (hg : Good C pc r) {x : Nat} {v : Int32} (hx : there C x = true) (hx8 : there C (x + 8) = true) (h : ∀ p, p < 32 → tb v p = xor (tb (r (49 + x / 8)) p) (decide (p = x % 8))) : Good C pc (up r (49 + x / 8) v) := by
  have hP := hC.2.1
  have hx48 := there_lt hC hx
  obtain ⟨⟨g1, g2, g3⟩, h2, h3, h4⟩ := hg
  refine ⟨⟨?_, fun q hq => by rw [up_n _ _ (by omega)]; exact g2 q hq, fun q hq => by rw [up_n _ _ (by omega)]; exact g3 q hq⟩, fun y hy hn => by rw [up_n _ _ (by omega)]; exact h2 y hy hn, fun q hq => by rw [up_n _ _ (by omega)]; exact h3 q hq, ?_⟩
  · intro y hy
    rw [stl_up hx48 (fun p hp => h p (by omega))] at hy
    by_cases e : y = x
    · subst e; exact ⟨hx, hx8⟩
    · rw [decide_eq_false e, Bool.xor_false] at hy
      exact g1 y hy
  · intro d hd p hp
    by_cases e : d = x / 8
    · subst e
      rw [up_s]
      by_cases hp32 : p < 32
      · rw [h p hp32, h4 (x / 8) hd p hp, decide_eq_false (by omega)]
        rfl
      · exact BitVec.getLsbD_of_ge _ _ (by omega)
    · rw [up_n _ _ (by omega)]; exact h4 d hd p hp
section St
variable {C : Cel} {G Fd : List Itm} {pc : Nat → Int32} {k : Nat} {r : Row} {μ : Mem}
theorem has56 (hI : INV C G Fd pc k r μ) {x : Nat} (hx : x < 56) : fX1_has k (I x) μ = if there C x = true then 1 else 0 := by
  by_cases h : x < 48
  · exact has_ok hI h
  · unfold fX1_has
    rw [if_neg (I_neg (by omega)), if_neg (by rw [I_ltl (by omega) (by decide)]; exact h), if_neg (fun q => h (there_lt hI.2.1 q))]
theorem isThere56 (h : RC C μ) {x : Nat} (hx : x < 56) : fX11_isThere 492 (I x) μ = some (if there C x = true then 1 else 0) := by
  by_cases h8 : x < 48
  · exact isThere_ok h h8
  · have := h.2.1.1
    unfold fX11_isThere
    rw [if_neg (I_neg (by omega)), h.2.2.1, I_divl (by omega) (by decide), if_neg (by rw [I_lt (by show x / 8 < _; omega) (by omega)]; show ¬ x / 8 < C.D; omega), if_neg (fun q => h8 (there_lt h.2.1 q))]
def bI (b : Bool) : Int32 := if b = true then 1 else 0
def stVal (r : Row) (x : Nat) : Int32 := if stl r x = true then r (49 + x / 8) + ((0 : Int32) - bitI (x % 8)) else r (49 + x / 8) + bitI (x % 8)
theorem stl48 {x : Nat} (hx : x < 48) : stl r x = tb (r (49 + x / 8)) (x % 8) := by
  unfold stl
  rw [decide_eq_true hx, Bool.true_and]
theorem stVal_tb {x : Nat} (hx : x < 48) : ∀ p, p < 32 → tb (stVal r x) p = xor (tb (r (49 + x / 8)) p) (decide (p = x % 8)) := by
  intro p hp
  unfold stVal
  by_cases h : stl r x = true
  · rw [if_pos h, tb_subb (by omega) (by rw [← stl48 hx]; exact h) hp]
    by_cases e : p = x % 8
    · subst e
      rw [← stl48 hx, h]
      simp
    · simp [e]
  · rw [if_neg h, tb_addb (by omega) (by rw [← stl48 hx]; simpa using h)]
    by_cases e : p = x % 8
    · subst e
      rw [← stl48 hx]
      simp at h
      rw [h]
      simp
    · simp [e]
theorem qa_stile (hI : INV C G Fd pc k r μ) (a : Int32) (b : Bool) : QA (fun μ => fL_stile 0 a (bI b) 518 μ) (fun ν => fX11_stile 492 a (bI b) ν) μ := by
  have hC := hI.2.1
  have hG := hI.1
  obtain ⟨t1, t2, t3, t4⟩ := thr0 μ
  cases hp : plc C a with
  | none =>
    refine QA.thr1 hI (v := 0) ?_ ?_
    · show fL_stile 0 a (bI b) 518 μ = _
      unfold fL_stile fX10_stile
      rw [inside_ok hI, hp, bs]
      rfl
    · show fX11_stile 492 a (bI b) μ = _
      unfold fX11_stile
      rw [bs, sI_C, placeOf_ok (t1.rc hI.rcc) t2, hp, bs]
      simp only [if_true]
  | some x =>
    have hth := plc_there hC hp
    have hx := there_lt hC hth
    have cl : fX10_stile 0 a (bI b) μ = if stl r x = b ∨ there C (x + 8) = false then some (.inl 0, sC μ 2 (up (μ.2.1 2) 1 (μ.2.1 2 1 + 1))) else (fX0_keep 38 33 μ).bind fun ν => (gR ν 0 7 19).bind fun a43 => (some (sL ν a43 2 ((ν.2.2.1 a43 2) ^^^ (fX10_bit (I x))))).bind fun μ49 => some (.inl (1 : Int32), μ49) := by
      have q := crefuse hG (i := 1) (by decide) (fun μ10 => some ((Sum.inl (0 : Int32) : Int32 ⊕ Nat), μ10))
      unfold fX10_stile
      rw [inside_ok hI, hp, bs]
      simp only
      rw [g_0_7 hG, bs, hI.cel, bs, I_addl, has56 hI (by show x + 8 < 56; omega), g_0_8 hG, bs, bs]
      have hst : (μ.2.2.1 33 2 &&& fX10_bit (I x) = 0) = (stl r x = false) := by
        rw [and_bit0 (by omega), hI.sh.2.2.1 x]
      cases hs : stl r x with
      | false =>
        rw [if_pos (show μ.2.2.1 33 2 &&& fX10_bit (I x) = 0 by rw [hst]; exact hs)]
        cases b with
        | false => rw [if_pos (show (0 : Int32) = bI false from rfl), if_pos (Or.inl rfl)]; exact q
        | true =>
          rw [if_neg (show ¬ (0 : Int32) = bI true by decide)]
          cases h8 : there C (x + 8) with
          | false => rw [if_neg (show ¬ false = true by decide), if_pos rfl, if_pos (Or.inr rfl)]; exact q
          | true => rw [if_pos (show true = true from rfl), if_neg (by decide), if_neg (by decide)]
      | true =>
        rw [if_neg (show ¬ μ.2.2.1 33 2 &&& fX10_bit (I x) = 0 by rw [hst, hs]; decide)]
        cases b with
        | true => rw [if_pos (show (1 : Int32) = bI true from rfl), if_pos (Or.inl rfl)]; exact q
        | false =>
          rw [if_neg (show ¬ (1 : Int32) = bI false by decide)]
          cases h8 : there C (x + 8) with
          | false => rw [if_neg (show ¬ false = true by decide), if_pos rfl, if_pos (Or.inr rfl)]; exact q
          | true => rw [if_pos (show true = true from rfl), if_neg (by decide), if_neg (by decide)]
    have rf : ∀ ν, RC C (thr ν 0) → (thr ν 0).2.1 492 0 = 0 → (∀ j, j < 79 → (thr ν 0).2.1 502 j = r j) → (∀ M, fX11_keeps 492 (thr ν 0) = some M → Gr M ∧ M.2.1 502 (49 + x / 8) = r (49 + x / 8)) → fX11_stile 492 a (bI b) ν = if stl r x = b ∨ there C (x + 8) = false then some (0, sC (thr ν 0) 496 (up ((thr ν 0).2.1 496) 1 ((thr ν 0).2.1 496 1 + 1))) else (fX11_keeps 492 (thr ν 0)).bind fun M => some (1, sC M 502 (up (M.2.1 502) (49 + x / 8) (stVal r x))) := by
      intro ν hR h0 hr hM
      have q : ∀ (f : Int32 × Mem → Option (Int32 × Mem)), (∀ M, f (-1, M) = some (0, M)) → (fX11_refuses 492 (1 : Int32) (thr ν 0)).bind f = some (0, sC (thr ν 0) 496 (up ((thr ν 0).2.1 496) 1 ((thr ν 0).2.1 496 1 + 1))) := by
        intro f hf
        rw [show fX11_refuses 492 (1 : Int32) _ = _ from rrefuse (i := 1) hR.1 (by decide), bs, hf]
      unfold fX11_stile
      rw [bs, sI_C, placeOf_ok hR h0, hp, bs]
      simp only
      rw [if_neg (I_m1 (by omega)), g_492_34 hR.1, bs, I_mod (by omega) (by decide), I_divl (by omega) (by decide), l_addI, ld_502 (by show 49 + x / 8 < 158; omega), bs, hr (OfNat.ofNat 49 + x / OfNat.ofNat 8) (by show 49 + x / 8 < 79; omega), I_addl, isThere56 hR (by show x + 8 < 56; omega), bs]
      have hst : ((r (49 + x / 8) >>> (I (x % 8) &&& 31)) &&& 1 = 1) = (stl r x = true) := by
        rw [tb_sh (by omega), stl48 hx]
      cases hk : fX11_keeps 492 (thr ν 0) with
      | none =>
        cases hs : stl r x with
        | false =>
          rw [if_neg (show ¬ (r (OfNat.ofNat 49 + x / OfNat.ofNat 8) >>> (I (x % OfNat.ofNat 8) &&& 31)) &&& 1 = 1 by show ¬ (r (49 + x / 8) >>> (I (x % 8) &&& 31)) &&& 1 = 1; rw [hst, hs]; decide)]
          cases b with
          | false => rw [if_pos (show (0 : Int32) = bI false from rfl), if_pos (Or.inl rfl)]; exact q _ (fun M => rfl)
          | true =>
            rw [if_neg (show ¬ (0 : Int32) = bI true by decide)]
            cases h8 : there C (x + 8) with
            | false => rw [if_neg (show ¬ false = true by decide), if_pos rfl, if_pos (Or.inr rfl)]; exact q _ (fun M => rfl)
            | true => rw [if_pos (show true = true from rfl), if_neg (by decide), if_neg (by decide)]; rfl
        | true =>
          rw [if_pos (show (r (OfNat.ofNat 49 + x / OfNat.ofNat 8) >>> (I (x % OfNat.ofNat 8) &&& 31)) &&& 1 = 1 by show (r (49 + x / 8) >>> (I (x % 8) &&& 31)) &&& 1 = 1; rw [hst]; exact hs)]
          cases b with
          | true => rw [if_pos (show (1 : Int32) = bI true from rfl), if_pos (Or.inl rfl)]; exact q _ (fun M => rfl)
          | false =>
            rw [if_neg (show ¬ (1 : Int32) = bI false by decide)]
            cases h8 : there C (x + 8) with
            | false => rw [if_neg (show ¬ false = true by decide), if_pos rfl, if_pos (Or.inr rfl)]; exact q _ (fun M => rfl)
            | true => rw [if_pos (show true = true from rfl), if_neg (by decide), if_neg (by decide)]; rfl
      | some M =>
        obtain ⟨hGM, hrM⟩ := hM M hk
        have hld : ldI M 502 (I (OfNat.ofNat 49 + x / OfNat.ofNat 8)) = some (r (49 + x / 8)) := by
          show ldI M 502 (I (49 + x / 8)) = _
          rw [ld_502 (by omega), hrM]
        have hsI : ∀ v : Int32, stI M 502 (I (OfNat.ofNat 49 + x / OfNat.ofNat 8)) v = some (sC M 502 (up (M.2.1 502) (49 + x / 8) v)) := by
          intro v
          show stI M 502 (I (49 + x / 8)) v = _
          rw [st_502 (by omega)]
        cases hs : stl r x with
        | false =>
          have hv : stVal r x = r (49 + x / 8) + bitI (x % 8) := by unfold stVal; rw [if_neg (by rw [hs]; decide)]
          rw [if_neg (show ¬ (r (OfNat.ofNat 49 + x / OfNat.ofNat 8) >>> (I (x % OfNat.ofNat 8) &&& 31)) &&& 1 = 1 by show ¬ (r (49 + x / 8) >>> (I (x % 8) &&& 31)) &&& 1 = 1; rw [hst, hs]; decide)]
          cases b with
          | false => rw [if_pos (show (0 : Int32) = bI false from rfl), if_pos (Or.inl rfl)]; exact q _ (fun M => rfl)
          | true =>
            rw [if_neg (show ¬ (0 : Int32) = bI true by decide)]
            cases h8 : there C (x + 8) with
            | false => rw [if_neg (show ¬ false = true by decide), if_pos rfl, if_pos (Or.inr rfl)]; exact q _ (fun M => rfl)
            | true => rw [if_pos (show true = true from rfl), if_neg (by decide), if_neg (by decide), bs, g_492_34 hGM, bs, hld, bs, if_neg (show ¬ bI true = 0 by decide), hsI, bs, bs, hv]
        | true =>
          have hv : stVal r x = r (49 + x / 8) + ((0 : Int32) - bitI (x % 8)) := by unfold stVal; rw [if_pos hs]
          rw [if_pos (show (r (OfNat.ofNat 49 + x / OfNat.ofNat 8) >>> (I (x % OfNat.ofNat 8) &&& 31)) &&& 1 = 1 by show (r (49 + x / 8) >>> (I (x % 8) &&& 31)) &&& 1 = 1; rw [hst]; exact hs)]
          cases b with
          | true => rw [if_pos (show (1 : Int32) = bI true from rfl), if_pos (Or.inl rfl)]; exact q _ (fun M => rfl)
          | false =>
            rw [if_neg (show ¬ (1 : Int32) = bI false by decide)]
            cases h8 : there C (x + 8) with
            | false => rw [if_neg (show ¬ false = true by decide), if_pos rfl, if_pos (Or.inr rfl)]; exact q _ (fun M => rfl)
            | true => rw [if_pos (show true = true from rfl), if_neg (by decide), if_neg (by decide), bs, g_492_34 hGM, bs, hld, bs, if_pos (show bI false = 0 from rfl), hsI, bs, bs, hv]
    by_cases hq : stl r x = b ∨ there C (x + 8) = false
    · rw [if_pos hq] at cl
      refine QA.refu hI (i := 1) (by decide) (v := 0) ?_ ?_
      · show fL_stile 0 a (bI b) 518 μ = _
        unfold fL_stile
        rw [cl, bs]
        simp only
        rw [if_pos trivial, stL518, bs]
        rfl
      · intro ν hν he
        obtain ⟨hR, h0, hr⟩ := rc_ref hI hν he
        show fX11_stile 492 a (bI b) ν = _
        have h36 : ∃ K, K ≤ 40 ∧ (thr ν 0).2.1 492 36 = I K := by
          obtain ⟨K, hK, _, h36, _⟩ := hI.kept
          exact ⟨K, hK, by rw [sC_s, up_n _ _ (by decide), he 492 (by decide)]; exact h36⟩
        obtain ⟨K, hK, h36⟩ := h36
        rw [rf ν hR h0 hr ?_, if_pos hq]
        intro M hM
        obtain ⟨g, e1, e2⟩ := rkeep_ok hR.1 hK h36
        rw [e1] at hM
        obtain rfl := Option.some.inj hM
        refine ⟨(hR.1.sC _ _).sC _ _, ?_⟩
        rw [sC_n _ _ (by decide), sC_n _ _ (by decide)]
        exact hr _ (by omega)
    · rw [if_neg hq] at cl
      have h8 : there C (x + 8) = true := by
        cases h : there C (x + 8) with
        | true => rfl
        | false => exact absurd (Or.inr h) hq
      obtain ⟨K, hK, hA, h36, hgo⟩ := hI.kept
      obtain ⟨ν, e1, e2, e3⟩ := keep_ok hG hK hA hI.sh
      have hGν : Gr ν := e2.fc.aa.gr hG
      have hSν := e2.sh hI.sh
      have hv := stVal_tb (r := r) hx
      obtain ⟨k1, k2, k3, k4⟩ := act_cls hI (j := 49 + x / 8) (v := stVal r x) hK e2 e3 (ν' := sLC ν 33 (up (ν.2.2.1 33) 2 (ν.2.2.1 33 2 ^^^ fX10_bit (I x)))) rfl rfl (fun c hc => rfl) (fun c hc => sLC_n _ _ (by omega)) (hSν.stile hC hx (fun p hp => hv p (by omega))) 1
      obtain ⟨M, m1, m2, m3, m4, m5, m6⟩ := act_one hI k1 k2 k3 hK h36 hgo k4 (hI.good.stile hC hth h8 hv)
      obtain ⟨hR, h0, hr⟩ := rc_act hI k1
      refine QA.mk0 (v := 1) (ν := sLC ν 33 (up (ν.2.2.1 33) 2 (ν.2.2.1 33 2 ^^^ fX10_bit (I x)))) ?_ (ξ := sC M 502 (up (M.2.1 502) (49 + x / 8) (stVal r x))) ?_ ?_ ?_ ⟨C, G, Fd, pc, k, _, m6⟩
      · show fL_stile 0 a (bI b) 518 μ = _
        unfold fL_stile
        rw [cl, e1, bs, g_0_7 hGν, bs, bs, sL_C, bs]
        simp only
        rw [if_neg (by decide), stL518, bs]
        rfl
      · show fX11_stile 492 a (bI b) _ = _
        rw [rf _ hR h0 hr ?_, if_neg hq, m1, bs]
        intro M' hM'
        rw [m1] at hM'
        obtain rfl := Option.some.inj hM'
        exact ⟨m2, m3 _ (by omega)⟩
      · rw [sC_n _ _ (by decide)]; exact m4
      · show M.2.2.1 518 0 = _
        rw [m5, sLC_s, up_s]
end St
