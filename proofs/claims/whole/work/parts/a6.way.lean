/-! CALLS: way -/
section Wy
variable {C : Cel} {G Fd : List Itm} {pc : Nat → Int32} {k : Nat} {r : Row} {μ : Mem}
/-- a place without which there is no way -/
noncomputable def ndB (C : Cel) (r : Row) (x to y : Nat) : Bool := wh C r y && !decide (y = x) && !decide (y = to) && decide (dst (adj C r) (Wb C r (some y)) to x = 9999)
noncomputable def stV (C : Cel) (r : Row) (x to : Nat) : Int32 := if dR C r to x = 9999 ∨ dR C r to x = 0 then -1 else fX10_outside (I (fst48 (isStep C r to x)))
noncomputable def clV (C : Cel) (r : Row) (x to : Nat) : Int32 := if tcN (adj C r) (wh C r) x to = 9999 then -1 else I (tcN (adj C r) (wh C r) x to)
noncomputable def ndV (C : Cel) (r : Row) (x to : Nat) : Int32 := if dR C r to x = 9999 then 0 else I (cnt (ndB C r x to) 48)
noncomputable def wyV (C : Cel) (r : Row) (x to : Nat) (c : Int32) : Int32 := if c = 0 then farV C r to x else if c = 1 then stV C r x to else if c = 2 then clV C r x to else ndV C r x to
def codeXX (C : Cel) (a b : Int32) (q : Bool) : Int32 := match plc C a with
  | none => 1
  | some _ => match plc C b with
    | none => 1
    | some _ => if q = true then 0 else 1
theorem codeXX_ne (a b : Int32) (q : Bool) : codeXX C a b q ≠ 2 := by
  unfold codeXX
  split
  · decide
  · split
    · decide
    · split <;> decide
noncomputable def valXX (C : Cel) (a b : Int32) (f : Nat → Nat → Int32) : Int32 := match plc C a with
  | none => 0
  | some x => match plc C b with
    | none => 0
    | some y => f x y
theorem needed_C {ν : Mem} (hC : C.ok) (hs : StOK C r) (h : GD C r 468 ν) {x to : Nat} (hx : there C x = true) (hto : there C to = true) : fX5_needed 468 (I x) (I to) ν = some (ndV C r x to) := by
  have hx48 := there_lt hC hx
  have hto48 := there_lt hC hto
  obtain ⟨F, e, hF⟩ := floodX hC hs h hx
  unfold fX5_needed ndV
  rw [e, bs]
  have hrc : rcB C r x to = !decide (dR C r to x = 9999) := by unfold rcB; rw [hto, Bool.true_and]
  by_cases q : dR C r to x = 9999
  · rw [if_pos q, if_pos (show (F &&& fX10_bit (I to)) = 0 by rw [and_bit0 (by omega), hF, hrc, decide_eq_true q]; rfl)]
  · rw [if_neg q, if_neg (show ¬ (F &&& fX10_bit (I to)) = 0 by rw [and_bit0 (by omega), hF, hrc, decide_eq_false q]; decide)]
    have key := loop_eq (S := Nat) (R := Int32) (fun m s => fX5_needed_53 ν m 468 (I x) (I to) (I (cnt (ndB C r x to) s)) (((ν.2.2.1 468 1) &&& ((fX10_bit (I x)) ^^^ (-1 : Int64))) &&& ((fX10_bit (I to)) ^^^ (-1 : Int64))) (I s)) 48 id (some (I (cnt (ndB C r x to) 48))) ?_ ?_ 48 fuel 0 rfl (by unfold fuel; omega)
    · exact key
    · intro m j hj
      show fX5_needed_53 ν (m + 1) 468 (I x) (I to) (I (cnt (ndB C r x to) j)) _ (I j) = fX5_needed_53 ν m 468 (I x) (I to) (I (cnt (ndB C r x to) (j + 1))) _ (I (j + 1))
      have hb : mb (((ν.2.2.1 468 1) &&& ((fX10_bit (I x)) ^^^ (-1 : Int64))) &&& ((fX10_bit (I to)) ^^^ (-1 : Int64))) j = (wh C r j && !decide (j = x) && !decide (j = to)) := by
        rw [mb_and, mb_and, mb_not (by omega), mb_not (by omega), mb_bit (by omega), mb_bit (by omega), h.2.1]
      rw [fX5_needed_53, if_pos (show I j < (48 : Int32) by rw [I_ltl (by omega) (by decide)]; omega), cnt_s]
      cases hw : (wh C r j && !decide (j = x) && !decide (j = to)) with
      | false =>
        rw [if_pos (show (((ν.2.2.1 468 1) &&& ((fX10_bit (I x)) ^^^ (-1 : Int64))) &&& ((fX10_bit (I to)) ^^^ (-1 : Int64))) &&& fX10_bit (I j) = 0 by rw [and_bit0 (by omega), hb, hw]), if_pos rfl, I_addl, if_neg (show ¬ ndB C r x to j = true by unfold ndB; rw [hw, Bool.false_and]; decide)]
        simp only [Nat.add_zero]
      | true =>
        rw [if_neg (show ¬ (((ν.2.2.1 468 1) &&& ((fX10_bit (I x)) ^^^ (-1 : Int64))) &&& ((fX10_bit (I to)) ^^^ (-1 : Int64))) &&& fX10_bit (I j) = 0 by rw [and_bit0 (by omega), hb, hw]; decide), if_neg (by decide)]
        obtain ⟨F', e', hF'⟩ := flood_ok hC hs h (S := fX10_bit (I x)) (O := (ν.2.2.1 468 1) &&& ((fX10_bit (I j)) ^^^ (-1 : Int64))) (fun y hy => by
          rw [mb_bit (by omega)] at hy
          rw [of_decide_eq_true hy]; exact hx)
        have hO : mb ((ν.2.2.1 468 1) &&& ((fX10_bit (I j)) ^^^ (-1 : Int64))) = Wb C r (some j) := by
          funext y
          unfold Wb
          by_cases hy : y < 64
          · rw [mb_and, mb_not hy, mb_bit (by omega), h.2.1]
            congr 1
            by_cases t : y = j
            · subst t; simp
            · rw [decide_eq_false t, decide_eq_true (show some j ≠ some y from fun q => t (Option.some.inj q).symm)]; rfl
          · rw [mb_and, mb_ge (by omega), mb_ge (by omega)]
            have : wh C r y = false := by
              cases z : wh C r y
              · rfl
              · have := there_lt hC (wh_iff.mp z).1
                omega
            rw [this]; rfl
        rw [hO] at hF'
        rw [e', bs, I_addl, I_addl]
        have hnd : ndB C r x to j = decide (dst (adj C r) (Wb C r (some j)) to x = 9999) := by unfold ndB; rw [hw, Bool.true_and]
        have hto' : mb F' to = true ↔ ¬ dst (adj C r) (Wb C r (some j)) to x = 9999 := by
          rw [hF' to]
          rcases dst_cases hC hs (fun _ h => Wb_there h) hto x (W := Wb C r (some j)) with t | t
          · constructor
            · rintro ⟨i, s, h1, h2⟩
              rw [mb_bit (by omega)] at h1
              obtain rfl := of_decide_eq_true h1
              exact absurd h2 (t.2 i)
            · intro q; exact absurd t.1 q
          · constructor
            · intro _ q; omega
            · intro _
              exact ⟨_, x, by rw [mb_bit (by omega)]; exact decide_eq_true rfl, t.2.1⟩
        by_cases z : dst (adj C r) (Wb C r (some j)) to x = 9999
        · have hm : mb F' to = false := by
            cases t : mb F' to
            · rfl
            · exact absurd z (hto'.mp t)
          rw [if_pos (show (F' &&& fX10_bit (I to)) = 0 by rw [and_bit0 (by omega)]; exact hm), if_pos (show ndB C r x to j = true by rw [hnd]; exact decide_eq_true z)]
        · rw [if_neg (show ¬ (F' &&& fX10_bit (I to)) = 0 by rw [and_bit0 (by omega), hto'.mpr z]; decide), if_neg (show ¬ ndB C r x to j = true by rw [hnd]; exact fun t => z (of_decide_eq_true t))]
          simp only [Nat.add_zero]
    · intro m
      show fX5_needed_53 ν (m + 1) 468 (I x) (I to) (I (cnt (ndB C r x to) 48)) _ (I 48) = _
      rw [fX5_needed_53, if_neg (by decide)]
theorem c_way (hI : INV C G Fd pc k r μ) (a b c : Int32) : CQ (fX10_way 0 a b c μ) μ (codeXX C a b (okW c 4)) (valXX C a b (fun x y => wyV C r x y c)) := by
  have hC := hI.2.1
  have hs := hI.2.2.2.2.2.2.2.2.1.1.1
  unfold fX10_way codeXX valXX
  rw [inside_ok hI, bs]
  cases hp : plc C a with
  | none => exact ⟨μ, FrB.refl _ _ μ, Or.inr (Or.inl ⟨rfl, rfl⟩)⟩
  | some x =>
    simp only
    rw [inside_ok hI, bs]
    cases hq : plc C b with
    | none => exact ⟨μ, FrB.refl _ _ μ, Or.inr (Or.inl ⟨rfl, rfl⟩)⟩
    | some to =>
      simp only
      have hx := plc_there hC hp
      have hto := plc_there hC hq
      rw [show fX10_needWhat 0 c (4 : Int32) = _ from needW_ok c 4, bs]
      by_cases h1 : okW c 4 = true
      · rw [if_pos h1, if_pos h1]
        simp only
        obtain ⟨L0, e, f1, f2⟩ := here_ok hI
        have hG1 := f1.gr hI.1
        obtain ⟨L, e2, g1, g2, g3⟩ := cfar_ok hG1 hC hs f2 hx hto
        have hG2 := g1.gr hG1
        rw [e]
        unfold wyV
        by_cases c0 : c = 0
        · rw [if_pos c0, if_pos c0]
          refine ⟨_, f1.trans g1, Or.inl ⟨rfl, ?_⟩⟩
          rw [bs]
          simp only
          rw [e2, bs]
        · rw [if_neg c0, if_neg c0]
          by_cases c1 : c = 1
          · rw [if_pos c1, if_pos c1]
            refine ⟨_, f1.trans g1, Or.inl ⟨rfl, ?_⟩⟩
            rw [bs]
            simp only
            rw [e2, bs]
            simp only
            unfold stV farV
            rcases dR_le hI hto x with q | q
            · rw [if_neg (show ¬ dR C r to x = 9999 by omega)]
              by_cases z : dR C r to x = 0
              · rw [z, if_neg (by decide), if_pos (Or.inr rfl)]
              · obtain ⟨m, hm⟩ : ∃ m, dR C r to x = m + 1 := ⟨dR C r to x - 1, by omega⟩
                rw [if_pos (show (0 : Int32) < I (dR C r to x) by rw [l_ltI (by omega) (by decide)]; show 0 < dR C r to x; omega), if_neg (show ¬ (dR C r to x = 9999 ∨ dR C r to x = 0) by omega), g_0_15 hG2, bs, hm]
                have hL : Lay C r to ((sLC (sLC μ 468 L0) 469 L).2.2.1 (468 + 1) m) m := by
                  show Lay C r to ((sLC (sLC μ 468 L0) 469 L).2.2.1 469 m) m
                  rw [sLC_s]
                  exact g3 (by omega) m (by omega)
                rw [(step_ok hG2 (Or.inr rfl) hC hs g2 hx hto hm (by omega) hL).1, bs]
            · rw [if_pos q, if_neg (by decide), if_pos (Or.inl q)]
          · rw [if_neg c1, if_neg c1]
            by_cases c2 : c = 2
            · rw [if_pos c2, if_pos c2]
              refine ⟨_, f1, Or.inl ⟨rfl, ?_⟩⟩
              rw [bs]
              simp only
              rw [fewest_ok hC hs f2 hx hto, bs]
              rfl
            · rw [if_neg c2, if_neg c2]
              refine ⟨_, f1, Or.inl ⟨rfl, ?_⟩⟩
              rw [bs]
              simp only
              rw [needed_C hC hs f2 hx hto, bs]
      · rw [if_neg h1, if_neg h1]
        exact ⟨μ, FrB.refl _ _ μ, Or.inr (Or.inl ⟨rfl, rfl⟩)⟩
/-- how far it is with a place barred -/
theorem howFarB (hI : INV C G Fd pc k r μ) {ν : Mem} (hF : FR μ ν) {y : Nat} (hy : y < 48) (h41 : ν.2.1 492 41 = I y) {x to : Nat} (hx : there C x = true) (hto : there C to = true) (hne : y ≠ to) : ∃ F Q, fX11_howFar 492 (I x) (I to) ν = some (I (dst (adj C r) (Wb C r (some y)) to x), mFQ ν F Q) ∧ FR ν (mFQ ν F Q) ∧ (mFQ ν F Q).2.1 492 = ν.2.1 492 := by
  have hC := hI.2.1
  have hx48 := there_lt hC hx
  have hRC := hF.rc hI.2.2.2.2.2.2.1
  have he := hI.e79 hF
  have hs : StOK C (rwb ν 0) := StOK_congr (fun k _ hk => (he k (by omega)).symm) hI.2.2.2.2.2.2.2.2.1.1.1
  obtain ⟨F, Q, e, h⟩ := laysFar_ok hRC (b := 0) (by omega) hs (bar := some y) (by rw [h41]; rfl) (fun x q => by cases q; exact hy) hto (fun q => hne (Option.some.inj q))
  refine ⟨F, Q, ?_, (FR.c F (by decide) (by decide) (by decide)).trans (FR.c Q (by decide) (by decide) (by decide)), rfl⟩
  unfold fX11_howFar
  rw [show fX11_laysFar 492 (0 : Int32) (I to) ν = _ from e, bs, gC, gC, g_492_39 hRC.1, bs, ld_506 hx48, bs, mFQ_F, h x hx]
  have : Wb C (rwb ν 0) (some y) = Wb C r (some y) := by
    funext z
    unfold Wb
    rw [wh_congr hC (fun k _ hk => he k (by omega))]
  rw [this, adj_congr (fun k _ hk => he k (by omega))]
theorem needed_R (hI : INV C G Fd pc k r μ) {ν : Mem} (hF : FR μ ν) (h41 : ν.2.1 492 41 = μ.2.1 492 41) (h45 : ν.2.1 492 45 = μ.2.1 492 45) (h0 : ν.2.1 492 0 = 0) {x to : Nat} (hx : there C x = true) (hto : there C to = true) : ∃ ξ, fX11_needed 492 (I x) (I to) ν = some (ndV C r x to, ξ) ∧ FR μ ξ ∧ ξ.2.1 492 41 = μ.2.1 492 41 ∧ ξ.2.1 492 45 = μ.2.1 492 45 ∧ ξ.2.1 492 0 = 0 := by
  have hC := hI.2.1
  have hs := hI.2.2.2.2.2.2.2.2.1.1.1
  have hx48 := there_lt hC hx
  have hto48 := there_lt hC hto
  obtain ⟨F, Q, e, f1, f2, _⟩ := howFar_ok hI hF h41 hx hto
  unfold fX11_needed ndV
  rw [e, bs]
  simp only
  rcases dR_le hI hto x with q | q
  · rw [if_pos (show I (dR C r to x) < (9999 : Int32) by rw [I_ltl (by omega) (by decide)]; omega), if_neg (show ¬ dR C r to x = 9999 by omega)]
    obtain ⟨⟨j, N⟩, e2, i1, i2, i3, i4⟩ := loop_k (S := Nat × Mem) (R := Option (Int32 × Mem))
      (fun m s => fX11_needed_19 m 492 (I x) (I to) (I (cnt (ndB C r x to) s.1)) (I s.1) s.2) (fun s => some (I (cnt (ndB C r x to) s.1), sC s.2 492 (up (s.2.2.1 492) 41 (-1)))) 48
      (fun j s => s.1 = j ∧ FR μ s.2 ∧ s.2.2.1 492 45 = μ.2.1 492 45 ∧ s.2.2.1 492 0 = 0)
      (by
        rintro m j ⟨j', N⟩ hj ⟨i1, i2, i3, i4⟩
        simp only at i1 i2 i3 i4
        subst i1
        have hRN := i2.rc hI.2.2.2.2.2.2.1
        have he := hI.e79 i2
        have hwz := white_ok (μ := N) hRN.1 (b := 0) (x := j') (by omega) hj
        rw [he (1 + j') (by omega)] at hwz
        show ∃ s', fX11_needed_19 (m + 1) 492 (I x) (I to) (I (cnt (ndB C r x to) j')) (I j') N = _ ∧ _
        rw [fX11_needed_19, if_pos (show I j' < (48 : Int32) by rw [I_ltl (by omega) (by decide)]; omega), isThere_ok hRN hj, bs, show fX11_isWhite 492 (0 : Int32) (I j') N = _ from hwz]
        have hno : ∀ h : ¬ ndB C r x to j' = true, cnt (ndB C r x to) (j' + 1) = cnt (ndB C r x to) j' := fun h => by rw [cnt_s, if_neg h, Nat.add_zero]
        by_cases ht : there C j' = true
        · rw [if_pos ht, if_neg (by decide), bs]
          by_cases hw : r (1 + j') = 0
          · rw [if_pos hw, if_neg (by decide)]
            have hwh : wh C r j' = true := wh_iff.mpr ⟨ht, hw⟩
            by_cases hjx : j' = x
            · rw [if_pos (show I j' = I x by rw [hjx]), I_addl]
              refine ⟨(j' + 1, N), ?_, rfl, i2, i3, i4⟩
              simp only
              rw [hno (by unfold ndB; rw [decide_eq_true hjx]; simp)]
            · rw [if_neg (show ¬ I j' = I x by rw [I_inj (by omega) (by omega)]; exact hjx)]
              by_cases hjt : j' = to
              · rw [if_pos (show I j' = I to by rw [hjt]), I_addl]
                refine ⟨(j' + 1, N), ?_, rfl, i2, i3, i4⟩
                simp only
                rw [hno (by unfold ndB; rw [decide_eq_true hjt]; simp)]
              · rw [if_neg (show ¬ I j' = I to by rw [I_inj (by omega) (by omega)]; exact hjt), bs, sI_C]
                have hFN : FR μ (sC N 492 (up (N.2.1 492) 41 (I j'))) := i2.trans (FR.f _ (by decide))
                obtain ⟨F', Q', e', g1, g2⟩ := howFarB hI hFN hj (by rw [sC_s, up_s]) hx hto hjt
                rw [e', bs]
                simp only
                have hnd : ndB C r x to j' = decide (dst (adj C r) (Wb C r (some j')) to x = 9999) := by
                  unfold ndB
                  rw [hwh, decide_eq_false hjx, decide_eq_false hjt]
                  rfl
                refine ⟨(j' + 1, mFQ (sC N 492 (up (N.2.1 492) 41 (I j'))) F' Q'), ?_, rfl, hFN.trans g1, ?_, ?_⟩
                · rcases dst_cases hC hs (fun _ h => Wb_there h) hto x (W := Wb C r (some j')) with t | t
                  · rw [t.1, if_neg (by decide), I_addl, I_addl]
                    simp only
                    rw [cnt_s, if_pos (show ndB C r x to j' = true by rw [hnd]; exact decide_eq_true t.1)]
                  · rw [if_pos (show I (dst (adj C r) (Wb C r (some j')) to x) < (9999 : Int32) by rw [I_ltl (by omega) (by decide)]; show _ < 9999; omega), I_addl, I_addl, Nat.add_zero]
                    simp only
                    rw [hno (by rw [hnd]; exact fun u => by have := of_decide_eq_true u; omega)]
                · show (mFQ (sC N 492 (up (N.2.1 492) 41 (I j'))) F' Q').2.1 492 45 = _
                  rw [g2, sC_s, up_n _ _ (by decide)]; exact i3
                · show (mFQ (sC N 492 (up (N.2.1 492) 41 (I j'))) F' Q').2.1 492 0 = _
                  rw [g2, sC_s, up_n _ _ (by decide)]; exact i4
          · rw [if_neg hw, if_pos rfl, I_addl]
            refine ⟨(j' + 1, N), ?_, rfl, i2, i3, i4⟩
            simp only
            rw [hno (by
              have : wh C r j' = false := by
                cases z : wh C r j'
                · rfl
                · exact absurd (wh_iff.mp z).2 hw
              unfold ndB; rw [this]; simp)]
        · rw [if_neg ht, if_pos rfl, I_addl]
          refine ⟨(j' + 1, N), ?_, rfl, i2, i3, i4⟩
          simp only
          rw [hno (by
            have : wh C r j' = false := by
              cases z : wh C r j'
              · rfl
              · exact absurd (wh_iff.mp z).1 ht
            unfold ndB; rw [this]; simp)])
      (by
        rintro m ⟨j', N⟩ ⟨i1, i2, i3, i4⟩
        simp only at i1
        subst i1
        show fX11_needed_19 (m + 1) 492 (I x) (I to) _ (I 48) N = _
        rw [fX11_needed_19, if_neg (by decide), bs, sI_C])
      48 fuel 0 (0, mFQ ν F Q) rfl (by unfold fuel; omega) ⟨rfl, hF.trans f1, by show (mFQ ν F Q).2.1 492 45 = _; rw [f2]; exact h45, by show (mFQ ν F Q).2.1 492 0 = _; rw [f2]; exact h0⟩
    simp only at e2 i1 i2 i3 i4
    rw [i1] at e2
    refine ⟨_, e2, i2.trans (FR.f _ (by decide)), ?_, ?_, ?_⟩
    · rw [sC_s, up_s, hI.2.2.2.2.2.2.2.2.2.2.2.2.2.2.2.2.2.1]
    · rw [sC_s, up_n _ _ (by decide)]; exact i3
    · rw [sC_s, up_n _ _ (by decide)]; exact i4
  · rw [if_neg (show ¬ I (dR C r to x) < (9999 : Int32) by rw [q]; decide), if_pos q]
    exact ⟨_, rfl, hF.trans f1, by rw [f2]; exact h41, by rw [f2]; exact h45, by rw [f2]; exact h0⟩
theorem r_way (hI : INV C G Fd pc k r μ) (a b c : Int32) : RQ (fX11_way 492 a b c μ) μ (codeXX C a b (okW c 4)) (valXX C a b (fun x y => wyV C r x y c)) := by
  have hC := hI.2.1
  have hs := hI.2.2.2.2.2.2.2.2.1.1.1
  obtain ⟨t1, t2, t3, t4⟩ := thr0 μ
  have hR0 := t1.rc hI.2.2.2.2.2.2.1
  have he := hI.e79 t1
  have hs0 : StOK C (rwb (thr μ 0) 0) := StOK_congr (fun k _ hk => (he k (by omega)).symm) hs
  unfold fX11_way codeXX valXX
  rw [bs, sI_C, placeOf_ok hR0 t2, bs]
  cases hp : plc C a with
  | none =>
    simp only [if_true]
    exact RQ.no (by decide) t1 t3 t4
  | some x =>
    have hx := plc_there hC hp
    have hx48 := there_lt hC hx
    simp only
    rw [if_neg (I_m1 (by omega)), placeOf_ok hR0 t2, bs]
    cases hq : plc C b with
    | none =>
      simp only [if_true]
      exact RQ.no (by decide) t1 t3 t4
    | some to =>
      have hto := plc_there hC hq
      have hto48 := there_lt hC hto
      simp only
      rw [if_neg (I_m1 (by omega)), show fX11_isWhat 492 c (3 : Int32) (thr μ 0) = _ from isWhat_ok (m := 3) t2 c (by decide)]
      by_cases h1 : okW c 4 = true
      · rw [if_pos h1, if_pos h1, bs]
        simp only
        rw [if_neg (by decide)]
        unfold wyV
        by_cases c2 : c = 2
        · rw [if_pos c2, if_neg (show ¬ c = 0 by rw [c2]; decide), if_neg (show ¬ c = 1 by rw [c2]; decide), if_pos c2]
          obtain ⟨g, e, hb⟩ := toClear_ok hR0 hs0 hx hto
          rw [adj_congr (fun k _ hk => he k (by omega)), wh_congr hC (fun k _ hk => he k (by omega))] at e hb
          rw [e, bs]
          have hv : fX11_orNone (I (tcN (adj C r) (wh C r) x to)) = clV C r x to := by
            unfold fX11_orNone clV
            rcases hb with q | q
            · rw [if_pos (show I (tcN (adj C r) (wh C r) x to) < (9999 : Int32) by rw [I_ltl (by omega) (by decide)]; show _ < 9999; omega), if_neg (by omega)]
            · rw [q, if_neg (by decide), if_pos rfl]
          simp only
          rw [hv]
          exact RQ.fr t1 t2 t3 t4 (FR.c g (by decide) (by decide) (by decide)) (sC_n _ _ (by decide))
        · rw [if_neg c2]
          by_cases c3 : c = 3
          · rw [if_pos c3, if_neg (show ¬ c = 0 by rw [c3]; decide), if_neg (show ¬ c = 1 by rw [c3]; decide), if_neg c2]
            obtain ⟨ξ, e, h1, h2, h3, h4⟩ := needed_R hI t1 t3 t4 t2 hx hto
            rw [e, bs]
            exact ⟨_, ξ, rfl, h1, h2, h3, h4, fun _ => rfl⟩
          · rw [if_neg c3]
            obtain ⟨F, Q, e, f1, f2, f3⟩ := howFar_ok hI t1 t3 hx hto
            rw [e, bs]
            simp only
            by_cases c0 : c = 0
            · rw [if_pos c0, if_pos c0, orNone_ok hI hto]
              exact RQ.fr t1 t2 t3 t4 f1 f2
            · rw [if_neg c0, if_neg c0]
              have c1 : c = 1 := by
                obtain ⟨n, hn, rfl⟩ := okW_ex (by decide) h1
                have : n = 0 ∨ n = 1 ∨ n = 2 ∨ n = 3 := by omega
                rcases this with rfl | rfl | rfl | rfl
                · exact absurd rfl c0
                · rfl
                · exact absurd rfl c2
                · exact absurd rfl c3
              rw [if_pos c1]
              unfold stV
              rcases dR_le hI hto x with q | q
              · by_cases z : dR C r to x = 0
                · rw [z, if_pos (show I 0 = (0 : Int32) from rfl), if_pos (Or.inr rfl)]
                  exact RQ.fr t1 t2 t3 t4 f1 f2
                · rw [if_neg (show ¬ I (dR C r to x) = 0 by rw [I_eql (by omega) (by decide)]; exact z), if_pos (show I (dR C r to x) < (9999 : Int32) by rw [I_ltl (by omega) (by decide)]; show _ < 9999; omega), if_neg (show ¬ (dR C r to x = 9999 ∨ dR C r to x = 0) by omega)]
                  have hRF := f1.rc hR0
                  have hrw : rwb (mFQ (thr μ 0) F Q) 0 = rwb (thr μ 0) 0 := rfl
                  have hdd : ∀ y, dst (adj C (rwb (mFQ (thr μ 0) F Q) 0)) (wh C (rwb (mFQ (thr μ 0) F Q) 0)) to y = dR C r to y := by
                    intro y
                    rw [hrw, adj_congr (fun k _ hk => he k (by omega)), wh_congr hC (fun k _ hk => he k (by omega))]
                  have hst := stepFrom_ok hRF (b := 0) (by omega) (by rw [hrw]; exact hs0) hx hto (fun y hy => by rw [mFQ_F, f3 y hy, hdd]) (by rw [hdd]; omega) (by rw [hdd]; exact z)
                  have hisS : isStep C (rwb (mFQ (thr μ 0) F Q) 0) to x = isStep C r to x := by
                    funext y
                    unfold isStep
                    rw [hrw, adj_congr (fun k _ hk => he k (by omega)), wh_congr hC (fun k _ hk => he k (by omega))]
                  rw [hisS] at hst
                  rw [show fX11_stepFrom 492 (0 : Int32) (I x) (mFQ (thr μ 0) F Q) = _ from hst, bs]
                  have h48 : fst48 (isStep C r to x) < 48 := by
                    obtain ⟨L0, _, g1, g2⟩ := here_ok hI
                    have hG1 := g1.gr hI.1
                    obtain ⟨m, hm⟩ : ∃ m, dR C r to x = m + 1 := ⟨dR C r to x - 1, by omega⟩
                    obtain ⟨L, _, k1, k2, k3⟩ := cfar_ok hG1 hC hs g2 hx hto
                    have hL : Lay C r to ((sLC (sLC μ 468 L0) 469 L).2.2.1 (468 + 1) m) m := by
                      show Lay C r to ((sLC (sLC μ 468 L0) 469 L).2.2.1 469 m) m
                      rw [sLC_s]
                      exact k3 (by omega) m (by omega)
                    exact (step_ok (k1.gr hG1) (Or.inr rfl) hC hs k2 hx hto hm (by omega) hL).2.2
                  rw [toldAs_v (Or.inr ⟨_, rfl, h48⟩)]
                  exact RQ.fr t1 t2 t3 t4 f1 f2
              · rw [q, if_neg (by decide), if_neg (by decide), if_pos (Or.inl rfl)]
                exact RQ.fr t1 t2 t3 t4 f1 f2
      · rw [if_neg h1, if_neg h1, bs]
        simp only [if_true]
        exact RQ.no (by decide) t1 t3 t4
theorem qq_way (hI : INV C G Fd pc k r μ) (a b c : Int32) : QQ C G Fd pc k r (fun μ => fL_way 0 a b c 518 μ) (fun ν => fX11_way 492 a b c ν) μ := q_way hI a b c (c_way hI a b c) (codeXX_ne a b _) (fun ν h => r_way h a b c)
end Wy
