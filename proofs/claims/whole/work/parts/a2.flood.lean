/-! CALLS: the flood; reached -/
theorem rch_snoc {A : Nat → Nat → Bool} {W : Nat → Bool} {z y : Nat} (h1 : A z y = true) (h2 : W y = true) : ∀ j x, rch A W z j x → rch A W y (j + 1) x := by
  intro j
  induction j with
  | zero =>
    intro x h
    obtain rfl : x = z := h
    exact ⟨y, h1, h2, rfl⟩
  | succ j ih =>
    rintro x ⟨w, a, b, c⟩
    exact ⟨w, a, b, ih w c⟩
theorem rch_unsnoc {A : Nat → Nat → Bool} {W : Nat → Bool} {y : Nat} : ∀ j x, rch A W y (j + 1) x → ∃ z, rch A W z j x ∧ A z y = true ∧ W y = true := by
  intro j
  induction j with
  | zero =>
    rintro x ⟨w, a, b, rfl⟩
    exact ⟨x, rfl, a, b⟩
  | succ j ih =>
    rintro x ⟨w, a, b, c⟩
    obtain ⟨z, h1, h2, h3⟩ := ih w c
    exact ⟨z, ⟨w, a, b, h1⟩, h2, h3⟩
section Fl
variable {C : Cel} {G Fd : List Itm} {pc : Nat → Int32} {k : Nat} {r : Row} {μ : Mem}
theorem rch_to {A : Nat → Nat → Bool} {W : Nat → Bool} (hA : ∀ x y, there C x = true → A x y = true → there C y = true) : ∀ j x y, there C x = true → rch A W y j x → there C y = true := by
  intro j
  induction j with
  | zero => intro x y hx h; obtain rfl : x = y := h; exact hx
  | succ j ih =>
    rintro x y hx ⟨w, a, b, c⟩
    exact ih w y (hA x w hx a) c
theorem flood_ok {g : Nat} {ν : Mem} (hC : C.ok) (hs : StOK C r) (h : GD C r g ν) {S O : Int64} (hS : ∀ x, mb S x = true → there C x = true) : ∃ F, fX5_flood g S O ν = some F ∧ ∀ y, mb F y = true ↔ ∃ j s, mb S s = true ∧ rch (adj C r) (mb O) y j s := by
  have hA : ∀ x y, there C x = true → adj C r x y = true → there C y = true := fun x y hx ha => adj_there hC hs hx ha
  unfold fX5_flood
  have key := loop_ok (S := Nat × Int64) (R := Int64) (fun m s => fX5_flood_6 ν m g O s.2 (I s.1)) 48
    (fun j s => s.1 = j ∧ j ≤ cnt (mb s.2) 48 ∧ (∀ y, mb s.2 y = true ↔ ∃ i t, i ≤ j ∧ mb S t = true ∧ rch (adj C r) (mb O) y i t))
    (fun F => ∀ y, mb F y = true ↔ ∃ j s, mb S s = true ∧ rch (adj C r) (mb O) y j s) ?_ ?_ 48 fuel 0 (0, S) rfl (by unfold fuel; omega) ⟨rfl, Nat.zero_le _, fun y => ⟨fun hy => ⟨0, y, Nat.le_refl 0, hy, rfl⟩, fun ⟨i, t, hi, ht, hr⟩ => by
      obtain rfl : i = 0 := by omega
      obtain rfl : t = y := hr
      exact ht⟩⟩
  · obtain ⟨F, e, hF⟩ := key
    exact ⟨F, e, hF⟩
  · rintro m j ⟨j', v⟩ hj ⟨i1, i2, i3⟩
    simp only at i1 i2 i3
    subst i1
    have hv : ∀ x, mb v x = true → there C x = true := by
      intro x hx
      obtain ⟨i, t, _, ht, hr⟩ := (i3 x).mp hx
      exact rch_to hA i t x (hS t ht) hr
    show Ok (fX5_flood_6 ν (m + 1) g O v (I j')) _ ∨ ∃ s', fX5_flood_6 ν (m + 1) g O v (I j') = _ ∧ _
    rw [fX5_flood_6, if_pos (show I j' < (48 : Int32) by rw [I_ltl (by omega) (by decide)]; omega)]
    have hnx : ∀ y, mb (v ||| (fX5_beside g v ν &&& O)) y = true ↔ mb v y = true ∨ ∃ x, mb v x = true ∧ adj C r x y = true ∧ mb O y = true := by
      intro y
      rw [mb_or, mb_and, Bool.or_eq_true, Bool.and_eq_true, beside_iff hC hs h hv y]
      constructor
      · rintro (q | ⟨⟨_, x, q1, q2⟩, q3⟩)
        · exact Or.inl q
        · exact Or.inr ⟨x, q1, q2, q3⟩
      · rintro (q | ⟨x, q1, q2, q3⟩)
        · exact Or.inl q
        · exact Or.inr ⟨⟨hA x y (hv x q1) q2, x, q1, q2⟩, q3⟩
    by_cases q : (v ||| (fX5_beside g v ν &&& O)) = v
    · rw [if_pos q]
      left
      refine Ok.s ?_
      rw [q] at hnx
      intro y
      constructor
      · intro hy
        obtain ⟨i, t, _, ht, hr⟩ := (i3 y).mp hy
        exact ⟨i, t, ht, hr⟩
      · rintro ⟨i, t, ht, hr⟩
        induction i generalizing y with
        | zero => exact (i3 y).mpr ⟨0, t, Nat.zero_le _, ht, hr⟩
        | succ i ih =>
          obtain ⟨z, h1, h2, h3⟩ := rch_unsnoc i t hr
          exact (hnx y).mpr (Or.inr ⟨z, ih z h1, h2, h3⟩)
    · rw [if_neg q, I_addl]
      right
      refine ⟨(j' + 1, v ||| (fX5_beside g v ν &&& O)), rfl, rfl, ?_, ?_⟩
      · have : ∃ y, y < 64 ∧ mb v y = false ∧ mb (v ||| (fX5_beside g v ν &&& O)) y = true := by
          by_cases z : ∃ y, y < 64 ∧ mb v y = false ∧ mb (v ||| (fX5_beside g v ν &&& O)) y = true
          · exact z
          · refine absurd (mb_ext ?_) q
            intro x hx
            cases h1 : mb v x
            · cases h2 : mb (v ||| (fX5_beside g v ν &&& O)) x
              · rfl
              · exact absurd ⟨x, hx, h1, h2⟩ z
            · rw [(hnx x).mpr (Or.inl h1)]
        obtain ⟨y, _, h1, h2⟩ := this
        have hy48 : y < 48 := by
          rcases (hnx y).mp h2 with q | ⟨x, q1, q2, _⟩
          · exact there_lt hC (hv y q)
          · exact there_lt hC (hA x y (hv x q1) q2)
        have := cnt_lt hy48 h1 h2 (fun x _ hx => (hnx x).mpr (Or.inl hx))
        show j' + 1 ≤ cnt (mb (v ||| (fX5_beside g v ν &&& O))) 48
        omega
      · intro y
        show mb (v ||| (fX5_beside g v ν &&& O)) y = true ↔ _
        rw [hnx y]
        constructor
        · rintro (q | ⟨x, q1, q2, q3⟩)
          · obtain ⟨i, t, hi, ht, hr⟩ := (i3 y).mp q
            exact ⟨i, t, by omega, ht, hr⟩
          · obtain ⟨i, t, hi, ht, hr⟩ := (i3 x).mp q1
            exact ⟨i + 1, t, by omega, ht, rch_snoc q2 q3 i t hr⟩
        · rintro ⟨i, t, hi, ht, hr⟩
          by_cases z : i ≤ j'
          · exact Or.inl ((i3 y).mpr ⟨i, t, z, ht, hr⟩)
          · obtain rfl : i = j' + 1 := by omega
            obtain ⟨x, h1, h2, h3⟩ := rch_unsnoc j' t hr
            exact Or.inr ⟨x, (i3 x).mpr ⟨j', t, Nat.le_refl _, ht, h1⟩, h2, h3⟩
  · rintro m ⟨j', v⟩ ⟨i1, i2, i3⟩
    simp only at i1 i2 i3
    subst i1
    show Ok (fX5_flood_6 ν (m + 1) g O v (I 48)) _
    rw [fX5_flood_6, if_neg (by decide)]
    refine Ok.s ?_
    intro y
    constructor
    · intro hy
      obtain ⟨i, t, _, ht, hr⟩ := (i3 y).mp hy
      exact ⟨i, t, ht, hr⟩
    · rintro ⟨i, t, ht, hr⟩
      have hy := there_lt hC (rch_to hA i t y (hS t ht) hr)
      cases z : mb v y
      · have : cnt (mb v) 48 < cnt (fun _ => true) 48 := cnt_lt hy z rfl (fun _ _ _ => rfl)
        have := cnt_le (fun _ => true) 48
        omega
      · rfl
/-- there is a way from x to y -/
noncomputable def rcB (C : Cel) (r : Row) (x y : Nat) : Bool := there C y && !decide (dR C r y x = 9999)
theorem rcB_iff (hC : C.ok) (hs : StOK C r) {x y : Nat} (hx : there C x = true) : rcB C r x y = true ↔ ∃ j, rch (adj C r) (wh C r) y j x := by
  unfold rcB
  rw [Bool.and_eq_true, Bool.not_eq_true', decide_eq_false_iff_not]
  constructor
  · rintro ⟨h1, h2⟩
    rcases dst_wh hC hs h1 x with q | q
    · exact absurd q.1 h2
    · exact ⟨_, q.2.1⟩
  · rintro ⟨j, hj⟩
    have hy := rch_to (fun x y hx ha => adj_there hC hs hx ha) j x y hx hj
    refine ⟨hy, fun e => ?_⟩
    rcases dst_wh hC hs hy x with q | q
    · exact q.2 j hj
    · have e' : dst (adj C r) (wh C r) y x = 9999 := e
      omega
theorem mbO_eq {ν : Mem} {g : Nat} (h : GD C r g ν) : mb (ν.2.2.1 g 1) = wh C r := funext h.2.1
theorem floodX {g : Nat} {ν : Mem} (hC : C.ok) (hs : StOK C r) (h : GD C r g ν) {x : Nat} (hx : there C x = true) : ∃ F, fX5_flood g (fX10_bit (I x)) (ν.2.2.1 g 1) ν = some F ∧ ∀ y, mb F y = rcB C r x y := by
  have hx48 := there_lt hC hx
  obtain ⟨F, e, hF⟩ := flood_ok hC hs h (S := fX10_bit (I x)) (O := ν.2.2.1 g 1) (fun y hy => by
    rw [mb_bit (by omega)] at hy
    rw [of_decide_eq_true hy]; exact hx)
  refine ⟨F, e, fun y => ?_⟩
  apply Bool.eq_iff_iff.mpr
  rw [hF y, rcB_iff hC hs hx, mbO_eq h]
  constructor
  · rintro ⟨j, s, h1, h2⟩
    rw [mb_bit (by omega)] at h1
    obtain rfl := of_decide_eq_true h1
    exact ⟨j, h2⟩
  · rintro ⟨j, hj⟩
    exact ⟨j, x, by rw [mb_bit (by omega)]; exact decide_eq_true rfl, hj⟩
def codeXD (C : Cel) (a b : Int32) : Int32 := match plc C a with
  | none => 1
  | some _ => if okD C b = true then 0 else 1
noncomputable def valRc (C : Cel) (r : Row) (a b : Int32) : Int32 := match plc C a with
  | none => 0
  | some x => cbits (fun j => rcB C r x (8 * ix b + j)) 8
theorem c_reached (hI : INV C G Fd pc k r μ) (a b : Int32) : CQ (fX10_reached 0 a b μ) μ (codeXD C a b) (valRc C r a b) := by
  have hC := hI.2.1
  have hD := hC.1
  have hs := hI.2.2.2.2.2.2.2.2.1.1.1
  unfold fX10_reached codeXD valRc
  rw [inside_ok hI, bs]
  cases hp : plc C a with
  | none => exact ⟨μ, FrB.refl _ _ μ, Or.inr (Or.inl ⟨rfl, rfl⟩)⟩
  | some x =>
    simp only
    have hx := plc_there hC hp
    rw [needD_ok hI, bs]
    by_cases h1 : okD C b = true
    · rw [if_pos h1, if_pos h1]
      simp only
      obtain ⟨d, hd, rfl⟩ := okD_ex hC h1
      obtain ⟨L, e, f1, f2⟩ := here_ok hI
      have hG1 := f1.gr hI.1
      obtain ⟨F, e2, hF⟩ := floodX hC hs f2 hx
      refine ⟨_, f1, Or.inl ⟨rfl, ?_⟩⟩
      rw [e, bs]
      simp only
      rw [g_0_15 hG1, bs, bs, e2, bs, ix_I (by omega)]
      have : fX10_bitsOfDeed F (I d) = cbits (fun j => rcB C r x (8 * d + j)) 8 := by
        apply tb_ext
        intro p hp
        rw [bod_tb F (by omega) hp, tb_cbits _ 8 (by omega), hF]
      rw [this]
    · rw [if_neg h1, if_neg h1]
      exact ⟨μ, FrB.refl _ _ μ, Or.inr (Or.inl ⟨rfl, rfl⟩)⟩
theorem r_reached (hI : INV C G Fd pc k r μ) (a b : Int32) : RQ (fX11_reached 492 a b μ) μ (codeXD C a b) (valRc C r a b) := by
  have hC := hI.2.1
  have hD := hC.1
  obtain ⟨t1, t2, t3, t4⟩ := thr0 μ
  have hR0 := t1.rc hI.2.2.2.2.2.2.1
  unfold fX11_reached codeXD valRc
  rw [bs, sI_C, placeOf_ok hR0 t2, bs]
  cases hp : plc C a with
  | none =>
    simp only [if_true]
    exact RQ.no (by decide) t1 t3 t4
  | some x =>
    have hx := plc_there hC hp
    have hx48 := there_lt hC hx
    simp only
    rw [if_neg (I_m1 (by omega)), isDeed_ok hR0 t2]
    by_cases h1 : okD C b = true
    · rw [if_pos h1, if_pos h1, bs]
      simp only
      rw [if_neg (by decide)]
      obtain ⟨d, hd, rfl⟩ := okD_ex hC h1
      have hz := hC.2.2 d hd
      rw [ix_I (by omega)]
      obtain ⟨⟨j, N⟩, e, i1, i2, i3⟩ := loop_k (S := Nat × Mem) (R := Option (Int32 × Mem))
        (fun m s => fX11_reached_32 m 492 (I d) (I x) (cbits (fun j => rcB C r x (8 * d + j)) s.1) (I s.1) s.2)
        (fun s => some (cbits (fun j => rcB C r x (8 * d + j)) s.1, s.2)) (C.z d)
        (fun j s => s.1 = j ∧ FR (thr μ 0) s.2 ∧ s.2.2.1 492 = (thr μ 0).2.1 492)
        (by
          rintro m j ⟨j', N⟩ hj ⟨i1, i2, i3⟩
          simp only at i1 i2 i3
          subst i1
          have hRN := i2.rc hR0
          have ht : there C (8 * d + j') = true := by
            rw [there_iff, show (8 * d + j') / 8 = d by omega, show (8 * d + j') % 8 = j' by omega]
            exact ⟨hd, hj⟩
          obtain ⟨F, Q, e, h1, h2, _⟩ := howFar_ok hI (t1.trans i2) (by rw [i3, t3]) hx ht
          refine ⟨(j' + 1, mFQ N F Q), ?_, rfl, i2.trans h1, h2.trans i3⟩
          show fX11_reached_32 (m + 1) 492 (I d) (I x) (cbits (fun j => rcB C r x (8 * d + j)) j') (I j') N = fX11_reached_32 m 492 (I d) (I x) (cbits (fun j => rcB C r x (8 * d + j)) (j' + 1)) (I (j' + 1)) (mFQ N F Q)
          rw [fX11_reached_32, g_492_5 hRN.1, bs, ld_493 (by omega), bs, hRN.2.2.2.2 d hd, if_pos (show I j' < I (C.z d) from (I_lt (by omega) (by omega)).mpr hj), l_mulI, I_add, e, bs]
          simp only [I_addl]
          have hrc : rcB C r x (8 * d + j') = !decide (dR C r (8 * d + j') x = 9999) := by
            unfold rcB
            rw [ht, Bool.true_and]
          rcases dR_le hI ht x with q | q
          · rw [if_pos (show I (dR C r (8 * d + j') x) < (9999 : Int32) by rw [I_ltl (by omega) (by decide)]; omega)]
            have : cbits (fun j => rcB C r x (8 * d + j)) (j' + 1) = cbits (fun j => rcB C r x (8 * d + j)) j' ||| bitI j' := by
              rw [cbits]
              exact if_pos (by rw [hrc, decide_eq_false (by omega)]; rfl)
            rw [this]
          · rw [if_neg (show ¬ I (dR C r (8 * d + j') x) < (9999 : Int32) by rw [q]; decide)]
            have : cbits (fun j => rcB C r x (8 * d + j)) (j' + 1) = cbits (fun j => rcB C r x (8 * d + j)) j' := by
              rw [cbits]
              exact if_neg (by rw [hrc, decide_eq_true q]; decide)
            rw [this, Int32.or_zero])
        (by
          rintro m ⟨j', N⟩ ⟨i1, i2, i3⟩
          simp only at i1 i2
          subst i1
          have hRN := i2.rc hR0
          show fX11_reached_32 (m + 1) 492 (I d) (I x) _ (I (C.z d)) N = _
          rw [fX11_reached_32, g_492_5 hRN.1, bs, ld_493 (by omega), bs, hRN.2.2.2.2 d hd, if_neg (show ¬ I (C.z d) < I (C.z d) by rw [I_lt (by omega) (by omega)]; omega)])
        (C.z d) fuel 0 (0, thr μ 0) rfl (by unfold fuel; omega) ⟨rfl, FR.refl _, rfl⟩
      simp only at i1 i2 i3 e
      have hcz : cbits (fun j => rcB C r x (8 * d + j)) (C.z d) = cbits (fun j => rcB C r x (8 * d + j)) 8 := by
        apply tb_ext
        intro p hp
        rw [tb_cbits _ _ (by omega), tb_cbits _ _ (by omega)]
        by_cases q : p < C.z d
        · rw [decide_eq_true q, decide_eq_true (show p < 8 by omega)]
        · rw [decide_eq_false q]
          by_cases q8 : p < 8
          · have : rcB C r x (8 * d + p) = false := by
              unfold rcB
              have : there C (8 * d + p) = false := by
                cases z : there C (8 * d + p)
                · rfl
                · have := (there_iff.mp z).2
                  rw [show (8 * d + p) / 8 = d by omega, show (8 * d + p) % 8 = p by omega] at this
                  exact absurd this q
              rw [this, Bool.false_and]
            rw [this, Bool.and_false, Bool.and_false]
          · rw [decide_eq_false q8]
      rw [i1, hcz] at e
      rw [show fX11_reached_32 fuel 492 (I d) (I x) (0 : Int32) (0 : Int32) (thr μ 0) = _ from e]
      exact RQ.fr t1 t2 t3 t4 i2 i3
    · rw [if_neg h1, if_neg h1, bs]
      simp only [if_true]
      exact RQ.no (by decide) t1 t3 t4
theorem codeXD_ne (a b : Int32) : codeXD C a b ≠ 2 := by
  unfold codeXD
  split
  · decide
  · split <;> decide
theorem qq_reached (hI : INV C G Fd pc k r μ) (a b : Int32) : QQ C G Fd pc k r (fun μ => fL_reached 0 a b 518 μ) (fun ν => fX11_reached 492 a b ν) μ := q_reached hI a b (c_reached hI a b) (codeXD_ne a b) (fun ν h => r_reached h a b)
end Fl
