/-! CALLS: farthest -/
section Fa
variable {C : Cel} {G Fd : List Itm} {pc : Nat → Int32} {k : Nat} {r : Row} {μ : Mem}
/-- so far it is from x to y -/
abbrev FD (C : Cel) (r : Row) (x y j : Nat) : Prop := IsD (adj C r) (wh C r) y x j
theorem FD_pre {x : Nat} : ∀ m y, FD C r x y (m + 1) → ∃ z, FD C r x z m ∧ adj C r z y = true ∧ wh C r y = true := by
  intro m y h
  obtain ⟨z, h1, h2, h3⟩ := rch_unsnoc m x h.1
  exact ⟨z, ⟨h1, fun j hj hr => h.2 (j + 1) (by omega) (rch_snoc h2 h3 j x hr)⟩, h2, h3⟩
theorem FD_down {x : Nat} : ∀ m y, FD C r x y m → ∀ j, j ≤ m → ∃ z, FD C r x z j := by
  intro m
  induction m with
  | zero =>
    intro y h j hj
    obtain rfl : j = 0 := by omega
    exact ⟨y, h⟩
  | succ m ih =>
    intro y h j hj
    by_cases e : j = m + 1
    · subst e; exact ⟨y, h⟩
    · obtain ⟨z, hz, _⟩ := FD_pre m y h
      exact ih z hz j (by omega)
theorem FD_there (hC : C.ok) (hs : StOK C r) {x y m : Nat} (hx : there C x = true) (h : FD C r x y m) : there C y = true := rch_to (fun x y hx ha => adj_there hC hs hx ha) m x y hx h.1
theorem FD_lt (hC : C.ok) (hs : StOK C r) {x y m : Nat} (hx : there C x = true) (h : FD C r x y m) : m < 48 ∧ dR C r y x = m := by
  have hy := FD_there hC hs hx h
  rcases dst_wh hC hs hy x with q | q
  · exact absurd h.1 (q.2 m)
  · have := q.2.uniq h
    refine ⟨by omega, ?_⟩
    exact this
theorem FD_next (hC : C.ok) (hs : StOK C r) {ν : Mem} (h : GD C r 468 ν) {x j : Nat} (hx : there C x = true) {l v : Int64} (hl : ∀ y, mb l y = true ↔ FD C r x y j) (hv : ∀ y, mb v y = true ↔ ∃ i, i ≤ j ∧ rch (adj C r) (wh C r) y i x) (y : Nat) :
    mb ((fX5_beside 468 l ν &&& ν.2.2.1 468 1) &&& (v ^^^ (-1 : Int64))) y = true ↔ FD C r x y (j + 1) := by
  by_cases hy : y < 64
  · rw [mb_and, mb_and, mb_not hy, h.2.1, Bool.and_eq_true, Bool.and_eq_true, beside_iff hC hs h (fun z hz => FD_there hC hs hx ((hl z).mp hz))]
    constructor
    · rintro ⟨⟨⟨_, z, h1, h2⟩, h3⟩, h4⟩
      refine ⟨rch_snoc h2 h3 j x ((hl z).mp h1).1, fun i hi hr => ?_⟩
      rw [(hv y).mpr ⟨i, by omega, hr⟩] at h4
      exact absurd h4 (by decide)
    · intro hF
      obtain ⟨z, h1, h2, h3⟩ := FD_pre j y hF
      refine ⟨⟨⟨FD_there hC hs hx hF, z, (hl z).mpr h1, h2⟩, h3⟩, ?_⟩
      cases q : mb v y
      · rfl
      · obtain ⟨i, hi, hr⟩ := (hv y).mp q
        exact absurd hr (hF.2 i (by omega))
  · rw [mb_ge (by omega)]
    constructor
    · intro q; exact absurd q (by decide)
    · intro hF
      have := there_lt hC (FD_there hC hs hx hF)
      omega
theorem spread_ok (hC : C.ok) (hs : StOK C r) {ν : Mem} (hG : Gr ν) (h : GD C r 468 ν) {x : Nat} (hx : there C x = true) : ∃ m L, fX5_spread 468 (I x) ν = some (I m, sLC ν 469 L) ∧ m < 48 ∧ (∀ j, j ≤ m → ∀ y, mb (L j) y = true ↔ FD C r x y j) ∧ (∃ y, FD C r x y m) ∧ ∀ y, ¬ FD C r x y (m + 1) := by
  have hx48 := there_lt hC hx
  obtain ⟨g1, g2, _, _⟩ := gnd hG (g := 468) (Or.inr rfl)
  unfold fX5_spread
  rw [g1, bs, show stL ν (468 + 1) (0 : Int32) (fX10_bit (I x)) = _ from stL_I (n := 0) g2 (by omega) (by omega), bs]
  have key := loop_ok (S := Nat × Int64 × (Nat → Int64)) (R := Int32 × Mem) (fun n s => fX5_spread_15 n 468 s.2.1 (I s.1) (sLC ν 469 s.2.2)) 48
    (fun j s => s.1 = j ∧ (∀ i, i ≤ j → ∀ y, mb (s.2.2 i) y = true ↔ FD C r x y i) ∧ (∀ y, mb s.2.1 y = true ↔ ∃ i, i ≤ j ∧ rch (adj C r) (wh C r) y i x) ∧ ∃ y, FD C r x y j)
    (fun q => ∃ m L, q = (I m, sLC ν 469 L) ∧ m < 48 ∧ (∀ j, j ≤ m → ∀ y, mb (L j) y = true ↔ FD C r x y j) ∧ (∃ y, FD C r x y m) ∧ ∀ y, ¬ FD C r x y (m + 1)) ?_ ?_ 48 fuel 0 (0, fX10_bit (I x), up (ν.2.2.1 469) 0 (fX10_bit (I x))) rfl (by unfold fuel; omega) ?_
  · obtain ⟨q, e, m, L, rfl, hh⟩ := key
    exact ⟨m, L, e, hh⟩
  · rintro n j ⟨j', v, L⟩ hj ⟨i1, i2, i3, i4⟩
    simp only at i1 i2 i3 i4
    subst i1
    have hGL : GD C r 468 (sLC ν 469 L) := h.lc L
    have hnx := FD_next hC hs hGL hx (i2 j' (Nat.le_refl _)) i3
    show Ok (fX5_spread_15 (n + 1) 468 v (I j') (sLC ν 469 L)) _ ∨ ∃ s', fX5_spread_15 (n + 1) 468 v (I j') (sLC ν 469 L) = _ ∧ _
    rw [fX5_spread_15, if_pos (show I j' < (48 : Int32) by rw [I_ltl (by omega) (by decide)]; omega), gLC, g1, bs, ldL_I g2 (by omega) (by omega), bs, show (468 + 1 : Nat) = 469 from rfl, sLC_s]
    by_cases q : ((fX5_beside 468 (L j') (sLC ν 469 L) &&& (sLC ν 469 L).2.2.1 468 1) &&& (v ^^^ (-1 : Int64))) = 0
    · rw [if_pos q]
      left
      refine Ok.s ⟨j', L, rfl, hj, i2, i4, fun y hF => ?_⟩
      have := (hnx y).mpr hF
      rw [q, mb_0] at this
      exact absurd this (by decide)
    · rw [if_neg q, bs, I_addl, stL_I (a := 469) (L := 49) (t := 1) g2 (by omega) (by omega), bs, sLC_C, sLC_s]
      right
      obtain ⟨y0, hy0⟩ := ne0_iff.mp q
      refine ⟨(j' + 1, v ||| ((fX5_beside 468 (L j') (sLC ν 469 L) &&& (sLC ν 469 L).2.2.1 468 1) &&& (v ^^^ (-1 : Int64))), up L (j' + 1) ((fX5_beside 468 (L j') (sLC ν 469 L) &&& (sLC ν 469 L).2.2.1 468 1) &&& (v ^^^ (-1 : Int64)))), rfl, rfl, ?_, ?_, ⟨y0, (hnx y0).mp hy0⟩⟩
      · intro i hi y
        show mb (up L (j' + 1) _ i) y = true ↔ _
        by_cases e : i = j' + 1
        · subst e; rw [up_s]; exact hnx y
        · rw [up_n _ _ e]; exact i2 i (by omega) y
      · intro y
        show mb (v ||| _) y = true ↔ _
        rw [mb_or, Bool.or_eq_true, hnx y, i3 y]
        constructor
        · rintro (⟨i, hi, hr⟩ | hF)
          · exact ⟨i, by omega, hr⟩
          · exact ⟨j' + 1, Nat.le_refl _, hF.1⟩
        · rintro ⟨i, hi, hr⟩
          by_cases z : ∃ i, i ≤ j' ∧ rch (adj C r) (wh C r) y i x
          · exact Or.inl z
          · right
            have : i = j' + 1 := by
              by_cases e : i ≤ j'
              · exact absurd ⟨i, e, hr⟩ z
              · omega
            subst this
            exact ⟨hr, fun l hl hr' => z ⟨l, by omega, hr'⟩⟩
  · rintro n ⟨j', v, L⟩ ⟨i1, i2, i3, y, hy⟩
    simp only at i1 i2 i3
    subst i1
    have := (FD_lt hC hs hx hy).1
    omega
  · refine ⟨rfl, ?_, ?_, x, rfl, fun j hj => absurd hj (Nat.not_lt_zero j)⟩
    · intro i hi y
      obtain rfl : i = 0 := by omega
      show mb (up (ν.2.2.1 469) 0 (fX10_bit (I x)) 0) y = true ↔ _
      rw [up_s, mb_bit (by omega)]
      constructor
      · intro q
        obtain rfl := of_decide_eq_true q
        exact ⟨rfl, fun j hj => absurd hj (Nat.not_lt_zero j)⟩
      · rintro ⟨q, _⟩
        obtain rfl : x = y := q
        exact decide_eq_true rfl
    · intro y
      show mb (fX10_bit (I x)) y = true ↔ _
      rw [mb_bit (by omega)]
      constructor
      · intro q
        obtain rfl := of_decide_eq_true q
        exact ⟨0, Nat.le_refl _, rfl⟩
      · rintro ⟨i, hi, q⟩
        obtain rfl : i = 0 := by omega
        obtain rfl : x = y := q
        exact decide_eq_true rfl
noncomputable def frS (C : Cel) (r : Row) (x : Nat) : Nat → Nat × Nat
  | 0 => (x, 0)
  | y + 1 => if there C y = true ∧ dR C r y x ≠ 9999 ∧ (frS C r x y).2 < dR C r y x then (y, dR C r y x) else frS C r x y
theorem frS_s (x y : Nat) : frS C r x (y + 1) = if there C y = true ∧ dR C r y x ≠ 9999 ∧ (frS C r x y).2 < dR C r y x then (y, dR C r y x) else frS C r x y := rfl
theorem frS_ok (hC : C.ok) (hs : StOK C r) {x : Nat} (hx : there C x = true) : ∀ j, j ≤ 48 → FD C r x (frS C r x j).1 (frS C r x j).2 ∧ (∀ y, y < j → ∀ d, FD C r x y d → d ≤ (frS C r x j).2) ∧ ∀ y, y < (frS C r x j).1 → ¬ FD C r x y (frS C r x j).2 := by
  intro j
  induction j with
  | zero =>
    intro _
    refine ⟨⟨rfl, fun j hj => absurd hj (Nat.not_lt_zero j)⟩, fun y hy => absurd hy (Nat.not_lt_zero y), ?_⟩
    intro y hy h
    have hy' : y < x := hy
    have e : x = y := h.1
    omega
  | succ j ih =>
    intro hj
    obtain ⟨h1, h2, h3⟩ := ih (by omega)
    rw [frS_s]
    by_cases q : there C j = true ∧ dR C r j x ≠ 9999 ∧ (frS C r x j).2 < dR C r j x
    · rw [if_pos q]
      have hj : FD C r x j (dR C r j x) := by
        rcases dst_wh hC hs q.1 x with t | t
        · exact absurd t.1 q.2.1
        · exact t.2
      refine ⟨hj, ?_, ?_⟩
      · intro y hy d hd
        show d ≤ dR C r j x
        by_cases e : y = j
        · subst e; exact Nat.le_of_eq (hd.uniq hj)
        · have := h2 y (by omega) d hd
          omega
      · intro y hy hd
        have := h2 y hy _ hd
        omega
    · rw [if_neg q]
      refine ⟨h1, ?_, h3⟩
      intro y hy d hd
      by_cases e : y = j
      · subst e
        have hyt := FD_there hC hs hx hd
        have hd2 := FD_lt hC hs hx hd
        by_cases z : (frS C r x y).2 < dR C r y x
        · exact absurd ⟨hyt, by omega, z⟩ q
        · omega
      · exact h2 y (by omega) d hd
noncomputable def valFa (C : Cel) (r : Row) (a b : Int32) : Int32 := match plc C a with
  | none => 0
  | some x => if b = 0 then fX10_outside (I (frS C r x 48).1) else I (frS C r x 48).2
def codeXW (C : Cel) (a b : Int32) (m : Nat) : Int32 := match plc C a with
  | none => 1
  | some _ => if okW b m = true then 0 else 1
theorem codeXW_ne (a b : Int32) (m : Nat) : codeXW C a b m ≠ 2 := by
  unfold codeXW
  split
  · decide
  · split <;> decide
theorem c_farthest (hI : INV C G Fd pc k r μ) (a b : Int32) : CQ (fX10_farthest 0 a b μ) μ (codeXW C a b 2) (valFa C r a b) := by
  have hC := hI.2.1
  have hs := hI.2.2.2.2.2.2.2.2.1.1.1
  unfold fX10_farthest codeXW valFa
  rw [inside_ok hI, bs]
  cases hp : plc C a with
  | none => exact ⟨μ, FrB.refl _ _ μ, Or.inr (Or.inl ⟨rfl, rfl⟩)⟩
  | some x =>
    simp only
    have hx := plc_there hC hp
    rw [show fX10_needWhat 0 b (2 : Int32) = _ from needW_ok b 2, bs]
    by_cases h1 : okW b 2 = true
    · rw [if_pos h1, if_pos h1]
      simp only
      obtain ⟨L0, e, f1, f2⟩ := here_ok hI
      have hG1 := f1.gr hI.1
      obtain ⟨m, L, e2, m48, hL, ⟨y0, hy0⟩, hno⟩ := spread_ok hC hs hG1 f2 hx
      have hF2 : FrB LC L2C μ (sLC (sLC μ 468 L0) 469 L) := f1.trans ((FrI.l (L := LC) _ L (by decide : 469 ∈ L2C)).b (fun _ h => h) (fun _ h => h))
      have hG2 := hF2.gr hI.1
      refine ⟨_, hF2, Or.inl ⟨rfl, ?_⟩⟩
      rw [e, bs]
      simp only
      rw [e2, bs]
      simp only
      obtain ⟨p1, p2, p3⟩ := frS_ok hC hs hx 48 (by omega)
      have hm : (frS C r x 48).2 = m := by
        have h1 := p2 y0 (there_lt hC (FD_there hC hs hx hy0)) m hy0
        by_cases q : (frS C r x 48).2 ≤ m
        · omega
        · obtain ⟨z, hz⟩ := FD_down _ _ p1 (m + 1) (by omega)
          exact absurd hz (hno z)
      by_cases b0 : b = 0
      · rw [if_pos b0, if_pos b0, g_0_15 hG2, bs, g_468_3 hG2, bs, ld_469 (by omega), bs, sLC_s]
        have hlow : fX10_lowest (L m) = I (frS C r x 48).1 := by
          refine lowest_ok (by have := there_lt hC (FD_there hC hs hx p1); omega) ((hL m (Nat.le_refl _) _).mpr (hm ▸ p1)) ?_
          intro j hj
          cases q : mb (L m) j
          · rfl
          · have := (hL m (Nat.le_refl _) j).mp q
            rw [← hm] at this
            exact absurd this (p3 j hj)
        rw [hlow]
      · rw [if_neg b0, if_neg b0, hm]
    · rw [if_neg h1, if_neg h1]
      exact ⟨μ, FrB.refl _ _ μ, Or.inr (Or.inl ⟨rfl, rfl⟩)⟩
theorem frS_lt (hC : C.ok) (hs : StOK C r) {x : Nat} (hx : there C x = true) {j : Nat} (hj : j ≤ 48) : (frS C r x j).1 < 48 ∧ (frS C r x j).2 < 48 := by
  have h := (frS_ok hC hs hx j hj).1
  exact ⟨there_lt hC (FD_there hC hs hx h), (FD_lt hC hs hx h).1⟩
theorem r_farthest (hI : INV C G Fd pc k r μ) (a b : Int32) : RQ (fX11_farthest 492 a b μ) μ (codeXW C a b 2) (valFa C r a b) := by
  have hC := hI.2.1
  have hs := hI.2.2.2.2.2.2.2.2.1.1.1
  obtain ⟨t1, t2, t3, t4⟩ := thr0 μ
  have hR0 := t1.rc hI.2.2.2.2.2.2.1
  unfold fX11_farthest codeXW valFa
  rw [bs, sI_C, placeOf_ok hR0 t2, bs]
  cases hp : plc C a with
  | none =>
    simp only [if_true]
    exact RQ.no (by decide) t1 t3 t4
  | some x =>
    have hx := plc_there hC hp
    have hx48 := there_lt hC hx
    simp only
    rw [if_neg (I_m1 (by omega)), show fX11_isWhat 492 b (1 : Int32) (thr μ 0) = _ from isWhat_ok (m := 1) t2 b (by decide)]
    by_cases h1 : okW b 2 = true
    · rw [if_pos h1, if_pos h1, bs]
      simp only
      rw [if_neg (by decide)]
      obtain ⟨⟨j, N⟩, e, i1, i2, i3⟩ := loop_k (S := Nat × Mem) (R := Option (Int32 × Mem))
        (fun m s => fX11_farthest_36 m 492 b (I x) (I (frS C r x s.1).1) (I (frS C r x s.1).2) (I s.1) s.2)
        (fun s => some (if b = 0 then fX11_toldAs (I (frS C r x s.1).1) else I (frS C r x s.1).2, s.2)) 48
        (fun j s => s.1 = j ∧ FR (thr μ 0) s.2 ∧ s.2.2.1 492 = (thr μ 0).2.1 492)
        (by
          rintro m j ⟨j', N⟩ hj ⟨i1, i2, i3⟩
          simp only at i1 i2 i3
          subst i1
          have hRN := i2.rc hR0
          obtain ⟨l1, l2⟩ := frS_lt hC hs hx (j := j') (by omega)
          show ∃ s', fX11_farthest_36 (m + 1) 492 b (I x) (I (frS C r x j').1) (I (frS C r x j').2) (I j') N = _ ∧ _
          rw [fX11_farthest_36, if_pos (show I j' < (48 : Int32) by rw [I_ltl (by omega) (by decide)]; omega), isThere_ok hRN hj, bs]
          by_cases ht : there C j' = true
          · rw [if_pos ht, if_neg (by decide)]
            obtain ⟨F, Q, e, h1, h2, _⟩ := howFar_ok hI (t1.trans i2) (by rw [i3, t3]) hx ht
            rw [e, bs]
            simp only [I_addl]
            refine ⟨(j' + 1, mFQ N F Q), ?_, rfl, i2.trans h1, h2.trans i3⟩
            simp only [frS_s]
            rcases dR_le hI ht x with q | q
            · rw [if_pos (show I (dR C r j' x) < (9999 : Int32) by rw [I_ltl (by omega) (by decide)]; omega)]
              by_cases z : (frS C r x j').2 < dR C r j' x
              · rw [if_pos (show I (frS C r x j').2 < I (dR C r j' x) from (I_lt (by omega) (by omega)).mpr z), if_pos ⟨ht, by omega, z⟩]
              · rw [if_neg (show ¬ I (frS C r x j').2 < I (dR C r j' x) from fun t => z ((I_lt (by omega) (by omega)).mp t)), if_neg (fun t => z t.2.2)]
            · rw [if_neg (show ¬ I (dR C r j' x) < (9999 : Int32) by rw [q]; decide), if_neg (fun t => t.2.1 q)]
          · rw [if_neg ht, if_pos rfl, if_neg (by decide), I_addl]
            refine ⟨(j' + 1, N), ?_, rfl, i2, i3⟩
            simp only [frS_s]
            rw [if_neg (fun t => ht t.1)])
        (by
          rintro m ⟨j', N⟩ ⟨i1, i2, i3⟩
          simp only at i1 i2
          subst i1
          show fX11_farthest_36 (m + 1) 492 b (I x) _ _ (I 48) N = _
          rw [fX11_farthest_36, if_neg (by decide)]
          by_cases b0 : b = 0
          · rw [if_pos b0]; simp only [if_pos b0]
          · rw [if_neg b0]; simp only [if_neg b0])
        48 fuel 0 (0, thr μ 0) rfl (by unfold fuel; omega) ⟨rfl, FR.refl _, rfl⟩
      simp only at i1 i2 i3 e
      obtain ⟨l1, l2⟩ := frS_lt hC hs hx (j := 48) (by omega)
      rw [i1, toldAs_v (Or.inr ⟨_, rfl, l1⟩)] at e
      rw [show fX11_farthest_36 fuel 492 b (I x) (I x) (0 : Int32) (0 : Int32) (thr μ 0) = _ from e]
      exact RQ.fr t1 t2 t3 t4 i2 i3
    · rw [if_neg h1, if_neg h1, bs]
      simp only [if_true]
      exact RQ.no (by decide) t1 t3 t4
theorem qq_farthest (hI : INV C G Fd pc k r μ) (a b : Int32) : QQ C G Fd pc k r (fun μ => fL_farthest 0 a b 518 μ) (fun ν => fX11_farthest 492 a b ν) μ := q_farthest hI a b (c_farthest hI a b) (codeXW_ne a b 2) (fun ν h => r_farthest h a b)
end Fa
