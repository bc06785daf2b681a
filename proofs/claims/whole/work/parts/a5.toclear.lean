/-! THE REFERENCE: how many places must be cleared -/
def TI (C : Cel) (A : Nat → Nat → Bool) (W : Nat → Bool) (x : Nat) (f : Nat → Nat) : Prop := f x = 0 ∧ ∀ y, f y = 9999 ∨ (there C y = true ∧ (∃ n, CW A W x n (f y) y) ∧ f y < cnt (fun z => decide (f z ≠ 9999)) 48)
def PI (C : Cel) (A : Nat → Nat → Bool) (W : Nat → Bool) (x : Nat) (f0 f : Nat → Nat) (flag : Int32) : Prop := TI C A W x f ∧ (∀ z, f z ≤ f0 z) ∧ (flag = 0 ∧ f = f0 ∨ flag = 1 ∧ ∃ z, f z < f0 z)
section Tc
variable {C : Cel} {A : Nat → Nat → Bool} {W : Nat → Bool} {x : Nat} {f f0 : Nat → Nat}
theorem TI.lt (h : TI C A W x f) {y : Nat} (hy : f y ≠ 9999) : there C y = true ∧ f y < 48 := by
  rcases h.2 y with q | ⟨q1, _, q3⟩
  · exact absurd q hy
  · have := cnt_le (fun z => decide (f z ≠ 9999)) 48
    exact ⟨q1, by omega⟩
theorem TI.le (h : TI C A W x f) (y : Nat) : f y ≤ 9999 := by
  by_cases q : f y = 9999
  · omega
  · have := (h.lt q).2; omega
theorem TI.rl (hC : C.ok) (hA : ∀ x y, there C x = true → A x y = true → there C y = true) (h : TI C A W x f) {y z : Nat} (hy : f y ≠ 9999) (ha : A y z = true) (hlt : f y + dl W z < f z) : TI C A W x (up f z (f y + dl W z)) := by
  have hyt := (h.lt hy).1
  have hzt := hA y z hyt ha
  have hz48 := there_lt hC hzt
  have hy48 := (h.lt hy).2
  have hd : dl W z ≤ 1 := by unfold dl; split <;> omega
  have hzx : x ≠ z := fun e => by rw [← e, h.1] at hlt; omega
  obtain ⟨n, hn⟩ : ∃ n, CW A W x n (f y) y := by
    rcases h.2 y with q | ⟨_, q2, _⟩
    · exact absurd q hy
    · exact q2
  have hyc : f y < cnt (fun z => decide (f z ≠ 9999)) 48 := by
    rcases h.2 y with q | ⟨_, _, q3⟩
    · exact absurd q hy
    · exact q3
  have hcm : cnt (fun z => decide (f z ≠ 9999)) 48 ≤ cnt (fun w => decide (up f z (f y + dl W z) w ≠ 9999)) 48 := by
    apply cnt_mono
    intro w _ hw
    have hw' := of_decide_eq_true hw
    apply decide_eq_true
    by_cases e : w = z
    · subst e; rw [up_s]; omega
    · rw [up_n _ _ e]; exact hw'
  have hcz : f y + dl W z < cnt (fun w => decide (up f z (f y + dl W z) w ≠ 9999)) 48 := by
    by_cases q : f z = 9999
    · have := cnt_lt (p := fun z => decide (f z ≠ 9999)) (q := fun w => decide (up f z (f y + dl W z) w ≠ 9999)) hz48 (decide_eq_false (fun t => t q)) (decide_eq_true (by rw [up_s]; omega)) (fun w _ hw => by
        have hw' := of_decide_eq_true hw
        apply decide_eq_true
        by_cases e : w = z
        · subst e; rw [up_s]; omega
        · rw [up_n _ _ e]; exact hw')
      omega
    · have : f z < cnt (fun z => decide (f z ≠ 9999)) 48 := by
        rcases h.2 z with t | ⟨_, _, t⟩
        · exact absurd t q
        · exact t
      omega
  refine ⟨by rw [up_n _ _ hzx]; exact h.1, ?_⟩
  intro w
  by_cases e : w = z
  · subst e
    rw [up_s]
    exact Or.inr ⟨hzt, ⟨n + 1, y, f y, ha, rfl, hn⟩, hcz⟩
  · rw [up_n _ _ e]
    rcases h.2 w with q | ⟨q1, q2, q3⟩
    · exact Or.inl q
    · exact Or.inr ⟨q1, q2, by omega⟩
theorem PI.rl (hC : C.ok) (hA : ∀ x y, there C x = true → A x y = true → there C y = true) {flag : Int32} (h : PI C A W x f0 f flag) {y z : Nat} (hy : f y ≠ 9999) (ha : A y z = true) (hlt : f y + dl W z < f z) : PI C A W x f0 (up f z (f y + dl W z)) 1 := by
  refine ⟨h.1.rl hC hA hy ha hlt, ?_, Or.inr ⟨rfl, z, ?_⟩⟩
  · intro w
    have := h.2.1 w
    by_cases e : w = z
    · subst e; rw [up_s]; omega
    · rw [up_n _ _ e]; exact this
  · have := h.2.1 z
    rw [up_s]; omega
theorem TI.closed (h : TI C A W x f) (hcl : ∀ y z, A y z = true → f z ≤ f y + dl W z) : ∀ n c y, CW A W x n c y → f y ≤ c := by
  intro n
  induction n with
  | zero => rintro c y ⟨rfl, rfl⟩; exact Nat.le_of_eq h.1
  | succ n ih =>
    rintro c z ⟨y, c', h1, rfl, h3⟩
    have := ih c' y h3
    have := hcl y z h1
    omega
theorem TI.tc (hC : C.ok) (hA : ∀ x y, there C x = true → A x y = true → there C y = true) (hx : there C x = true) (h : TI C A W x f) (hcl : ∀ y z, A y z = true → f z ≤ f y + dl W z) (y : Nat) : f y = tcN A W x y ∧ (f y < 48 ∨ f y = 9999) := by
  by_cases q : f y = 9999
  · refine ⟨?_, Or.inr q⟩
    rw [q, eq_comm]
    apply tcN_no
    intro n c hcw
    obtain ⟨c0, n0, hm⟩ := MW_ex hcw
    have h0 := h.closed hcl n0 c0 y hm.1
    have h1 := hm.lt hC hA hx
    have h2 := CW_le _ _ _ hm.1
    omega
  · have h48 := (h.lt q).2
    refine ⟨?_, Or.inl h48⟩
    rcases h.2 y with t | ⟨_, ⟨n, hn⟩, _⟩
    · exact absurd t q
    · obtain ⟨c0, n0, hm⟩ := MW_ex hn
      rw [tcN_of hm]
      exact Nat.le_antisymm (h.closed hcl _ _ _ hm.1) (hm.2.1 _ _ hn)
end Tc
section Tr
variable {C : Cel} {ν : Mem} {x : Nat} {f0 : Nat → Nat}
theorem toClear51 (hR : RC C ν) (hs : StOK C (rwb ν 0)) (hf0 : TI C (adj C (rwb ν 0)) (wh C (rwb ν 0)) x f0) {y : Nat} (hy : y < 48) {f : Nat → Nat} {flag : Int32} {g : Row} (hg : ∀ z, z < 48 → g z = I (f z)) (hP : PI C (adj C (rwb ν 0)) (wh C (rwb ν 0)) x f0 f flag)
    (hrl : ∀ y' z, y' < y → adj C (rwb ν 0) y' z = true → f z ≤ f0 y' + dl (wh C (rwb ν 0)) z) (K : Nat → Int32 → Int32 → Int32 → Mem → Option (Int32 × Mem)) (to : Int32) :
    ∃ flag' f' g', fX11_toClear_51 K fuel 492 to flag (I y) 0 (sC ν 509 g) = K 492 to flag' (I (y + 1)) (sC ν 509 g') ∧ (∀ z, z < 48 → g' z = I (f' z)) ∧ PI C (adj C (rwb ν 0)) (wh C (rwb ν 0)) x f0 f' flag' ∧ ∀ y' z, y' < y + 1 → adj C (rwb ν 0) y' z = true → f' z ≤ f0 y' + dl (wh C (rwb ν 0)) z := by
  have hC := hR.2.1
  have hG := hR.1
  have hA : ∀ x y, there C x = true → adj C (rwb ν 0) x y = true → there C y = true := fun x y hx ha => adj_there hC hs hx ha
  by_cases q : f y = 9999
  · refine ⟨flag, f, g, ?_, hg, hP, ?_⟩
    · rw [show fuel = 4999 + 1 from rfl, fX11_toClear_51, if_pos (by decide), gC, g_492_46 hG, bs, ld_509 hy, bs, sC_s, hg y hy, q, if_neg (by decide), I_addl]
    · intro y' z hy' ha
      by_cases e : y' = y
      · subst e
        have h1 := hP.2.1 y'
        have h2 := hP.2.1 z
        have h3 := hf0.le z
        omega
      · exact hrl y' z (by omega) ha
  · have hyt := (hP.1.lt q).1
    obtain ⟨⟨w, flag', f', g'⟩, e, i1, i2, i3, i4, i5, i6⟩ := loop_k (S := Nat × Int32 × (Nat → Nat) × Row) (R := Option (Int32 × Mem))
      (fun m s => fX11_toClear_51 K m 492 to s.2.1 (I y) (I s.1) (sC ν 509 s.2.2.2)) (fun s => K 492 to s.2.1 (I (y + 1)) (sC ν 509 s.2.2.2)) 4
      (fun j s => s.1 = j ∧ (∀ z, z < 48 → s.2.2.2 z = I (s.2.2.1 z)) ∧ PI C (adj C (rwb ν 0)) (wh C (rwb ν 0)) x f0 s.2.2.1 s.2.1 ∧ s.2.2.1 y ≠ 9999 ∧ (∀ y' z, y' < y → adj C (rwb ν 0) y' z = true → s.2.2.1 z ≤ f0 y' + dl (wh C (rwb ν 0)) z) ∧ ∀ w z, w < j → nbr C (rwb ν 0) y w = some z → s.2.2.1 z ≤ f0 y + dl (wh C (rwb ν 0)) z)
      (by
        rintro m j ⟨j', flag, f, g⟩ hj ⟨i1, i2, i3, i4, i5, i6⟩
        simp only at i1 i2 i3 i4 i5 i6
        subst i1
        have hRg : RC C (sC ν 509 g) := hR.fr rfl rfl rfl rfl rfl
        have hrw : rwb (sC ν 509 g) 0 = rwb ν 0 := rfl
        have hf48 := (i3.1.lt i4).2
        have hbs := beside_ok hRg (b := 0) (by omega) hyt hj
        rw [hrw] at hbs
        show ∃ s', fX11_toClear_51 K (m + 1) 492 to flag (I y) (I j') (sC ν 509 g) = _ ∧ _
        rw [fX11_toClear_51, if_pos (show I j' < (4 : Int32) by rw [I_ltl (by omega) (by decide)]; omega), gC, g_492_46 hG, bs, ld_509 hy, bs, sC_s, i2 y hy, if_pos (show I (f y) < (9999 : Int32) by rw [I_ltl (by omega) (by decide)]; omega), show fX11_beside 492 (0 : Int32) (I y) (I j') (sC ν 509 g) = _ from hbs, bs]
        cases hn : nbr C (rwb ν 0) y j' with
        | none =>
          rw [show enc none = (-1 : Int32) from rfl, if_pos rfl, if_pos rfl, I_addl]
          refine ⟨(j' + 1, flag, f, g), rfl, rfl, i2, i3, i4, i5, ?_⟩
          intro w z hw hz
          by_cases e : w = j'
          · subst e; rw [hn] at hz; cases hz
          · exact i6 w z (by omega) hz
        | some z =>
          have ha : adj C (rwb ν 0) y z = true := (nbr_adj hC hs hyt).mpr ⟨j', hj, hn⟩
          have hzt := hA y z hyt ha
          have hz48 := there_lt hC hzt
          have hzy : z ≠ y := by
            rintro rfl
            rcases adj_iff.mp ha with t | t | t | t <;> omega
          have hwz := white_ok (μ := sC ν 509 g) (hRg.1) (b := 0) (x := z) (by omega) hz48
          rw [hrw] at hwz
          have hle := i3.2.1 y
          have hfin : ∀ (d : Nat), dl (wh C (rwb ν 0)) z = d → d ≤ 1 → ∃ s', (if I (f y + d) = (9999 : Int32) then fX11_toClear_51 K m 492 to flag (I y) (I (j' + 1)) (sC ν 509 g) else
              if I (f y + d) < I (f z) then fX11_toClear_51 K m 492 to 1 (I y) (I (j' + 1)) (sC ν 509 (up g z (I (f y + d)))) else fX11_toClear_51 K m 492 to flag (I y) (I (j' + 1)) (sC ν 509 g)) = (fun m (s : Nat × Int32 × (Nat → Nat) × Row) => fX11_toClear_51 K m 492 to s.2.1 (I y) (I s.1) (sC ν 509 s.2.2.2)) m s' ∧ s'.1 = j' + 1 ∧ (∀ z, z < 48 → s'.2.2.2 z = I (s'.2.2.1 z)) ∧ PI C (adj C (rwb ν 0)) (wh C (rwb ν 0)) x f0 s'.2.2.1 s'.2.1 ∧ s'.2.2.1 y ≠ 9999 ∧ (∀ y' z, y' < y → adj C (rwb ν 0) y' z = true → s'.2.2.1 z ≤ f0 y' + dl (wh C (rwb ν 0)) z) ∧ ∀ w z, w < j' + 1 → nbr C (rwb ν 0) y w = some z → s'.2.2.1 z ≤ f0 y + dl (wh C (rwb ν 0)) z := by
            intro d hd hd1
            have hzle := i3.1.le z
            rw [if_neg (show ¬ I (f y + d) = (9999 : Int32) by rw [I_eql (by omega) (by decide)]; omega)]
            by_cases c : f y + d < f z
            · rw [if_pos (show I (f y + d) < I (f z) from (I_lt (by omega) (by omega)).mpr c)]
              refine ⟨(j' + 1, 1, up f z (f y + d), up g z (I (f y + d))), rfl, rfl, ?_, ?_, ?_, ?_, ?_⟩
              · intro t ht
                show up g z _ t = I (up f z _ t)
                by_cases e : t = z
                · subst e; rw [up_s, up_s]
                · rw [up_n _ _ e, up_n _ _ e]; exact i2 t ht
              · rw [← hd] at c ⊢
                exact i3.rl hC hA i4 ha c
              · show up f z _ y ≠ 9999
                rw [up_n _ _ (Ne.symm hzy)]; exact i4
              · intro y' t hy' hat
                have := i5 y' t hy' hat
                show up f z _ t ≤ _
                by_cases e : t = z
                · subst e; rw [up_s]; omega
                · rw [up_n _ _ e]; exact this
              · intro w t hw ht
                show up f z _ t ≤ _
                by_cases e : t = z
                · subst e; rw [up_s, hd]; omega
                · rw [up_n _ _ e]
                  refine i6 w t ?_ ht
                  by_cases ew : w = j'
                  · subst ew; rw [hn] at ht; exact absurd (Option.some.inj ht).symm e
                  · omega
            · rw [if_neg (show ¬ I (f y + d) < I (f z) from fun t => c ((I_lt (by omega) (by omega)).mp t))]
              refine ⟨(j' + 1, flag, f, g), rfl, rfl, i2, i3, i4, i5, ?_⟩
              intro w t hw ht
              by_cases ew : w = j'
              · subst ew
                rw [hn] at ht
                obtain rfl := Option.some.inj ht
                show f z ≤ _
                rw [hd]; omega
              · exact i6 w t (by omega) ht
          rw [show enc (some z) = I z from rfl, if_neg (I_m1 (by omega)), bs, ld_509 hy, bs, sC_s, i2 y hy, show fX11_isWhite 492 (0 : Int32) (I z) (sC ν 509 g) = _ from hwz, bs]
          by_cases c : rwb ν 0 (1 + z) = 0
          · have hd : dl (wh C (rwb ν 0)) z = 0 := by
              unfold dl
              rw [if_pos (wh_iff.mpr ⟨hzt, c⟩)]
            rw [if_pos c, if_neg (by decide)]
            simp (disch := omega) only [bs, gC, g_492_46 hG, ld_509, st_509, sC_s, sC_C, i2 z hz48, I_addl]
            exact hfin 0 hd (by omega)
          · have hd : dl (wh C (rwb ν 0)) z = 1 := by
              unfold dl
              rw [if_neg (fun t => c (wh_iff.mp t).2)]
            rw [if_neg c, if_pos rfl]
            simp (disch := omega) only [bs, gC, g_492_46 hG, ld_509, st_509, sC_s, sC_C, i2 z hz48, I_addl]
            exact hfin 1 hd (by omega))
      (by
        rintro m ⟨j', flag, f, g⟩ ⟨i1, _⟩
        simp only at i1
        subst i1
        show fX11_toClear_51 K (m + 1) 492 to flag (I y) (I 4) (sC ν 509 g) = _
        rw [fX11_toClear_51, if_neg (by decide), I_addl])
      4 fuel 0 (0, flag, f, g) rfl (by unfold fuel; omega) ⟨rfl, hg, hP, q, hrl, fun w z hw => absurd hw (Nat.not_lt_zero w)⟩
    simp only at i1 i2 i3 i4 i5 i6 e
    refine ⟨flag', f', g', e, i2, i3, ?_⟩
    intro y' z hy' ha
    by_cases ey : y' = y
    · subst ey
      obtain ⟨w, hw, hn⟩ := (nbr_adj hC hs hyt).mp ha
      exact i6 w z hw hn
    · exact i5 y' z (by omega) ha
theorem toClear41 (hR : RC C ν) (hs : StOK C (rwb ν 0)) (hf0 : TI C (adj C (rwb ν 0)) (wh C (rwb ν 0)) x f0) {g : Row} (hg : ∀ z, z < 48 → g z = I (f0 z)) (K : Nat → Int32 → Int32 → Mem → Option (Int32 × Mem)) (to : Int32) :
    ∃ flag' f' g', fX11_toClear_41 K fuel 492 to 0 0 (sC ν 509 g) = K 492 to flag' (sC ν 509 g') ∧ (∀ z, z < 48 → g' z = I (f' z)) ∧ PI C (adj C (rwb ν 0)) (wh C (rwb ν 0)) x f0 f' flag' ∧ ∀ y z, adj C (rwb ν 0) y z = true → f' z ≤ f0 y + dl (wh C (rwb ν 0)) z := by
  have hC := hR.2.1
  obtain ⟨⟨w, flag', f', g'⟩, e, i1, i2, i3, i4⟩ := loop_k (S := Nat × Int32 × (Nat → Nat) × Row) (R := Option (Int32 × Mem))
    (fun m s => fX11_toClear_41 K m 492 to s.2.1 (I s.1) (sC ν 509 s.2.2.2)) (fun s => K 492 to s.2.1 (sC ν 509 s.2.2.2)) 48
    (fun j s => s.1 = j ∧ (∀ z, z < 48 → s.2.2.2 z = I (s.2.2.1 z)) ∧ PI C (adj C (rwb ν 0)) (wh C (rwb ν 0)) x f0 s.2.2.1 s.2.1 ∧ (∀ y' z, y' < j → adj C (rwb ν 0) y' z = true → s.2.2.1 z ≤ f0 y' + dl (wh C (rwb ν 0)) z))
    (by
      rintro m j ⟨j', flag, f, g⟩ hj ⟨i1, i2, i3, i4⟩
      simp only at i1 i2 i3 i4
      subst i1
      obtain ⟨flag', f', g', e, h1, h2, h3⟩ := toClear51 hR hs hf0 hj i2 i3 i4 (fX11_toClear_41 K m) to
      refine ⟨(j' + 1, flag', f', g'), ?_, rfl, h1, h2, h3⟩
      show fX11_toClear_41 K (m + 1) 492 to flag (I j') (sC ν 509 g) = _
      rw [fX11_toClear_41, if_pos (show I j' < (48 : Int32) by rw [I_ltl (by omega) (by decide)]; omega)]
      exact e)
    (by
      rintro m ⟨j', flag, f, g⟩ ⟨i1, _⟩
      simp only at i1
      subst i1
      show fX11_toClear_41 K (m + 1) 492 to flag (I 48) (sC ν 509 g) = _
      rw [fX11_toClear_41, if_neg (by decide)])
    48 fuel 0 (0, 0, f0, g) rfl (by unfold fuel; omega) ⟨rfl, hg, ⟨hf0, fun _ => Nat.le_refl _, Or.inl ⟨rfl, rfl⟩⟩, fun y' z hy => absurd hy (Nat.not_lt_zero y')⟩
  simp only at i1 i2 i3 i4 e
  refine ⟨flag', f', g', e, i2, i3, ?_⟩
  intro y z ha
  by_cases hy : y < 48
  · exact i4 y z hy ha
  · have h1 : f0 y = 9999 := by
      by_cases q : f0 y = 9999
      · exact q
      · have := there_lt hC (hf0.lt q).1
        omega
    have h2 := i3.2.1 z
    have h3 := hf0.le z
    omega
theorem toClear_ok (hR : RC C ν) (hs : StOK C (rwb ν 0)) {to : Nat} (hx : there C x = true) (hto : there C to = true) :
    ∃ g, fX11_toClear 492 (I x) (I to) ν = some (I (tcN (adj C (rwb ν 0)) (wh C (rwb ν 0)) x to), sC ν 509 g) ∧ (tcN (adj C (rwb ν 0)) (wh C (rwb ν 0)) x to < 48 ∨ tcN (adj C (rwb ν 0)) (wh C (rwb ν 0)) x to = 9999) := by
  have hC := hR.2.1
  have hG := hR.1
  have hx48 := there_lt hC hx
  have hto48 := there_lt hC hto
  have hA : ∀ x y, there C x = true → adj C (rwb ν 0) x y = true → there C y = true := fun x y hx ha => adj_there hC hs hx ha
  unfold fX11_toClear
  obtain ⟨⟨j, g⟩, e, i1, i2⟩ := loop_k (S := Nat × Row) (R := Option (Int32 × Mem))
    (fun m s => fX11_toClear_2 m 492 (I x) (I to) (I s.1) (sC ν 509 s.2)) (fun s => fX11_toClear_32 fuel 492 (I to) 1 (sC ν 509 (up s.2 x 0))) 48
    (fun j s => s.1 = j ∧ ∀ z, z < j → s.2 z = I 9999)
    (by
      rintro m j ⟨j', g⟩ hj ⟨i1, i2⟩
      simp only at i1 i2
      subst i1
      refine ⟨(j' + 1, up g j' (I 9999)), ?_, rfl, ?_⟩
      · show fX11_toClear_2 (m + 1) 492 (I x) (I to) (I j') (sC ν 509 g) = fX11_toClear_2 m 492 (I x) (I to) (I (j' + 1)) (sC ν 509 (up g j' (I 9999)))
        rw [fX11_toClear_2, if_pos (show I j' < (48 : Int32) by rw [I_ltl (by omega) (by decide)]; omega)]
        simp (disch := omega) only [bs, gC, g_492_46 hG, st_509, sC_s, sC_C, I_addl]
        rfl
      · intro z hz
        show up g j' _ z = _
        by_cases e : z = j'
        · subst e; rw [up_s]
        · rw [up_n _ _ e]; exact i2 z (by omega))
    (by
      rintro m ⟨j', g⟩ ⟨i1, i2⟩
      simp only at i1
      subst i1
      show fX11_toClear_2 (m + 1) 492 (I x) (I to) (I 48) (sC ν 509 g) = _
      rw [fX11_toClear_2, if_neg (by decide)]
      simp (disch := omega) only [bs, gC, g_492_46 hG, st_509, sC_s, sC_C])
    48 fuel 0 (0, ν.2.1 509) rfl (by unfold fuel; omega) ⟨rfl, fun z hz => absurd hz (Nat.not_lt_zero z)⟩
  simp only [sC_same] at e
  simp only at i1 i2
  rw [show fX11_toClear_2 fuel 492 (I x) (I to) (0 : Int32) ν = _ from e]
  have hini : TI C (adj C (rwb ν 0)) (wh C (rwb ν 0)) x (fun z => if z = x then 0 else 9999) := by
    refine ⟨if_pos rfl, ?_⟩
    intro y
    by_cases e : y = x
    · subst e
      right
      refine ⟨hx, ⟨0, rfl, if_pos rfl⟩, ?_⟩
      simp only [if_true]
      have := cnt_lt (p := fun _ => false) (q := fun z => decide ((if z = y then 0 else 9999 : Nat) ≠ 9999)) hx48 rfl (by simp) (fun _ _ q => by cases q)
      omega
    · left; exact if_neg e
  have hfin : ∀ (n : Nat) (f : Nat → Nat) (g : Row), (∀ z, z < 48 → g z = I (f z)) → TI C (adj C (rwb ν 0)) (wh C (rwb ν 0)) x f → (∀ y z, adj C (rwb ν 0) y z = true → f z ≤ f y + dl (wh C (rwb ν 0)) z) → fX11_toClear_32 (n + 1) 492 (I to) 0 (sC ν 509 g) = some (I (tcN (adj C (rwb ν 0)) (wh C (rwb ν 0)) x to), sC ν 509 g) ∧ (tcN (adj C (rwb ν 0)) (wh C (rwb ν 0)) x to < 48 ∨ tcN (adj C (rwb ν 0)) (wh C (rwb ν 0)) x to = 9999) := by
    intro n f g hg hT hcl
    obtain ⟨h1, h2⟩ := hT.tc hC hA hx hcl to
    rw [fX11_toClear_32, if_pos rfl, gC, g_492_46 hG, bs, ld_509 hto48, bs, sC_s, hg to hto48, h1]
    rw [h1] at h2
    exact ⟨rfl, h2⟩
  have key := loop_ok (S := Int32 × (Nat → Nat) × Row) (R := Int32 × Mem) (fun m s => fX11_toClear_32 m 492 (I to) s.1 (sC ν 509 s.2.2)) 50
    (fun j s => (∀ z, z < 48 → s.2.2 z = I (s.2.1 z)) ∧ TI C (adj C (rwb ν 0)) (wh C (rwb ν 0)) x s.2.1 ∧ (s.1 = 0 ∧ (∀ y z, adj C (rwb ν 0) y z = true → s.2.1 z ≤ s.2.1 y + dl (wh C (rwb ν 0)) z) ∨ s.1 = 1 ∧ j ≤ 48 ∧ ∀ y c n, n < j → MW (adj C (rwb ν 0)) (wh C (rwb ν 0)) x y c n → s.2.1 y ≤ c))
    (fun q => ∃ g, q = (I (tcN (adj C (rwb ν 0)) (wh C (rwb ν 0)) x to), sC ν 509 g) ∧ (tcN (adj C (rwb ν 0)) (wh C (rwb ν 0)) x to < 48 ∨ tcN (adj C (rwb ν 0)) (wh C (rwb ν 0)) x to = 9999)) ?_ ?_ 50 fuel 0 (1, (fun z => if z = x then 0 else 9999), up g x 0) rfl (by unfold fuel; omega) ⟨?_, hini, Or.inr ⟨rfl, Nat.zero_le _, fun y c n hn => absurd hn (Nat.not_lt_zero n)⟩⟩
  · obtain ⟨q, e, g, rfl, h⟩ := key
    exact ⟨g, e, h⟩
  · rintro m j ⟨flag, f, g⟩ hj ⟨i1, i2, i3⟩
    simp only at i1 i2 i3
    show Ok (fX11_toClear_32 (m + 1) 492 (I to) flag (sC ν 509 g)) _ ∨ ∃ s', fX11_toClear_32 (m + 1) 492 (I to) flag (sC ν 509 g) = _ ∧ _
    rcases i3 with ⟨rfl, i3⟩ | ⟨rfl, i3, i4⟩
    · left
      obtain ⟨e, h⟩ := hfin m f g i1 i2 i3
      exact ⟨_, e, g, rfl, h⟩
    · right
      obtain ⟨flag', f', g', e, h1, h2, h3⟩ := toClear41 hR hs i2 i1 (fX11_toClear_32 m) (I to)
      rw [fX11_toClear_32, if_neg (by decide)]
      refine ⟨(flag', f', g'), e, h1, h2.1, ?_⟩
      rcases h2.2.2 with ⟨q1, q2⟩ | ⟨q1, z, hz⟩
      · left
        refine ⟨q1, ?_⟩
        show ∀ y z, adj C (rwb ν 0) y z = true → f' z ≤ f' y + dl (wh C (rwb ν 0)) z
        rw [q2] at h3 ⊢
        exact h3
      · right
        refine ⟨q1, ?_, ?_⟩
        · by_cases q : j = 48
          · subst q
            have hz2 : f' z ≠ 9999 := by have := i2.le z; omega
            rcases h2.1.2 z with t | ⟨_, ⟨n, hn⟩, _⟩
            · exact absurd t hz2
            · obtain ⟨c0, n0, hm⟩ := MW_ex hn
              have a1 := hm.2.1 _ _ hn
              have a2 := i4 z c0 n0 (hm.lt hC hA hx) hm
              omega
          · omega
        · intro y c n hn hm
          cases n with
          | zero =>
            obtain ⟨⟨rfl, rfl⟩, _⟩ := hm
            exact Nat.le_of_eq h2.1.1
          | succ n =>
            obtain ⟨y', c', hm', ha, hc⟩ := hm.pre
            have a1 := i4 y' c' n (by omega) hm'
            have a2 := h3 y' y ha
            show f' y ≤ c
            omega
  · rintro m ⟨flag, f, g⟩ ⟨i1, i2, i3⟩
    simp only at i1 i2 i3
    rcases i3 with ⟨rfl, i3⟩ | ⟨rfl, i3, i4⟩
    · obtain ⟨e, h⟩ := hfin m f g i1 i2 i3
      exact ⟨_, e, g, rfl, h⟩
    · omega
  · intro z hz
    show up g x 0 z = I (if z = x then 0 else 9999)
    by_cases e : z = x
    · subst e; rw [up_s, if_pos rfl]; rfl
    · rw [up_n _ _ e, if_neg e]; exact i2 z (by omega)
end Tr
