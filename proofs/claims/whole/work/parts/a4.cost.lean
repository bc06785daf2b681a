/-! THE PICTURE: how many places must be cleared; the class's floods -/
def dl (W : Nat → Bool) (z : Nat) : Nat := if W z = true then 0 else 1
/-- a way of n steps from x to z on which c places are typed over -/
def CW (A : Nat → Nat → Bool) (W : Nat → Bool) (x : Nat) : Nat → Nat → Nat → Prop
  | 0, c, y => y = x ∧ c = 0
  | n + 1, c, z => ∃ y c', A y z = true ∧ c = c' + dl W z ∧ CW A W x n c' y
def MW (A : Nat → Nat → Bool) (W : Nat → Bool) (x y c n : Nat) : Prop := CW A W x n c y ∧ (∀ n' c', CW A W x n' c' y → c ≤ c') ∧ ∀ n', CW A W x n' c y → n ≤ n'
section Co
variable {A : Nat → Nat → Bool} {W : Nat → Bool} {x : Nat}
theorem CW_s {n c z : Nat} : CW A W x (n + 1) c z ↔ ∃ y c', A y z = true ∧ c = c' + dl W z ∧ CW A W x n c' y := Iff.rfl
theorem CW_le : ∀ n c y, CW A W x n c y → c ≤ n := by
  intro n
  induction n with
  | zero => rintro c y ⟨_, rfl⟩; exact Nat.le_refl 0
  | succ n ih =>
    rintro c z ⟨y, c', _, rfl, h⟩
    have := ih c' y h
    unfold dl
    split <;> omega
theorem MW_ex {n c y : Nat} (h : CW A W x n c y) : ∃ c' n', MW A W x y c' n' := by
  obtain ⟨c', _, ⟨n1, h1⟩, h2⟩ := least (p := fun c => ∃ n, CW A W x n c y) c ⟨n, h⟩
  obtain ⟨n', _, h3, h4⟩ := least (p := fun n => CW A W x n c' y) n1 h1
  refine ⟨c', n', h3, ?_, ?_⟩
  · intro n2 c2 h5
    by_cases q : c' ≤ c2
    · exact q
    · exact absurd ⟨n2, h5⟩ (h2 c2 (by omega))
  · intro n2 h5
    by_cases q : n' ≤ n2
    · exact q
    · exact absurd h5 (h4 n2 (by omega))
theorem MW.uniq {y c n c' n' : Nat} (h : MW A W x y c n) (h' : MW A W x y c' n') : c = c' ∧ n = n' := by
  have e : c = c' := Nat.le_antisymm (h.2.1 _ _ h'.1) (h'.2.1 _ _ h.1)
  subst e
  exact ⟨rfl, Nat.le_antisymm (h.2.2 _ h'.1) (h'.2.2 _ h.1)⟩
theorem MW.pre {z c n : Nat} (h : MW A W x z c (n + 1)) : ∃ y c', MW A W x y c' n ∧ A y z = true ∧ c = c' + dl W z := by
  obtain ⟨y, c', h1, h2, h3⟩ := h.1
  refine ⟨y, c', ⟨h3, ?_, ?_⟩, h1, h2⟩
  · intro n2 c2 h4
    have := h.2.1 (n2 + 1) (c2 + dl W z) ⟨y, c2, h1, rfl, h4⟩
    omega
  · intro n2 h4
    have := h.2.2 (n2 + 1) ⟨y, c', h1, h2, h4⟩
    omega
theorem MW.down {z c n : Nat} (h : MW A W x z c n) : ∀ j, j ≤ n → ∃ y c', MW A W x y c' j := by
  induction n generalizing z c with
  | zero =>
    intro j hj
    obtain rfl : j = 0 := by omega
    exact ⟨z, c, h⟩
  | succ n ih =>
    intro j hj
    by_cases e : j = n + 1
    · subst e; exact ⟨z, c, h⟩
    · obtain ⟨y, c', h1, _⟩ := h.pre
      exact ih h1 j (by omega)
theorem CW_to {C : Cel} (hA : ∀ x y, there C x = true → A x y = true → there C y = true) (hx : there C x = true) : ∀ n c y, CW A W x n c y → there C y = true := by
  intro n
  induction n with
  | zero => rintro c y ⟨rfl, _⟩; exact hx
  | succ n ih =>
    rintro c z ⟨y, c', h1, _, h3⟩
    exact hA y z (ih c' y h3) h1
theorem MW.lt {C : Cel} (hC : C.ok) (hA : ∀ x y, there C x = true → A x y = true → there C y = true) (hx : there C x = true) {y c n : Nat} (h : MW A W x y c n) : n < 48 := by
  have key : ∀ j, j ≤ n → j + 1 ≤ cnt (fun z => @decide (∃ i c, i ≤ j ∧ MW A W x z c i) (Classical.propDecidable _)) 48 := by
    intro j
    induction j with
    | zero =>
      intro hj
      obtain ⟨y, c', hy⟩ := h.down 0 hj
      have h48 := there_lt hC (CW_to hA hx _ _ _ hy.1)
      have := cnt_lt (p := fun _ => false) (q := fun z => @decide (∃ i c, i ≤ 0 ∧ MW A W x z c i) (Classical.propDecidable _)) h48 rfl (by simp only [decide_eq_true_eq]; exact ⟨0, c', Nat.le_refl 0, hy⟩) (fun _ _ q => by cases q)
      omega
    | succ j ih =>
      intro hj
      have h1 := ih (by omega)
      obtain ⟨y, c', hy⟩ := h.down (j + 1) hj
      have h48 := there_lt hC (CW_to hA hx _ _ _ hy.1)
      have := cnt_lt (p := fun z => @decide (∃ i c, i ≤ j ∧ MW A W x z c i) (Classical.propDecidable _)) (q := fun z => @decide (∃ i c, i ≤ j + 1 ∧ MW A W x z c i) (Classical.propDecidable _)) h48
        (by
          simp only [decide_eq_false_iff_not]
          rintro ⟨i, c2, hi, h2⟩
          have := (h2.uniq hy).2
          omega)
        (by simp only [decide_eq_true_eq]; exact ⟨j + 1, c', Nat.le_refl _, hy⟩)
        (fun z _ q => by
          simp only [decide_eq_true_eq] at q ⊢
          obtain ⟨i, c2, hi, h2⟩ := q
          exact ⟨i, c2, by omega, h2⟩)
      omega
  have h1 := key n (Nat.le_refl n)
  have h2 := cnt_le (fun z => @decide (∃ i c, i ≤ n ∧ MW A W x z c i) (Classical.propDecidable _)) 48
  omega
noncomputable def tcN (A : Nat → Nat → Bool) (W : Nat → Bool) (x y : Nat) : Nat := @dite Nat (∃ c n, MW A W x y c n) (Classical.propDecidable _) (fun h => Classical.choose h) (fun _ => 9999)
theorem tcN_of {y c n : Nat} (h : MW A W x y c n) : tcN A W x y = c := by
  unfold tcN
  have q : ∃ c n, MW A W x y c n := ⟨c, n, h⟩
  rw [dif_pos q]
  obtain ⟨n', h'⟩ := Classical.choose_spec q
  exact (h'.uniq h).1
theorem tcN_no {y : Nat} (h : ∀ n c, ¬ CW A W x n c y) : tcN A W x y = 9999 := by
  unfold tcN
  rw [dif_neg]
  rintro ⟨c, n, hh⟩
  exact h n c hh.1
theorem rch_CW {y : Nat} : ∀ j, rch A W y j x → CW A W x j 0 y := by
  intro j
  induction j generalizing y with
  | zero => intro h; obtain rfl : x = y := h; exact ⟨rfl, rfl⟩
  | succ j ih =>
    intro h
    obtain ⟨z, h1, h2, h3⟩ := rch_unsnoc j x h
    exact ⟨z, 0, h2, by unfold dl; rw [if_pos h3], ih h1⟩
theorem CW_rch : ∀ s c n j y, CW A W x n c s → rch A W y j s → ∃ m, CW A W x m c y := by
  intro s c n j
  induction j with
  | zero => intro y h h'; obtain rfl : s = y := h'; exact ⟨n, h⟩
  | succ j ih =>
    intro y h h'
    obtain ⟨z, h1, h2, h3⟩ := rch_unsnoc j s h'
    obtain ⟨m, hm⟩ := ih z h h1
    exact ⟨m + 1, z, c, h2, by unfold dl; rw [if_pos h3]; rfl, hm⟩
end Co
section Cf
variable {C : Cel} {G Fd : List Itm} {pc : Nat → Int32} {k : Nat} {r : Row} {μ : Mem}
theorem fewest_ok {ν : Mem} (hC : C.ok) (hs : StOK C r) (h : GD C r 468 ν) {x to : Nat} (hx : there C x = true) (hto : there C to = true) : fX5_fewestToClear 468 (I x) (I to) ν = some (if tcN (adj C r) (wh C r) x to = 9999 then -1 else I (tcN (adj C r) (wh C r) x to)) := by
  have hx48 := there_lt hC hx
  have hto48 := there_lt hC hto
  have hA : ∀ x y, there C x = true → adj C r x y = true → there C y = true := fun x y hx ha => adj_there hC hs hx ha
  unfold fX5_fewestToClear
  obtain ⟨F, e, hF⟩ := flood_ok hC hs h (S := fX10_bit (I x)) (O := ν.2.2.1 468 1) (fun y hy => by
    rw [mb_bit (by omega)] at hy
    rw [of_decide_eq_true hy]; exact hx)
  rw [mbO_eq h] at hF
  rw [e, bs]
  have hF0 : ∀ y, mb F y = true ↔ ∃ n c, c ≤ 0 ∧ CW (adj C r) (wh C r) x n c y := by
    intro y
    rw [hF y]
    constructor
    · rintro ⟨j, s, h1, h2⟩
      rw [mb_bit (by omega)] at h1
      obtain rfl := of_decide_eq_true h1
      exact ⟨j, 0, Nat.le_refl 0, rch_CW j h2⟩
    · rintro ⟨n, c, hc, h1⟩
      obtain rfl : c = 0 := by omega
      have : ∀ n y, CW (adj C r) (wh C r) x n 0 y → rch (adj C r) (wh C r) y n x := by
        intro n
        induction n with
        | zero => rintro y ⟨rfl, _⟩; rfl
        | succ n ih =>
          rintro z ⟨y, c', h1, h2, h3⟩
          have hd : dl (wh C r) z = 0 := by omega
          obtain rfl : c' = 0 := by omega
          refine rch_snoc h1 ?_ n x (ih y h3)
          unfold dl at hd
          split at hd
          · assumption
          · omega
      exact ⟨n, x, by rw [mb_bit (by omega)]; exact decide_eq_true rfl, this n y h1⟩
  have key := loop_ok (S := Nat × Int64) (R := Int32) (fun m s => fX5_fewestToClear_16 ν m 468 (I to) s.2 (I s.1)) 49
    (fun j s => s.1 = j ∧ (∀ y, mb s.2 y = true ↔ ∃ n c, c ≤ j ∧ CW (adj C r) (wh C r) x n c y) ∧ ∀ i, i < j → ∀ n, ¬ CW (adj C r) (wh C r) x n i to)
    (fun v => v = if tcN (adj C r) (wh C r) x to = 9999 then -1 else I (tcN (adj C r) (wh C r) x to)) ?_ ?_ 49 fuel 0 (0, F) rfl (by unfold fuel; omega) ⟨rfl, hF0, fun i hi => absurd hi (Nat.not_lt_zero i)⟩
  · obtain ⟨v, e, rfl⟩ := key
    exact e
  · rintro m j ⟨j', v⟩ hj ⟨i1, i2, i3⟩
    simp only at i1 i2 i3
    subst i1
    have hv : ∀ y, mb v y = true → there C y = true := by
      intro y hy
      obtain ⟨n, c, _, hc⟩ := (i2 y).mp hy
      exact CW_to hA hx n c y hc
    show Ok (fX5_fewestToClear_16 ν (m + 1) 468 (I to) v (I j')) _ ∨ ∃ s', fX5_fewestToClear_16 ν (m + 1) 468 (I to) v (I j') = _ ∧ _
    rw [fX5_fewestToClear_16, if_neg (show ¬ (48 : Int32) < I j' by rw [l_ltI (by omega) (by decide)]; omega)]
    cases ht : mb v to with
    | true =>
      rw [if_neg (show ¬ (v &&& fX10_bit (I to)) = 0 by rw [and_bit0 (by omega), ht]; decide)]
      left
      refine Ok.s ?_
      obtain ⟨n, c, hc, hcw⟩ := (i2 to).mp ht
      obtain ⟨c0, n0, hm⟩ := MW_ex hcw
      have e1 := tcN_of hm
      have h1 := hm.2.1 n c hcw
      have h2 : c0 = j' := by
        by_cases q : c0 < j'
        · exact absurd hm.1 (i3 c0 q n0)
        · omega
      rw [e1, h2, if_neg (by omega)]
    | false =>
      rw [if_pos (show (v &&& fX10_bit (I to)) = 0 by rw [and_bit0 (by omega)]; exact ht)]
      have hnx : ∀ y, mb (v ||| fX5_beside 468 v ν) y = true ↔ mb v y = true ∨ ∃ z, mb v z = true ∧ adj C r z y = true := by
        intro y
        rw [mb_or, Bool.or_eq_true, beside_iff hC hs h hv y]
        constructor
        · rintro (q | ⟨_, z, q1, q2⟩)
          · exact Or.inl q
          · exact Or.inr ⟨z, q1, q2⟩
        · rintro (q | ⟨z, q1, q2⟩)
          · exact Or.inl q
          · exact Or.inr ⟨hA z y (hv z q1) q2, z, q1, q2⟩
      have hnot : ∀ n c, c ≤ j' → ¬ CW (adj C r) (wh C r) x n c to := by
        intro n c hc hcw
        rw [(i2 to).mpr ⟨n, c, hc, hcw⟩] at ht
        cases ht
      by_cases q : (v ||| fX5_beside 468 v ν) = v
      · rw [if_pos q]
        left
        refine Ok.s ?_
        rw [q] at hnx
        have hall : ∀ n c y, CW (adj C r) (wh C r) x n c y → mb v y = true := by
          intro n
          induction n with
          | zero => rintro c y ⟨rfl, rfl⟩; exact (i2 y).mpr ⟨0, 0, Nat.zero_le _, rfl, rfl⟩
          | succ n ih =>
            rintro c z ⟨y, c', h1, _, h3⟩
            exact (hnx z).mpr (Or.inr ⟨y, ih c' y h3, h1⟩)
        rw [tcN_no (fun n c hcw => by rw [hall n c to hcw] at ht; cases ht), if_pos rfl]
      · rw [if_neg q]
        obtain ⟨F', e', hF'⟩ := flood_ok hC hs h (S := v ||| fX5_beside 468 v ν) (O := ν.2.2.1 468 1) (fun y hy => by
          rcases (hnx y).mp hy with t | ⟨z, t1, t2⟩
          · exact hv y t
          · exact hA z y (hv z t1) t2)
        rw [mbO_eq h] at hF'
        rw [e', bs, I_addl]
        right
        refine ⟨(j' + 1, F'), rfl, rfl, ?_, ?_⟩
        · intro y
          show mb F' y = true ↔ _
          rw [hF' y]
          constructor
          · rintro ⟨i, s, h1, h2⟩
            rcases (hnx s).mp h1 with t | ⟨z, t1, t2⟩
            · obtain ⟨n, c, hc, hcw⟩ := (i2 s).mp t
              obtain ⟨m', hm'⟩ := CW_rch s c n i y hcw h2
              exact ⟨m', c, by omega, hm'⟩
            · obtain ⟨n, c, hc, hcw⟩ := (i2 z).mp t1
              obtain ⟨m', hm'⟩ := CW_rch s (c + dl (wh C r) s) (n + 1) i y ⟨z, c, t2, rfl, hcw⟩ h2
              refine ⟨m', c + dl (wh C r) s, ?_, hm'⟩
              unfold dl
              split <;> omega
          · rintro ⟨n, c, hc, hcw⟩
            induction n generalizing c y with
            | zero =>
              obtain ⟨rfl, rfl⟩ := hcw
              exact ⟨0, y, (hnx y).mpr (Or.inl ((i2 y).mpr ⟨0, 0, Nat.zero_le _, rfl, rfl⟩)), rfl⟩
            | succ n ih =>
              obtain ⟨z, c', h1, h2, h3⟩ := hcw
              by_cases w : wh C r y = true
              · have hd : dl (wh C r) y = 0 := by unfold dl; rw [if_pos w]
                obtain ⟨i, s, a1, a2⟩ := ih z c' (by omega) h3
                exact ⟨i + 1, s, a1, rch_snoc h1 w i s a2⟩
              · have hd : dl (wh C r) y = 1 := by unfold dl; rw [if_neg w]
                exact ⟨0, y, (hnx y).mpr (Or.inr ⟨z, (i2 z).mpr ⟨n, c', by omega, h3⟩, h1⟩), rfl⟩
        · intro i hi n
          exact hnot n i (by omega)
  · rintro m ⟨j', v⟩ ⟨i1, i2, i3⟩
    simp only at i1 i2 i3
    subst i1
    show Ok (fX5_fewestToClear_16 ν (m + 1) 468 (I to) v (I 49)) _
    rw [fX5_fewestToClear_16, if_pos (by decide)]
    refine Ok.s ?_
    rw [tcN_no, if_pos rfl]
    intro n c hcw
    obtain ⟨c0, n0, hm⟩ := MW_ex hcw
    have h1 := hm.lt hC hA hx
    have h2 := CW_le _ _ _ hm.1
    exact i3 c0 (by omega) n0 hm.1
end Cf
