/-! CALLS: later, ahead, clear -/
theorem cntI_N (g : Nat → Int32) (v : Int32) : ∀ j, cntI g v j = I (cnt (fun p => decide (g p = v)) j) := by
  intro j
  induction j with
  | zero => rfl
  | succ j ih =>
    rw [cntI_s, ih]
    show _ = I (cnt _ j + _)
    by_cases h : g j = v
    · rw [if_pos h, if_pos (decide_eq_true h), I_addl]
    · rw [if_neg h, if_neg (fun t => h (of_decide_eq_true t)), I_addl]
theorem cnt_beyond {p : Nat → Bool} {n : Nat} (i : Nat) (h : ∀ x, n ≤ x → p x = false) : cnt p (n + i) = cnt p n := by
  rw [cnt_add, cnt_0 (fun x _ => h (n + x) (by omega)), Nat.add_zero]
/-- how many places are typed over -/
def inkN (C : Cel) (r : Row) : Int32 := I (cnt (fun x => there C x && decide (r (1 + x) ≠ 0)) 48)
theorem inkN_congr {C : Cel} {r r' : Row} (h : ∀ k, 1 ≤ k → k < 49 → r k = r' k) : inkN C r = inkN C r' := by
  unfold inkN
  rw [cnt_congr (fun x hx => by rw [h (1 + x) (by omega) (by omega)])]
section La
variable {C : Cel} {G Fd : List Itm} {pc : Nat → Int32} {k : Nat} {r : Row} {μ : Mem}
theorem inked_C {a : Nat} (hC : C.ok) (hcel : gR μ 0 4 11 = some k) (hP : ∀ x, mb (μ.2.2.1 k 2) x = there C x) (hS : SH C r a μ) : fX10_inked 0 a μ = some (inkN C r) := by
  unfold fX10_inked
  rw [hcel, bs, bitCount_ok]
  unfold inkN
  congr 2
  rw [show 64 = 48 + 16 from rfl, cnt_beyond]
  · apply cnt_congr
    intro x hx
    rw [mb_and, hP, mb_not (by omega), hS.2.1]
    unfold wh
    cases there C x <;> simp
  · intro x hx
    rw [mb_and, hP]
    have : there C x = false := by
      cases q : there C x
      · rfl
      · exact absurd (there_lt hC q) (by omega)
    rw [this]; rfl
theorem inked_R (h : RC C μ) {b : Nat} (hb : b ≤ 79) : fX11_inked 492 (I b) μ = some (inkN C (rwb μ b)) := by
  unfold fX11_inked
  refine loop_eq (fun n (s : Int32 × Int32) => fX11_inked_4 μ n 492 (I b) s.1 s.2) 48 (fun j => (I (cnt (fun x => there C x && decide (rwb μ b (1 + x) ≠ 0)) j), I j)) _ ?_ ?_ 48 fuel 0 rfl (by unfold fuel; omega)
  · intro n j hj
    show fX11_inked_4 μ (n + 1) 492 (I b) (I (cnt (fun x => there C x && decide (rwb μ b (1 + x) ≠ 0)) j)) (I j) = fX11_inked_4 μ n 492 (I b) (I (cnt (fun x => there C x && decide (rwb μ b (1 + x) ≠ 0)) j + _)) (I (j + 1))
    conv => lhs; rw [fX11_inked_4]
    rw [if_pos (show I j < (48 : Int32) from (I_ltl (by omega) (by decide)).mpr hj), isThere_ok h hj, bs]
    by_cases q : there C j = true
    · rw [if_pos q, if_neg (by decide), white_ok h.1 hb hj, bs]
      by_cases q2 : rwb μ b (1 + j) = 0
      · rw [if_pos q2, if_neg (by decide), I_addl, I_addl, if_neg (by simp [q, q2])]
      · rw [if_neg q2, if_pos rfl, I_addl, I_addl, if_pos (by simp [q, q2])]
    · rw [if_neg q, if_pos rfl, I_addl, I_addl, if_neg (by simp [q])]
  · intro n
    show fX11_inked_4 μ (n + 1) 492 (I b) _ (I 48) = _
    rw [fX11_inked_4, if_neg (by decide)]
    rfl
/-- how many stand at x -/
def nAt (C : Cel) (r : Row) (x : Nat) : Nat := cnt (fun p => decide (r (55 + p) = I x)) C.P
def nOpt (C : Cel) (r : Row) : Option Nat → Int32
  | none => 0
  | some b => I (nAt C r b)
theorem nAt_le (hC : C.ok) (x : Nat) : nAt C r x ≤ 6 := Nat.le_trans (cnt_le _ _) hC.2.1
def isCrw (C : Cel) (r : Row) (o : Option Nat) : Prop := (o = none → ∀ x, x < 48 → nAt C r x = 0) ∧ (∀ b, o = some b → b < 48 ∧ 0 < nAt C r b ∧ ∀ y, y < 48 → nAt C r y ≤ nAt C r b ∧ (nAt C r y = nAt C r b → b ≤ y))
theorem isCrw.uniq {o o' : Option Nat} (h : isCrw C r o) (h' : isCrw C r o') : o = o' := by
  cases o with
  | none =>
    cases o' with
    | none => rfl
    | some b =>
      obtain ⟨h1, h2, _⟩ := h'.2 b rfl
      rw [h.1 rfl b h1] at h2
      omega
  | some a =>
    obtain ⟨h1, h2, h3⟩ := h.2 a rfl
    cases o' with
    | none => rw [h'.1 rfl a h1] at h2; omega
    | some b =>
      obtain ⟨g1, g2, g3⟩ := h'.2 b rfl
      have a1 := (h3 b g1).1
      have a2 := (g3 a h1).1
      have e : nAt C r a = nAt C r b := by omega
      have b1 := (h3 b g1).2 e.symm
      have b2 := (g3 a h1).2 e
      have : a = b := by omega
      rw [this]
theorem crowdAt_R (h : RC C μ) : ∃ o, fX11_crowdAt 492 μ = some (enc o) ∧ isCrw C (rwb μ 79) o := by
  have hC := h.2.1
  unfold fX11_crowdAt
  have hst : ∀ x, fX11_standAt 492 (79 : Int32) (I x) μ = some (I (nAt C (rwb μ 79) x)) := by
    intro x
    rw [show (79 : Int32) = I 79 from rfl, standAt_ok h (by omega), cntI_N]
    rfl
  have hle : ∀ x, nAt C (rwb μ 79) x ≤ 6 := fun x => nAt_le hC x
  have key := loop_ok (S := Nat × Option Nat) (R := Int32) (fun n s => fX11_crowdAt_4 μ n 492 (enc s.2) (I s.1)) 48
    (fun j s => s.1 = j ∧ (s.2 = none → ∀ x, x < j → nAt C (rwb μ 79) x = 0) ∧ (∀ b, s.2 = some b → b < j ∧ 0 < nAt C (rwb μ 79) b ∧ ∀ y, y < j → nAt C (rwb μ 79) y ≤ nAt C (rwb μ 79) b ∧ (nAt C (rwb μ 79) y = nAt C (rwb μ 79) b → b ≤ y)))
    (fun v => ∃ o, v = enc o ∧ isCrw C (rwb μ 79) o) ?_ ?_ 48 fuel 0 (0, none) rfl (by unfold fuel; omega) ⟨rfl, fun _ x hx => absurd hx (Nat.not_lt_zero x), fun b hb => by cases hb⟩
  · obtain ⟨v, e, o, rfl, ho⟩ := key
    exact ⟨o, e, ho⟩
  · rintro n j ⟨j', o⟩ hj ⟨i1, i2, i3⟩
    simp only at i1 i2 i3
    subst i1
    right
    show ∃ s', fX11_crowdAt_4 μ (n + 1) 492 (enc o) (I j') = _ ∧ _
    rw [fX11_crowdAt_4, if_pos (show I j' < (48 : Int32) from (I_ltl (by omega) (by decide)).mpr hj), hst, bs]
    have hlej := hle j'
    cases o with
    | none =>
      rw [if_pos (show enc none = -1 from rfl), I_addl]
      by_cases q : 0 < nAt C (rwb μ 79) j'
      · rw [if_pos (show (0 : Int32) < I (nAt C (rwb μ 79) j') from (l_ltI (m := 0) (by omega) (by decide)).mpr q)]
        refine ⟨(j' + 1, some j'), rfl, rfl, (fun q => by cases q), ?_⟩
        intro b hb
        cases hb
        refine ⟨by omega, q, ?_⟩
        intro y hy
        by_cases e : y = j'
        · subst e; exact ⟨Nat.le_refl _, fun _ => Nat.le_refl _⟩
        · rw [i2 rfl y (by omega)]; exact ⟨by omega, fun q2 => by omega⟩
      · rw [if_neg (show ¬ (0 : Int32) < I (nAt C (rwb μ 79) j') from fun t => q ((l_ltI (m := 0) (by omega) (by decide)).mp t))]
        refine ⟨(j' + 1, none), rfl, rfl, ?_, (fun b hb => by cases hb)⟩
        intro _ x hx
        by_cases e : x = j'
        · subst e; omega
        · exact i2 rfl x (by omega)
    | some b =>
      obtain ⟨a1, a2, a3⟩ := i3 b rfl
      have hleb := hle b
      rw [if_neg (show ¬ enc (some b) = -1 from I_m1 (by omega)), show enc (some b) = I b from rfl, hst, bs, I_addl]
      by_cases q : nAt C (rwb μ 79) b < nAt C (rwb μ 79) j'
      · rw [if_pos (show I (nAt C (rwb μ 79) b) < I (nAt C (rwb μ 79) j') from (I_lt (by omega) (by omega)).mpr q)]
        refine ⟨(j' + 1, some j'), rfl, rfl, (fun q => by cases q), ?_⟩
        intro b' hb
        cases hb
        refine ⟨by omega, by omega, ?_⟩
        intro y hy
        by_cases e : y = j'
        · subst e; exact ⟨Nat.le_refl _, fun _ => Nat.le_refl _⟩
        · have := (a3 y (by omega)).1
          exact ⟨by omega, fun q2 => by omega⟩
      · rw [if_neg (show ¬ I (nAt C (rwb μ 79) b) < I (nAt C (rwb μ 79) j') from fun t => q ((I_lt (by omega) (by omega)).mp t))]
        refine ⟨(j' + 1, some b), rfl, rfl, (fun q => by cases q), ?_⟩
        intro b' hb
        cases hb
        refine ⟨by omega, a2, ?_⟩
        intro y hy
        by_cases e : y = j'
        · subst e; exact ⟨by omega, fun _ => by omega⟩
        · exact a3 y (by omega)
  · rintro n ⟨j', o⟩ ⟨i1, i2, i3⟩
    simp only at i1 i2 i3
    subst i1
    show Ok (fX11_crowdAt_4 μ (n + 1) 492 (enc o) (I 48)) _
    rw [fX11_crowdAt_4, if_neg (by decide)]
    exact Ok.s ⟨o, rfl, i2, i3⟩
theorem crowd_m1 {μ : Mem} {a : Nat} : fX9_crowd a (-1) μ = some 0 := by
  unfold fX9_crowd
  refine loop_eq (fun n (s : Int32) => fX9_crowd_4 μ n a (-1) 0 s) 6 (fun j => I j) _ ?_ ?_ 6 fuel 0 rfl (by unfold fuel; omega)
  · intro n j hj
    show fX9_crowd_4 μ (n + 1) a (-1) 0 (I j) = fX9_crowd_4 μ n a (-1) 0 (I (j + 1))
    conv => lhs; rw [fX9_crowd_4]
    rw [if_pos (show I j < (6 : Int32) from (I_ltl (by omega) (by decide)).mpr hj), if_pos rfl, I_addl]
  · intro n
    show fX9_crowd_4 μ (n + 1) a (-1) 0 (I 6) = _
    rw [fX9_crowd_4, if_neg (by decide)]
theorem crowded_C (hG : Gr μ) (hC : C.ok) {a : Nat} (ha : a ∈ stA) (hS : SH C r a μ) (hr : RowOK C r) : ∃ o, fX9_crowdedPlace a μ = some (enc o) ∧ isCrw C r o := by
  have hP := hC.2.1
  unfold fX9_crowdedPlace
  have hle : ∀ x, nAt C r x ≤ 6 := fun x => nAt_le hC x
  have hcr : ∀ x, x < 48 → fX9_crowd a (I x) μ = some (I (nAt C r x)) := by
    intro x hx
    rw [crowd_C hG hC ha hS (I_m1 (by omega)), cntI_N]
    rfl
  have hself : ∀ p x, p < C.P → r (55 + p) = I x → 0 < nAt C r x := by
    intro p x hp hx
    have : cnt (fun _ => false) C.P < cnt (fun q => decide (r (55 + q) = I x)) C.P := cnt_lt hp rfl (decide_eq_true hx) (fun _ _ q => by cases q)
    unfold nAt
    omega
  have key := loop_ok (S := Nat × Option Nat) (R := Int32) (fun n s => fX9_crowdedPlace_6 μ n a (enc s.2) (nOpt C r s.2) (I s.1)) 6
    (fun j s => s.1 = j ∧ (s.2 = none → ∀ w, w < j → ¬ w < C.P) ∧ (∀ b, s.2 = some b → b < 48 ∧ 0 < nAt C r b ∧ ∀ w, w < j → w < C.P → ∀ y, r (55 + w) = I y → y < 48 → nAt C r y ≤ nAt C r b ∧ (nAt C r y = nAt C r b → b ≤ y)))
    (fun v => ∃ o, v = enc o ∧ isCrw C r o) ?_ ?_ 6 fuel 0 (0, none) rfl (by unfold fuel; omega) ⟨rfl, fun _ x hx => absurd hx (Nat.not_lt_zero x), fun b hb => by cases hb⟩
  · obtain ⟨v, e, o, rfl, ho⟩ := key
    exact ⟨o, e, ho⟩
  · rintro n j ⟨j', o⟩ hj ⟨i1, i2, i3⟩
    simp only at i1 i2 i3
    subst i1
    right
    show ∃ s', fX9_crowdedPlace_6 μ (n + 1) a (enc o) (nOpt C r o) (I j') = _ ∧ _
    rw [fX9_crowdedPlace_6, if_pos (show I j' < (6 : Int32) from (I_ltl (by omega) (by decide)).mpr hj), hG.at ha, bs, ldI_I (st_at a ha).2 hj (by omega), bs, hS.2.2.2.2.1 j' hj]
    by_cases hjP : j' < C.P
    · obtain ⟨x, hx1, hx2⟩ := hr.2.1 j' hjP
      have hx48 := there_lt hC hx2
      rw [if_pos hjP, hx1, hcr x hx48, bs]
      have hpos := hself j' x hjP hx1
      have hlex := hle x
      simp only [ldI_I (st_at a ha).2 hj (by omega), bs, hS.2.2.2.2.1 j' hj, if_pos hjP, hx1, I_addl]
      -- the new best is x
      have hnew : (∀ b, o = some b → nAt C r b < nAt C r x ∨ (nAt C r x = nAt C r b ∧ x < b)) → (∀ b', some x = some b' → b' < 48 ∧ 0 < nAt C r b' ∧ ∀ w, w < j' + 1 → w < C.P → ∀ y, r (55 + w) = I y → y < 48 → nAt C r y ≤ nAt C r b' ∧ (nAt C r y = nAt C r b' → b' ≤ y)) := by
        intro ho b' hb'
        cases hb'
        refine ⟨hx48, hpos, ?_⟩
        intro w hw hwP y hy hy48
        by_cases e : w = j'
        · subst e
          rw [hx1, I_inj (by omega) (by omega)] at hy
          subst hy
          exact ⟨Nat.le_refl _, fun _ => Nat.le_refl _⟩
        · cases o with
          | none => exact absurd hwP (i2 rfl w (by omega))
          | some b =>
            obtain ⟨_, _, a3⟩ := i3 b rfl
            have := a3 w (by omega) hwP y hy hy48
            rcases ho b rfl with q | q
            · exact ⟨by omega, fun q2 => by omega⟩
            · exact ⟨by omega, fun q2 => by have := this.2 (by omega); omega⟩
      have hold : ∀ b, o = some b → ¬ (nAt C r b < nAt C r x) → ¬ (nAt C r x = nAt C r b ∧ x < b) → (∀ b', some b = some b' → b' < 48 ∧ 0 < nAt C r b' ∧ ∀ w, w < j' + 1 → w < C.P → ∀ y, r (55 + w) = I y → y < 48 → nAt C r y ≤ nAt C r b' ∧ (nAt C r y = nAt C r b' → b' ≤ y)) := by
        intro b hb h1 h2 b' hb'
        cases hb'
        obtain ⟨a1, a2, a3⟩ := i3 b hb
        refine ⟨a1, a2, ?_⟩
        intro w hw hwP y hy hy48
        by_cases e : w = j'
        · subst e
          rw [hx1, I_inj (by omega) (by omega)] at hy
          subst hy
          exact ⟨by omega, fun q => by omega⟩
        · exact a3 w (by omega) hwP y hy hy48
      cases o with
      | none =>
        rw [show nOpt C r none = 0 from rfl, if_pos (show (0 : Int32) < I (nAt C r x) from (l_ltI (m := 0) (by omega) (by decide)).mpr hpos)]
        exact ⟨(j' + 1, some x), rfl, rfl, (fun q => by cases q), hnew (fun b hb => by cases hb)⟩
      | some b =>
        obtain ⟨a1, a2, a3⟩ := i3 b rfl
        have hleb := hle b
        rw [show nOpt C r (some b) = I (nAt C r b) from rfl]
        by_cases q : nAt C r b < nAt C r x
        · rw [if_pos (show I (nAt C r b) < I (nAt C r x) from (I_lt (by omega) (by omega)).mpr q)]
          exact ⟨(j' + 1, some x), rfl, rfl, (fun q => by cases q), hnew (fun b' hb => by cases hb; exact Or.inl q)⟩
        · rw [if_neg (show ¬ I (nAt C r b) < I (nAt C r x) from fun t => q ((I_lt (by omega) (by omega)).mp t)), if_pos (show (0 : Int32) < I (nAt C r x) from (l_ltI (m := 0) (by omega) (by decide)).mpr hpos)]
          by_cases q2 : nAt C r x = nAt C r b
          · rw [if_pos (show I (nAt C r x) = I (nAt C r b) by rw [q2]), show enc (some b) = I b from rfl]
            by_cases q3 : x < b
            · rw [if_pos (show I x < I b from (I_lt (by omega) (by omega)).mpr q3)]
              exact ⟨(j' + 1, some x), rfl, rfl, (fun q => by cases q), hnew (fun b' hb => by cases hb; exact Or.inr ⟨q2, q3⟩)⟩
            · rw [if_neg (show ¬ I x < I b from fun t => q3 ((I_lt (by omega) (by omega)).mp t))]
              exact ⟨(j' + 1, some b), rfl, rfl, (fun q => by cases q), hold b rfl q (fun t => q3 t.2)⟩
          · rw [if_neg (show ¬ I (nAt C r x) = I (nAt C r b) from fun t => q2 ((I_inj (by omega) (by omega)).mp t))]
            exact ⟨(j' + 1, some b), rfl, rfl, (fun q => by cases q), hold b rfl q (fun t => q2 t.1)⟩
    · rw [if_neg hjP, crowd_m1, bs, I_addl]
      have h0 : ¬ ((nOpt C r o) < (0 : Int32)) := by
        cases o with
        | none => exact (by decide : ¬ (0 : Int32) < 0)
        | some b => exact I_neg (by have := hle b; omega)
      rw [if_neg h0, if_neg (by decide)]
      refine ⟨(j' + 1, o), rfl, rfl, ?_, ?_⟩
      · intro ho w hw
        by_cases e : w = j'
        · subst e; exact hjP
        · exact i2 ho w (by omega)
      · intro b hb
        obtain ⟨a1, a2, a3⟩ := i3 b hb
        refine ⟨a1, a2, ?_⟩
        intro w hw hwP
        exact a3 w (by omega) hwP
  · rintro n ⟨j', o⟩ ⟨i1, i2, i3⟩
    simp only at i1 i2 i3
    subst i1
    show Ok (fX9_crowdedPlace_6 μ (n + 1) a (enc o) _ (I 6)) _
    rw [fX9_crowdedPlace_6, if_neg (by decide)]
    refine Ok.s ⟨o, rfl, ?_, ?_⟩
    · intro ho x hx
      unfold nAt
      apply cnt_0
      intro p hp
      exact absurd hp (i2 ho p (by omega))
    · intro b hb
      obtain ⟨a1, a2, a3⟩ := i3 b hb
      refine ⟨a1, a2, ?_⟩
      intro y hy
      by_cases q : nAt C r y = 0
      · exact ⟨by omega, fun q2 => by omega⟩
      · have hex : ∃ p, p < C.P ∧ r (55 + p) = I y := by
          by_cases q3 : ∃ p, p < C.P ∧ r (55 + p) = I y
          · exact q3
          · exfalso
            apply q
            unfold nAt
            apply cnt_0
            intro p hp
            exact decide_eq_false (fun t => q3 ⟨p, hp, t⟩)
        obtain ⟨p, hp, hy2⟩ := hex
        exact a3 p (by omega) hp y hy2 hy
theorem toldAs_eq {o : Option Nat} (h : ∀ x, o = some x → x < 48) : fX11_toldAs (enc o) = fX10_outside (enc o) := by
  unfold fX11_toldAs fX10_outside
  cases o with
  | none => rw [if_pos (show enc none = -1 from rfl), if_pos (show enc none < 0 by decide)]
  | some x =>
    have := h x rfl
    rw [show enc (some x) = I x from rfl, if_neg (I_m1 (by omega)), if_neg (I_neg (by omega))]
end La
