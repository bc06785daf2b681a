/-! THE REFERENCE: a step -/
theorem dst_wh {C : Cel} {r : Row} (hC : C.ok) (hs : StOK C r) {to : Nat} (hto : there C to = true) (y : Nat) : (dst (adj C r) (wh C r) to y = 9999 ∧ ∀ k, ¬ rch (adj C r) (wh C r) to k y) ∨ (dst (adj C r) (wh C r) to y < 48 ∧ IsD (adj C r) (wh C r) to y (dst (adj C r) (wh C r) to y)) := dst_cases hC hs wh_there hto y
theorem stepFrom_ok {C : Cel} {μ : Mem} (h : RC C μ) {b : Nat} (hb : b ≤ 79) (hs : StOK C (rwb μ b)) {x to : Nat} (hx : there C x = true) (hto : there C to = true)
    (hF : ∀ y, there C y = true → μ.2.1 506 y = I (dst (adj C (rwb μ b)) (wh C (rwb μ b)) to y)) (hd : dst (adj C (rwb μ b)) (wh C (rwb μ b)) to x ≠ 9999) (hd0 : dst (adj C (rwb μ b)) (wh C (rwb μ b)) to x ≠ 0) :
    fX11_stepFrom 492 (I b) (I x) μ = some (I (fst48 (isStep C (rwb μ b) to x))) := by
  have hC := h.2.1
  have hGr := h.1
  have hx48 := there_lt hC hx
  unfold fX11_stepFrom
  have key := loop_ok (S := Nat × Option Nat) (R := Int32)
    (fun n s => fX11_stepFrom_5 μ n 492 (I b) (I x) (enc s.2) (I s.1)) 4
    (fun j s => s.1 = j ∧ (s.2 = none → ∀ w, w < j → ∀ y, nbr C (rwb μ b) x w = some y → isStep C (rwb μ b) to x y = false) ∧ (∀ m, s.2 = some m → isStep C (rwb μ b) to x m = true ∧ ∀ w, w < j → ∀ y, nbr C (rwb μ b) x w = some y → isStep C (rwb μ b) to x y = true → m ≤ y))
    (fun v => v = I (fst48 (isStep C (rwb μ b) to x)))
    ?_ ?_ 4 fuel 0 (0, none) rfl (by unfold fuel; omega) ⟨rfl, fun _ w hw => absurd hw (Nat.not_lt_zero w), fun m hm => by cases hm⟩
  · obtain ⟨v, e, rfl⟩ := key
    exact e
  · rintro n j ⟨j', o⟩ hj ⟨i1, i2, i3⟩
    simp only at i1 i2 i3
    subst i1
    right
    show ∃ s', fX11_stepFrom_5 μ (n + 1) 492 (I b) (I x) (enc o) (I j') = _ ∧ _
    rw [fX11_stepFrom_5]
    simp (disch := omega) only [I_ltl, hj, if_true, beside_ok h hb hx hj, Option.bind_some]
    cases hn : nbr C (rwb μ b) x j' with
    | none =>
      rw [if_pos (show enc none = -1 from rfl), I_addl]
      refine ⟨(j' + 1, o), rfl, rfl, ?_, ?_⟩
      · intro ho w hw y hy
        by_cases e : w = j'
        · subst e; rw [hn] at hy; cases hy
        · exact i2 ho w (by omega) y hy
      · intro m hm
        refine ⟨(i3 m hm).1, ?_⟩
        intro w hw y hy
        by_cases e : w = j'
        · subst e; rw [hn] at hy; cases hy
        · exact (i3 m hm).2 w (by omega) y hy
    | some y =>
      have hya : adj C (rwb μ b) x y = true := (nbr_adj hC hs hx).mpr ⟨j', hj, hn⟩
      have hyt : there C y = true := adj_there hC hs hx hya
      have hy48 : y < 48 := there_lt hC hyt
      have hdx : dst (adj C (rwb μ b)) (wh C (rwb μ b)) to x < 48 := by
        rcases dst_wh hC hs hto x with q | q
        · exact absurd q.1 hd
        · exact q.1
      have hdy : dst (adj C (rwb μ b)) (wh C (rwb μ b)) to y ≤ 9999 := by
        rcases dst_wh hC hs hto y with q | q <;> (have := q.1; omega)
      rw [if_neg (show ¬ enc (some y) = -1 from I_m1 (by omega)), show enc (some y) = I y from rfl]
      rw [white_ok hGr hb hy48]
      simp (disch := omega) only [g_492_39 hGr, Option.bind_some, ld_506, hF y hyt, hF x hx, I_subl, I_inj]
      -- is it a step
      have hst : isStep C (rwb μ b) to x y = (decide (rwb μ b (1 + y) = 0) && decide (dst (adj C (rwb μ b)) (wh C (rwb μ b)) to y + 1 = dst (adj C (rwb μ b)) (wh C (rwb μ b)) to x)) := by
        unfold isStep wh
        rw [hya, hyt]
        simp
      have hno : isStep C (rwb μ b) to x y = false → ∃ s' : Nat × Option Nat, fX11_stepFrom_5 μ n 492 (I b) (I x) (enc o) (I j' + 1) = fX11_stepFrom_5 μ n 492 (I b) (I x) (enc s'.2) (I s'.1) ∧ s'.1 = j' + 1 ∧ (s'.2 = none → ∀ w, w < j' + 1 → ∀ y, nbr C (rwb μ b) x w = some y → isStep C (rwb μ b) to x y = false) ∧ (∀ m, s'.2 = some m → isStep C (rwb μ b) to x m = true ∧ ∀ w, w < j' + 1 → ∀ y, nbr C (rwb μ b) x w = some y → isStep C (rwb μ b) to x y = true → m ≤ y) := by
        intro hf
        refine ⟨(j' + 1, o), by rw [I_addl], rfl, ?_, ?_⟩
        · intro ho w hw z hz
          by_cases e : w = j'
          · subst e; rw [hn] at hz; cases hz; exact hf
          · exact i2 ho w (by omega) z hz
        · intro m hm
          refine ⟨(i3 m hm).1, ?_⟩
          intro w hw z hz hsz
          by_cases e : w = j'
          · subst e; rw [hn] at hz; cases hz; rw [hf] at hsz; cases hsz
          · exact (i3 m hm).2 w (by omega) z hz hsz
      by_cases hw : rwb μ b (1 + y) = 0
      · rw [if_pos hw, if_neg (by decide)]
        by_cases hdd : dst (adj C (rwb μ b)) (wh C (rwb μ b)) to y = dst (adj C (rwb μ b)) (wh C (rwb μ b)) to x - 1
        · rw [if_pos hdd]
          have hyes : isStep C (rwb μ b) to x y = true := by
            rw [hst, decide_eq_true hw, decide_eq_true (by omega)]; rfl
          cases o with
          | none =>
            rw [if_pos (show enc none = -1 from rfl)]
            refine ⟨(j' + 1, some y), by rw [I_addl]; rfl, rfl, (fun q => by cases q), ?_⟩
            intro m hm
            cases hm
            refine ⟨hyes, ?_⟩
            intro w hw2 z hz hsz
            by_cases e : w = j'
            · subst e; rw [hn] at hz; cases hz; exact Nat.le_refl _
            · rw [i2 rfl w (by omega) z hz] at hsz; cases hsz
          | some m =>
            have hm48 : m < 48 := by
              have := (i3 m rfl).1
              unfold isStep at this
              rw [Bool.and_eq_true, Bool.and_eq_true] at this
              exact there_lt hC (wh_there m this.1.2)
            rw [if_neg (show ¬ enc (some m) = -1 from I_m1 (by omega)), show enc (some m) = I m from rfl]
            simp (disch := omega) only [I_lt]
            by_cases hlt : y < m
            · rw [if_pos hlt]
              refine ⟨(j' + 1, some y), by rw [I_addl]; rfl, rfl, (fun q => by cases q), ?_⟩
              intro m' hm'
              cases hm'
              refine ⟨hyes, ?_⟩
              intro w hw2 z hz hsz
              by_cases e : w = j'
              · subst e; rw [hn] at hz; cases hz; exact Nat.le_refl _
              · have := (i3 m rfl).2 w (by omega) z hz hsz
                omega
            · rw [if_neg hlt]
              refine ⟨(j' + 1, some m), by rw [I_addl]; rfl, rfl, (fun q => by cases q), ?_⟩
              intro m' hm'
              cases hm'
              refine ⟨(i3 m rfl).1, ?_⟩
              intro w hw2 z hz hsz
              by_cases e : w = j'
              · subst e; rw [hn] at hz; cases hz; omega
              · exact (i3 m rfl).2 w (by omega) z hz hsz
        · rw [if_neg hdd]
          have hdd2 : ¬ dst (adj C (rwb μ b)) (wh C (rwb μ b)) to y + 1 = dst (adj C (rwb μ b)) (wh C (rwb μ b)) to x := by omega
          exact hno (by rw [hst, decide_eq_false hdd2]; simp)
      · rw [if_neg hw, if_pos rfl]
        exact hno (by rw [hst, decide_eq_false hw]; rfl)
  · rintro n ⟨j', o⟩ ⟨i1, i2, i3⟩
    simp only at i1 i2 i3
    subst i1
    show Ok (fX11_stepFrom_5 μ (n + 1) 492 (I b) (I x) (enc o) (I 4)) _
    rw [fX11_stepFrom_5, if_neg (by decide)]
    refine Ok.s ?_
    have hne : ∃ y, isStep C (rwb μ b) to x y = true := by
      rcases dst_wh hC hs hto x with q | ⟨_, q⟩
      · exact absurd q.1 hd
      · obtain ⟨k, hk⟩ : ∃ k, dst (adj C (rwb μ b)) (wh C (rwb μ b)) to x = k + 1 := ⟨_, (Nat.succ_pred hd0).symm⟩
        rw [hk] at q
        obtain ⟨y, ha, hw, hy⟩ := q.step
        refine ⟨y, ?_⟩
        unfold isStep
        rw [ha, hw, dst_of hy, hk]
        simp
    obtain ⟨y, hy⟩ := hne
    have hadj : ∀ z, isStep C (rwb μ b) to x z = true → ∃ w, w < 4 ∧ nbr C (rwb μ b) x w = some z := by
      intro z hz
      unfold isStep at hz
      rw [Bool.and_eq_true, Bool.and_eq_true] at hz
      exact (nbr_adj hC hs hx).mp hz.1.1
    cases o with
    | none =>
      obtain ⟨w, hw, hn⟩ := hadj y hy
      rw [i2 rfl w hw y hn] at hy
      cases hy
    | some m =>
      obtain ⟨a1, a2⟩ := i3 m rfl
      have hm48 : m < 48 := by
        have := a1
        unfold isStep at this
        rw [Bool.and_eq_true, Bool.and_eq_true] at this
        exact there_lt hC (wh_there m this.1.2)
      rw [fst48_of hm48 a1]
      · rfl
      · intro j hj
        cases q : isStep C (rwb μ b) to x j
        · rfl
        · obtain ⟨w, hw, hn⟩ := hadj j q
          have := a2 w hw j hn q
          omega
