/-! THE LAW: every call of every script -/
def Z01 (x : Option (Int32 × Mem)) : Prop := ∀ v ξ, x = some (v, ξ) → v = 0 ∨ v = 1
theorem Z01.z (μ : Mem) : Z01 (some (0, μ)) := fun v ξ h => Or.inl (Prod.mk.inj (Option.some.inj h)).1.symm
theorem Z01.o (μ : Mem) : Z01 (some (1, μ)) := fun v ξ h => Or.inr (Prod.mk.inj (Option.some.inj h)).1.symm
theorem Z01.bind {α : Type} {x : Option α} {f : α → Option (Int32 × Mem)} (h : ∀ a, Z01 (f a)) : Z01 (x.bind f) := by
  cases x with
  | none => intro v ξ e; cases e
  | some a => exact h a
theorem Z01.ite {p : Prop} [Decidable p] {x y : Option (Int32 × Mem)} (h1 : Z01 x) (h2 : Z01 y) : Z01 (if p then x else y) := by
  split
  · exact h1
  · exact h2
theorem stile01 (a b : Int32) (ν : Mem) : Z01 (fX11_stile 492 a b ν) := by
  unfold fX11_stile
  refine Z01.bind (fun μ1 => Z01.bind (fun p => ?_))
  obtain ⟨r6, μ5⟩ := p
  dsimp only
  refine Z01.ite (Z01.z _) (Z01.bind fun a9 => Z01.bind fun x12 => Z01.ite (Z01.ite (Z01.bind fun q => ?_) (Z01.bind fun r20 => Z01.ite (Z01.bind fun q => ?_) (Z01.bind fun μ29 => Z01.bind fun a32 => Z01.bind fun x35 => Z01.ite (Z01.bind fun _ => Z01.o _) (Z01.bind fun _ => Z01.o _)))) (Z01.ite (Z01.bind fun q => ?_) (Z01.bind fun r20 => Z01.ite (Z01.bind fun q => ?_) (Z01.bind fun μ29 => Z01.bind fun a32 => Z01.bind fun x35 => Z01.ite (Z01.bind fun _ => Z01.o _) (Z01.bind fun _ => Z01.o _)))))
  · obtain ⟨r16, μ15⟩ := q; exact Z01.ite (Z01.o _) (Z01.z _)
  · obtain ⟨r16, μ15⟩ := q; exact Z01.ite (Z01.o _) (Z01.z _)
  · obtain ⟨r16, μ15⟩ := q; exact Z01.ite (Z01.o _) (Z01.z _)
  · obtain ⟨r16, μ15⟩ := q; exact Z01.ite (Z01.o _) (Z01.z _)
section Lw
variable {C : Cel} {G Fd : List Itm} {pc : Nat → Int32} {k : Nat} {r : Row} {μ : Mem}
theorem law_step (ω : Wd) (n : Nat) {v : Int32} (hv : ¬ ((Int32.ofNat ω.L) - (6 : Int32)) < v) (i0 : inb v ω.L = true) (i1 : inb (v + (1 : Int32)) ω.L = true) (i2 : inb (v + (2 : Int32)) ω.L = true) (i3 : inb (v + (3 : Int32)) ω.L = true) (i4 : inb (v + (4 : Int32)) ω.L = true) (i5 : inb (v + (5 : Int32)) ω.L = true) (hI : INV C G Fd pc k r μ) : ∃ ν, IV ν ∧ fL_law_23 ω (n + 1) 0 0 492 518 v μ = fL_law_23 ω n 0 0 492 518 (v + (6 : Int32)) ν := by
  rw [fL_law_23, if_neg hv, if_pos i0, bs]
  generalize ω.xs (ix v) = x0
  by_cases c0 : (x0 &&& (63 : Int32)) = (0 : Int32)
  · rw [if_pos c0]
    obtain ⟨u, ν1, ν2, e1, e2, e3⟩ := qd_feed hI (ω.xs (ix (v + (1 : Int32)))) (ω.xs (ix (v + (2 : Int32)))) (ω.xs (ix (v + (3 : Int32)))) (ω.xs (ix (v + (4 : Int32)))) (ω.xs (ix (v + (5 : Int32))))
    simp only at e1 e2
    refine ⟨ν2, e3, ?_⟩
    simp only [if_pos i1, if_pos i2, if_pos i3, if_pos i4, if_pos i5, bs, e1, e2]
    rw [if_pos trivial]
    rfl
  rw [if_neg c0]
  by_cases c1 : (x0 &&& (63 : Int32)) = (1 : Int32)
  · rw [if_pos c1]
    obtain ⟨kc, ν1, u, ν2, e1, e2, e3, e4, e5⟩ := qa_cellar hI (ω.xs (ix (v + (1 : Int32))))
    simp only at e1 e2
    refine ⟨ν2, e5, ?_⟩
    simp only [if_pos i1, bs, e1, e2]
    rw [if_pos e3]
    by_cases hk : kc = 0
    · rw [if_pos hk, e4 hk, bs, if_pos rfl]
      rfl
    · rw [if_neg hk]
      rfl
  rw [if_neg c1]
  by_cases c2 : (x0 &&& (63 : Int32)) = (2 : Int32)
  · rw [if_pos c2]
    obtain ⟨e1, e2⟩ := fault_ok hI
    refine ⟨_, e2, ?_⟩
    rw [e1, bs]
    simp only
    rw [if_pos trivial]
    rfl
  rw [if_neg c2]
  by_cases c3 : (x0 &&& (63 : Int32)) = (3 : Int32)
  · rw [if_pos c3]
    obtain ⟨kc, ν1, u, ν2, e1, e2, e3, e4, e5⟩ := (qq_count hI (ω.xs (ix (v + (1 : Int32))))).qa
    simp only at e1 e2
    refine ⟨ν2, e5, ?_⟩
    simp only [if_pos i1, bs, e1, e2]
    rw [if_pos e3]
    by_cases hk : kc = 0
    · rw [if_pos hk, e4 hk, bs, if_pos rfl]
      rfl
    · rw [if_neg hk]
      rfl
  rw [if_neg c3]
  by_cases c4 : (x0 &&& (63 : Int32)) = (4 : Int32)
  · rw [if_pos c4]
    obtain ⟨kc, ν1, u, ν2, e1, e2, e3, e4, e5⟩ := (qq_deed hI (ω.xs (ix (v + (1 : Int32)))) (ω.xs (ix (v + (2 : Int32))))).qa
    simp only at e1 e2
    refine ⟨ν2, e5, ?_⟩
    simp only [if_pos i1, if_pos i2, bs, e1, e2]
    rw [if_pos e3]
    by_cases hk : kc = 0
    · rw [if_pos hk, e4 hk, bs, if_pos rfl]
      rfl
    · rw [if_neg hk]
      rfl
  rw [if_neg c4]
  by_cases c5 : (x0 &&& (63 : Int32)) = (5 : Int32)
  · rw [if_pos c5]
    obtain ⟨kc, ν1, u, ν2, e1, e2, e3, e4, e5⟩ := (qq_person hI (ω.xs (ix (v + (1 : Int32)))) (ω.xs (ix (v + (2 : Int32))))).qa
    simp only at e1 e2
    refine ⟨ν2, e5, ?_⟩
    simp only [if_pos i1, if_pos i2, bs, e1, e2]
    rw [if_pos e3]
    by_cases hk : kc = 0
    · rw [if_pos hk, e4 hk, bs, if_pos rfl]
      rfl
    · rw [if_neg hk]
      rfl
  rw [if_neg c5]
  by_cases c6 : (x0 &&& (63 : Int32)) = (6 : Int32)
  · rw [if_pos c6]
    obtain ⟨kc, ν1, u, ν2, e1, e2, e3, e4, e5⟩ := (qq_ink hI (ω.xs (ix (v + (1 : Int32))))).qa
    simp only at e1 e2
    refine ⟨ν2, e5, ?_⟩
    simp only [if_pos i1, bs, e1, e2]
    rw [if_pos e3]
    by_cases hk : kc = 0
    · rw [if_pos hk, e4 hk, bs, if_pos rfl]
      rfl
    · rw [if_neg hk]
      rfl
  rw [if_neg c6]
  by_cases c7 : (x0 &&& (63 : Int32)) = (7 : Int32)
  · rw [if_pos c7]
    obtain ⟨u, ν1, ν2, e1, e2, e3⟩ := qd_days hI (ω.xs (ix (v + (1 : Int32))))
    simp only at e1 e2
    refine ⟨ν2, e3, ?_⟩
    simp only [if_pos i1, bs, e1, e2]
    rw [if_pos trivial]
    rfl
  rw [if_neg c7]
  by_cases c8 : (x0 &&& (63 : Int32)) = (8 : Int32)
  · rw [if_pos c8]
    obtain ⟨kc, ν1, u, ν2, e1, e2, e3, e4, e5⟩ := qa_type hI (ω.xs (ix (v + (1 : Int32)))) (ω.xs (ix (v + (2 : Int32))))
    simp only at e1 e2
    refine ⟨ν2, e5, ?_⟩
    simp only [if_pos i1, if_pos i2, bs, e1, e2]
    rw [if_pos e3]
    by_cases hk : kc = 0
    · rw [if_pos hk, e4 hk, bs, if_pos rfl]
      rfl
    · rw [if_neg hk]
      rfl
  rw [if_neg c8]
  by_cases c9 : (x0 &&& (63 : Int32)) = (9 : Int32)
  · rw [if_pos c9]
    by_cases z : ω.xs (ix (v + (2 : Int32))) = 0
    · obtain ⟨kc, ν1, u, ν2, e1, e2, e3, e4, e5⟩ := qa_stile hI (ω.xs (ix (v + (1 : Int32)))) false
      have e1' : fL_stile 0 (ω.xs (ix (v + (1 : Int32)))) (0 : Int32) 518 μ = some (kc, ν1) := e1
      have e2' : fX11_stile 492 (ω.xs (ix (v + (1 : Int32)))) (0 : Int32) ν1 = some (u, ν2) := e2
      refine ⟨ν2, e5, ?_⟩
      simp only [if_pos i1, if_pos i2, bs, if_pos z, e1', e2']
      rw [if_pos e3]
      by_cases hk : kc = 0
      · rw [if_pos hk, e4 hk, bs]
        rcases stile01 _ _ _ _ _ e2' with rfl | rfl
        · rw [if_pos rfl, if_pos (by decide)]
          rfl
        · rw [if_neg (by decide), if_pos (by decide)]
          rfl
      · rw [if_neg hk]
        rfl
    · obtain ⟨kc, ν1, u, ν2, e1, e2, e3, e4, e5⟩ := qa_stile hI (ω.xs (ix (v + (1 : Int32)))) true
      have e1' : fL_stile 0 (ω.xs (ix (v + (1 : Int32)))) (1 : Int32) 518 μ = some (kc, ν1) := e1
      have e2' : fX11_stile 492 (ω.xs (ix (v + (1 : Int32)))) (1 : Int32) ν1 = some (u, ν2) := e2
      refine ⟨ν2, e5, ?_⟩
      simp only [if_pos i1, if_pos i2, bs, if_neg z, e1', e2']
      rw [if_pos e3]
      by_cases hk : kc = 0
      · rw [if_pos hk, e4 hk, bs]
        rcases stile01 _ _ _ _ _ e2' with rfl | rfl
        · rw [if_pos rfl, if_pos (by decide)]
          rfl
        · rw [if_neg (by decide), if_pos (by decide)]
          rfl
      · rw [if_neg hk]
        rfl
  rw [if_neg c9]
  by_cases c10 : (x0 &&& (63 : Int32)) = (10 : Int32)
  · rw [if_pos c10]
    obtain ⟨kc, ν1, u, ν2, e1, e2, e3, e4, e5⟩ := qa_send hI (ω.xs (ix (v + (1 : Int32)))) (ω.xs (ix (v + (2 : Int32))))
    simp only at e1 e2
    refine ⟨ν2, e5, ?_⟩
    simp only [if_pos i1, if_pos i2, bs, e1, e2]
    rw [if_pos e3]
    by_cases hk : kc = 0
    · rw [if_pos hk, e4 hk, bs, if_pos rfl]
      rfl
    · rw [if_neg hk]
      rfl
  rw [if_neg c10]
  by_cases c11 : (x0 &&& (63 : Int32)) = (11 : Int32)
  · rw [if_pos c11]
    obtain ⟨kc, ν1, u, ν2, e1, e2, e3, e4, e5⟩ := qa_let hI (ω.xs (ix (v + (1 : Int32)))) (ω.xs (ix (v + (2 : Int32))))
    simp only at e1 e2
    refine ⟨ν2, e5, ?_⟩
    simp only [if_pos i1, if_pos i2, bs, e1, e2]
    rw [if_pos e3]
    by_cases hk : kc = 0
    · rw [if_pos hk, e4 hk, bs, if_pos rfl]
      rfl
    · rw [if_neg hk]
      rfl
  rw [if_neg c11]
  by_cases c12 : (x0 &&& (63 : Int32)) = (12 : Int32)
  · rw [if_pos c12]
    obtain ⟨u, ν1, ν2, e1, e2, e3⟩ := qd_undo hI 
    simp only at e1 e2
    refine ⟨ν2, e3, ?_⟩
    simp only [bs, e1, e2]
    rw [if_pos trivial]
    rfl
  rw [if_neg c12]
  by_cases c13 : (x0 &&& (63 : Int32)) = (13 : Int32)
  · rw [if_pos c13]
    obtain ⟨kc, ν1, u, ν2, e1, e2, e3, e4, e5⟩ := (qq_then hI (ω.xs (ix (v + (1 : Int32)))) (ω.xs (ix (v + (2 : Int32)))) (ω.xs (ix (v + (3 : Int32))))).qa
    simp only at e1 e2
    refine ⟨ν2, e5, ?_⟩
    simp only [if_pos i1, if_pos i2, if_pos i3, bs, e1, e2]
    rw [if_pos e3]
    by_cases hk : kc = 0
    · rw [if_pos hk, e4 hk, bs, if_pos rfl]
      rfl
    · rw [if_neg hk]
      rfl
  rw [if_neg c13]
  by_cases c14 : (x0 &&& (63 : Int32)) = (14 : Int32)
  · rw [if_pos c14]
    obtain ⟨kc, ν1, u, ν2, e1, e2, e3, e4, e5⟩ := (qq_comes hI (ω.xs (ix (v + (1 : Int32))))).qa
    simp only at e1 e2
    refine ⟨ν2, e5, ?_⟩
    simp only [if_pos i1, bs, e1, e2]
    rw [if_pos e3]
    by_cases hk : kc = 0
    · rw [if_pos hk, e4 hk, bs, if_pos rfl]
      rfl
    · rw [if_neg hk]
      rfl
  rw [if_neg c14]
  by_cases c15 : (x0 &&& (63 : Int32)) = (15 : Int32)
  · rw [if_pos c15]
    obtain ⟨kc, ν1, u, ν2, e1, e2, e3, e4, e5⟩ := (qq_meet hI (ω.xs (ix (v + (1 : Int32)))) (ω.xs (ix (v + (2 : Int32))))).qa
    simp only at e1 e2
    refine ⟨ν2, e5, ?_⟩
    simp only [if_pos i1, if_pos i2, bs, e1, e2]
    rw [if_pos e3]
    by_cases hk : kc = 0
    · rw [if_pos hk, e4 hk, bs, if_pos rfl]
      rfl
    · rw [if_neg hk]
      rfl
  rw [if_neg c15]
  by_cases c16 : (x0 &&& (63 : Int32)) = (16 : Int32)
  · rw [if_pos c16]
    obtain ⟨kc, ν1, u, ν2, e1, e2, e3, e4, e5⟩ := (qq_later hI (ω.xs (ix (v + (1 : Int32)))) (ω.xs (ix (v + (2 : Int32))))).qa
    simp only at e1 e2
    refine ⟨ν2, e5, ?_⟩
    simp only [if_pos i1, if_pos i2, bs, e1, e2]
    rw [if_pos e3]
    by_cases hk : kc = 0
    · rw [if_pos hk, e4 hk, bs, if_pos rfl]
      rfl
    · rw [if_neg hk]
      rfl
  rw [if_neg c16]
  by_cases c17 : (x0 &&& (63 : Int32)) = (17 : Int32)
  · rw [if_pos c17]
    obtain ⟨kc, ν1, u, ν2, e1, e2, e3, e4, e5⟩ := (qq_clear hI (ω.xs (ix (v + (1 : Int32))))).qa
    simp only at e1 e2
    refine ⟨ν2, e5, ?_⟩
    simp only [if_pos i1, bs, e1, e2]
    rw [if_pos e3]
    by_cases hk : kc = 0
    · rw [if_pos hk, e4 hk, bs, if_pos rfl]
      rfl
    · rw [if_neg hk]
      rfl
  rw [if_neg c17]
  by_cases c18 : (x0 &&& (63 : Int32)) = (18 : Int32)
  · rw [if_pos c18]
    obtain ⟨kc, ν1, u, ν2, e1, e2, e3, e4, e5⟩ := (qq_way hI (ω.xs (ix (v + (1 : Int32)))) (ω.xs (ix (v + (2 : Int32)))) (ω.xs (ix (v + (3 : Int32))))).qa
    simp only at e1 e2
    refine ⟨ν2, e5, ?_⟩
    simp only [if_pos i1, if_pos i2, if_pos i3, bs, e1, e2]
    rw [if_pos e3]
    by_cases hk : kc = 0
    · rw [if_pos hk, e4 hk, bs, if_pos rfl]
      rfl
    · rw [if_neg hk]
      rfl
  rw [if_neg c18]
  by_cases c19 : (x0 &&& (63 : Int32)) = (19 : Int32)
  · rw [if_pos c19]
    obtain ⟨kc, ν1, u, ν2, e1, e2, e3, e4, e5⟩ := (qq_reached hI (ω.xs (ix (v + (1 : Int32)))) (ω.xs (ix (v + (2 : Int32))))).qa
    simp only at e1 e2
    refine ⟨ν2, e5, ?_⟩
    simp only [if_pos i1, if_pos i2, bs, e1, e2]
    rw [if_pos e3]
    by_cases hk : kc = 0
    · rw [if_pos hk, e4 hk, bs, if_pos rfl]
      rfl
    · rw [if_neg hk]
      rfl
  rw [if_neg c19]
  by_cases c20 : (x0 &&& (63 : Int32)) = (20 : Int32)
  · rw [if_pos c20]
    obtain ⟨kc, ν1, u, ν2, e1, e2, e3, e4, e5⟩ := (qq_farthest hI (ω.xs (ix (v + (1 : Int32)))) (ω.xs (ix (v + (2 : Int32))))).qa
    simp only at e1 e2
    refine ⟨ν2, e5, ?_⟩
    simp only [if_pos i1, if_pos i2, bs, e1, e2]
    rw [if_pos e3]
    by_cases hk : kc = 0
    · rw [if_pos hk, e4 hk, bs, if_pos rfl]
      rfl
    · rw [if_neg hk]
      rfl
  rw [if_neg c20]
  by_cases c21 : (x0 &&& (63 : Int32)) = (21 : Int32)
  · rw [if_pos c21]
    obtain ⟨kc, ν1, u, ν2, e1, e2, e3, e4, e5⟩ := (qq_gather hI (ω.xs (ix (v + (1 : Int32))))).qa
    simp only at e1 e2
    refine ⟨ν2, e5, ?_⟩
    simp only [if_pos i1, bs, e1, e2]
    rw [if_pos e3]
    by_cases hk : kc = 0
    · rw [if_pos hk, e4 hk, bs, if_pos rfl]
      rfl
    · rw [if_neg hk]
      rfl
  rw [if_neg c21]
  by_cases c22 : (x0 &&& (63 : Int32)) = (22 : Int32)
  · rw [if_pos c22]
    obtain ⟨kc, ν1, u, ν2, e1, e2, e3, e4, e5⟩ := (qq_errands hI (ω.xs (ix (v + (1 : Int32))))).qa
    simp only at e1 e2
    refine ⟨ν2, e5, ?_⟩
    simp only [if_pos i1, bs, e1, e2]
    rw [if_pos e3]
    by_cases hk : kc = 0
    · rw [if_pos hk, e4 hk, bs, if_pos rfl]
      rfl
    · rw [if_neg hk]
      rfl
  rw [if_neg c22]
  by_cases c23 : (x0 &&& (63 : Int32)) = (23 : Int32)
  · rw [if_pos c23]
    obtain ⟨kc, ν1, u, ν2, e1, e2, e3, e4, e5⟩ := (qq_errand hI (ω.xs (ix (v + (1 : Int32))))).qa
    simp only at e1 e2
    refine ⟨ν2, e5, ?_⟩
    simp only [if_pos i1, bs, e1, e2]
    rw [if_pos e3]
    by_cases hk : kc = 0
    · rw [if_pos hk, e4 hk, bs, if_pos rfl]
      rfl
    · rw [if_neg hk]
      rfl
  rw [if_neg c23]
  by_cases c24 : (x0 &&& (63 : Int32)) = (24 : Int32)
  · rw [if_pos c24]
    obtain ⟨kc, ν1, u, ν2, e1, e2, e3, e4, e5⟩ := qa_see hI (ω.xs (ix (v + (1 : Int32)))) (ω.xs (ix (v + (2 : Int32)))) (ω.xs (ix (v + (3 : Int32))))
    simp only at e1 e2
    refine ⟨ν2, e5, ?_⟩
    simp only [if_pos i1, if_pos i2, if_pos i3, bs, e1, e2]
    rw [if_pos e3]
    by_cases hk : kc = 0
    · rw [if_pos hk, e4 hk, bs, if_pos rfl]
      rfl
    · rw [if_neg hk]
      rfl
  rw [if_neg c24]
  by_cases c25 : (x0 &&& (63 : Int32)) = (25 : Int32)
  · rw [if_pos c25]
    obtain ⟨ν1, ν2, e1, e2, e3⟩ := forget_ok hI
    refine ⟨ν2, e3, ?_⟩
    rw [e1, bs, e2, bs]
    rfl
  rw [if_neg c25]
  by_cases c26 : (x0 &&& (63 : Int32)) = (26 : Int32)
  · rw [if_pos c26]
    obtain ⟨kc, ν1, u, ν2, e1, e2, e3, e4, e5⟩ := (qq_quick hI (ω.xs (ix (v + (1 : Int32))))).qa
    simp only at e1 e2
    refine ⟨ν2, e5, ?_⟩
    simp only [if_pos i1, bs, e1, e2]
    rw [if_pos e3]
    by_cases hk : kc = 0
    · rw [if_pos hk, e4 hk, bs, if_pos rfl]
      rfl
    · rw [if_neg hk]
      rfl
  rw [if_neg c26]
  by_cases c27 : (x0 &&& (63 : Int32)) = (27 : Int32)
  · rw [if_pos c27]
    obtain ⟨kc, ν1, u, ν2, e1, e2, e3, e4, e5⟩ := (qq_look hI (ω.xs (ix (v + (1 : Int32))))).qa
    simp only at e1 e2
    refine ⟨ν2, e5, ?_⟩
    simp only [if_pos i1, bs, e1, e2]
    rw [if_pos e3]
    by_cases hk : kc = 0
    · rw [if_pos hk, e4 hk, bs, if_pos rfl]
      rfl
    · rw [if_neg hk]
      rfl
  rw [if_neg c27]
  by_cases c28 : (x0 &&& (63 : Int32)) = (28 : Int32)
  · rw [if_pos c28]
    obtain ⟨kc, ν1, u, ν2, e1, e2, e3, e4, e5⟩ := (qq_candles hI (ω.xs (ix (v + (1 : Int32)))) (ω.xs (ix (v + (2 : Int32)))) (ω.xs (ix (v + (3 : Int32))))).qa
    simp only at e1 e2
    refine ⟨ν2, e5, ?_⟩
    simp only [if_pos i1, if_pos i2, if_pos i3, bs, e1, e2]
    rw [if_pos e3]
    by_cases hk : kc = 0
    · rw [if_pos hk, e4 hk, bs, if_pos rfl]
      rfl
    · rw [if_neg hk]
      rfl
  rw [if_neg c28]
  by_cases c29 : (x0 &&& (63 : Int32)) = (29 : Int32)
  · rw [if_pos c29]
    obtain ⟨kc, ν1, u, ν2, e1, e2, e3, e4, e5⟩ := (qq_game hI (ω.xs (ix (v + (1 : Int32)))) (ω.xs (ix (v + (2 : Int32)))) (ω.xs (ix (v + (3 : Int32))))).qa
    simp only at e1 e2
    refine ⟨ν2, e5, ?_⟩
    simp only [if_pos i1, if_pos i2, if_pos i3, bs, e1, e2]
    rw [if_pos e3]
    by_cases hk : kc = 0
    · rw [if_pos hk, e4 hk, bs, if_pos rfl]
      rfl
    · rw [if_neg hk]
      rfl
  rw [if_neg c29]
  by_cases c30 : (x0 &&& (63 : Int32)) = (30 : Int32)
  · rw [if_pos c30]
    obtain ⟨kc, ν1, u, ν2, e1, e2, e3, e4, e5⟩ := (qq_years hI (ω.xs (ix (v + (1 : Int32)))) (ω.xs (ix (v + (2 : Int32)))) (ω.xs (ix (v + (3 : Int32))))).qa
    simp only at e1 e2
    refine ⟨ν2, e5, ?_⟩
    simp only [if_pos i1, if_pos i2, if_pos i3, bs, e1, e2]
    rw [if_pos e3]
    by_cases hk : kc = 0
    · rw [if_pos hk, e4 hk, bs, if_pos rfl]
      rfl
    · rw [if_neg hk]
      rfl
  rw [if_neg c30]
  by_cases c31 : (x0 &&& (63 : Int32)) = (31 : Int32)
  · rw [if_pos c31]
    obtain ⟨kc, ν1, u, ν2, e1, e2, e3, e4, e5⟩ := (qq_ahead hI (ω.xs (ix (v + (1 : Int32)))) (ω.xs (ix (v + (2 : Int32))))).qa
    simp only at e1 e2
    refine ⟨ν2, e5, ?_⟩
    simp only [if_pos i1, if_pos i2, bs, e1, e2]
    rw [if_pos e3]
    by_cases hk : kc = 0
    · rw [if_pos hk, e4 hk, bs, if_pos rfl]
      rfl
    · rw [if_neg hk]
      rfl
  rw [if_neg c31]
  by_cases c32 : (x0 &&& (63 : Int32)) = (32 : Int32)
  · rw [if_pos c32]
    obtain ⟨kc, ν1, u, ν2, e1, e2, e3, e4, e5⟩ := (qq_ways hI (ω.xs (ix (v + (1 : Int32)))) (ω.xs (ix (v + (2 : Int32))))).qa
    simp only at e1 e2
    refine ⟨ν2, e5, ?_⟩
    simp only [if_pos i1, if_pos i2, bs, e1, e2]
    rw [if_pos e3]
    by_cases hk : kc = 0
    · rw [if_pos hk, e4 hk, bs, if_pos rfl]
      rfl
    · rw [if_neg hk]
      rfl
  rw [if_neg c32]
  by_cases c33 : (x0 &&& (63 : Int32)) = (33 : Int32)
  · rw [if_pos c33]
    obtain ⟨kc, ν1, u, ν2, e1, e2, e3, e4, e5⟩ := (qq_near hI (ω.xs (ix (v + (1 : Int32))))).qa
    simp only at e1 e2
    refine ⟨ν2, e5, ?_⟩
    simp only [if_pos i1, bs, e1, e2]
    rw [if_pos e3]
    by_cases hk : kc = 0
    · rw [if_pos hk, e4 hk, bs, if_pos rfl]
      rfl
    · rw [if_neg hk]
      rfl
  rw [if_neg c33]
  by_cases c34 : (x0 &&& (63 : Int32)) = (34 : Int32)
  · rw [if_pos c34]
    obtain ⟨kc, ν1, u, ν2, e1, e2, e3, e4, e5⟩ := (qq_gone hI (ω.xs (ix (v + (1 : Int32)))) (ω.xs (ix (v + (2 : Int32))))).qa
    simp only at e1 e2
    refine ⟨ν2, e5, ?_⟩
    simp only [if_pos i1, if_pos i2, bs, e1, e2]
    rw [if_pos e3]
    by_cases hk : kc = 0
    · rw [if_pos hk, e4 hk, bs, if_pos rfl]
      rfl
    · rw [if_neg hk]
      rfl
  rw [if_neg c34]
  by_cases c35 : (x0 &&& (63 : Int32)) = (35 : Int32)
  · rw [if_pos c35]
    obtain ⟨ν1, ν2, e1, e2, e3⟩ := image_ok hI
    refine ⟨ν2, e3, ?_⟩
    rw [e1, bs, e2, bs]
    rfl
  rw [if_neg c35]
  by_cases c36 : (x0 &&& (63 : Int32)) = (36 : Int32)
  · rw [if_pos c36]
    obtain ⟨u, ν1, ν2, e1, e2, e3⟩ := qd_restore hI 
    simp only at e1 e2
    refine ⟨ν2, e3, ?_⟩
    simp only [bs, e1, e2]
    rw [if_pos trivial]
    rfl
  rw [if_neg c36]
  exact ⟨μ, ⟨C, G, Fd, pc, k, r, hI⟩, rfl⟩
end Lw
