/-! THE LAW HOLDS -/
theorem start_ok : ∃ μ : Mem, fpre mem0 = some (0, 492, 518, μ) ∧ μ.1 = NN ∧ IV μ := by
  obtain ⟨μ, e, h1, h2⟩ := pre_ok
  refine ⟨μ, e, h1, ?_⟩
  have h := chkS_ok
  unfold chkS at h
  rw [e] at h
  simp only [Bool.and_eq_true, beq_iff_eq, List.all_eq_true] at h
  obtain ⟨⟨⟨⟨hs, h02⟩, l3⟩, l331⟩, l332⟩ := h
  have hG : Gr μ := ⟨h1, fun x hx => h2 x (List.mem_filter.mp hx).1⟩
  have i : ∀ c f v, (c, f, v) ∈ sInts → μ.2.1 c f = v := fun c f v hm => hs (c, f, v) hm
  have m6 : ∀ d : Fin 6, (4, d.1, (0 : Int32)) ∈ sInts ∧ (35, d.1, (-1 : Int32)) ∈ sInts ∧ (36, d.1, (-1 : Int32)) ∈ sInts ∧ (37, d.1, (0 : Int32)) ∈ sInts := by decide +kernel
  have m3 : ∀ d : Fin 3, (2, d.1, (0 : Int32)) ∈ sInts ∧ (496, d.1, (0 : Int32)) ∈ sInts := by decide +kernel
  have m48 : ∀ d : Fin 48, (34, d.1, (0 : Int32)) ∈ sInts := by decide +kernel
  have m79 : ∀ d : Fin 79, (502, d.1, (0 : Int32)) ∈ sInts := by decide +kernel
  have g4 : μ.2.2.2 0 4 = some 3 := h2 (0, 4, 3) (by decide +kernel)
  have g5 : μ.2.2.2 0 5 = some 17 := h2 (0, 5, 17) (by decide +kernel)
  have hA := AI0 (fun _ => 0)
  have cok : ∀ nv, Cok nv [] := fun nv => ⟨fun t ht => absurd ht List.not_mem_nil, Nat.zero_le _, fun h => absurd rfl h⟩
  refine ⟨C00, [], [], fun _ => 0, 3, r00, hG, hA.1, Or.inl rfl, g4, g5, ⟨?_, ?_, ?_, ?_, ?_, ?_, trivial, ?_, trivial, cok 6, cok 5⟩, ⟨hG, hA.1, ?_, ?_, fun d hd => absurd hd (Nat.not_lt_zero d)⟩, ⟨Or.inl ⟨rfl, ?_⟩, Or.inl ⟨rfl, ?_⟩, cok 6, cok 5⟩, hA.2.1, ⟨?_, ?_, ?_, ?_, ?_, ?_, ?_⟩, ?_, ⟨0, 0, by omega, by omega, ?_, ?_, ?_, fun i hi => absurd hi (Nat.not_lt_zero i)⟩, ⟨0, by omega, ?_, ?_, fun i hi => absurd hi (Nat.not_lt_zero i)⟩, Or.inl ⟨?_, ?_⟩, ⟨0, by omega, ?_, ?_, fun i hi => absurd hi (Nat.not_lt_zero i)⟩, h02, ?_, ?_, ?_⟩
  · exact i 3 0 0 (by decide +kernel)
  · exact i 3 1 0 (by decide +kernel)
  · intro x; rw [l3, mb0, there0]
  · intro d hd
    rw [if_neg (show ¬ d < C00.D from Nat.not_lt_zero d)]
    exact i 4 d 0 (m6 ⟨d, hd⟩).1
  · intro p hp; exact absurd hp (Nat.not_lt_zero p)
  · exact i 6 1 0 (by decide +kernel)
  · exact i 9 1 0 (by decide +kernel)
  · exact i 492 1 0 (by decide +kernel)
  · exact i 492 2 0 (by decide +kernel)
  · exact i 492 3 (-1) (by decide +kernel)
  · exact i 492 4 (-1) (by decide +kernel)
  · exact i 33 0 0 (by decide +kernel)
  · intro x
    rw [l331, mb0]
    unfold wh
    rw [there0, Bool.false_and]
  · intro x; rw [l332, mb0, stl0]
  · intro x hx; exact i 34 x 0 (m48 ⟨x, hx⟩)
  · intro p hp
    rw [if_neg (show ¬ p < C00.P from Nat.not_lt_zero p)]
    exact i 35 p (-1) (m6 ⟨p, hp⟩).2.1
  · intro p hp
    rw [if_neg (show ¬ p < C00.P from Nat.not_lt_zero p)]
    exact i 36 p (-1) (m6 ⟨p, hp⟩).2.2.1
  · intro p hp
    rw [if_neg (show ¬ p < C00.P from Nat.not_lt_zero p)]
    exact i 37 p 0 (m6 ⟨p, hp⟩).2.2.2
  · intro j hj
    unfold rwb
    rw [Nat.zero_add]
    exact i 502 j 0 (m79 ⟨j, hj⟩)
  · exact i 38 0 0 (by decide +kernel)
  · exact i 38 1 0 (by decide +kernel)
  · exact i 492 36 0 (by decide +kernel)
  · exact i 240 0 0 (by decide +kernel)
  · exact i 492 49 0 (by decide +kernel)
  · exact i 0 10 0 (by decide +kernel)
  · exact i 492 54 0 (by decide +kernel)
  · exact i 0 1 0 (by decide +kernel)
  · exact i 492 8 0 (by decide +kernel)
  · intro j hj
    rw [i 2 j 0 (m3 ⟨j, hj⟩).1, i 496 j 0 (m3 ⟨j, hj⟩).2]
  · exact i 492 41 (-1) (by decide +kernel)
  · exact i 492 45 0 (by decide +kernel)
theorem law_loop (ω : Wd) (h6 : 6 ≤ ω.L) (hL : ω.L ≤ 3072) : ∀ f t n μ, ω.L < 6 * t + 6 + 6 * f → f < n → 6 * t ≤ ω.L → IV μ → ∃ ν, fL_law_23 ω n 0 0 492 518 (I (6 * t)) μ = some (1, ν) := by
  have e6 : Int32.ofNat ω.L - (6 : Int32) = I (ω.L - 6) := I_sub (n := ω.L) (m := 6) h6
  intro f
  induction f with
  | zero =>
    intro t n μ h1 h2 h3 hI
    obtain ⟨n, rfl⟩ : ∃ z, n = z + 1 := ⟨n - 1, by omega⟩
    refine ⟨μ, ?_⟩
    rw [fL_law_23, e6, if_pos (show I (ω.L - 6) < I (6 * t) by rw [I_lt (by omega) (by omega)]; omega)]
  | succ f ih =>
    intro t n μ h1 h2 h3 hI
    obtain ⟨n, rfl⟩ : ∃ z, n = z + 1 := ⟨n - 1, by omega⟩
    by_cases hl : ω.L < 6 * t + 6
    · refine ⟨μ, ?_⟩
      rw [fL_law_23, e6, if_pos (show I (ω.L - 6) < I (6 * t) by rw [I_lt (by omega) (by omega)]; omega)]
    · obtain ⟨C, G, Fd, pc, k, r, hI⟩ := hI
      have ib : ∀ a, a < 6 → inb (I (6 * t + a)) ω.L = true := fun a ha => by rw [inb_I (by omega)]; exact decide_eq_true (by omega)
      have ad : ∀ a : Nat, I (6 * t) + I a = I (6 * t + a) := fun a => I_add _ _
      obtain ⟨ν, hν, e⟩ := law_step ω n (v := I (6 * t)) (by rw [e6, I_lt (by omega) (by omega)]; omega) (ib 0 (by omega)) (by rw [show I (6 * t) + (1 : Int32) = I (6 * t + 1) from ad 1]; exact ib 1 (by omega)) (by rw [show I (6 * t) + (2 : Int32) = I (6 * t + 2) from ad 2]; exact ib 2 (by omega)) (by rw [show I (6 * t) + (3 : Int32) = I (6 * t + 3) from ad 3]; exact ib 3 (by omega)) (by rw [show I (6 * t) + (4 : Int32) = I (6 * t + 4) from ad 4]; exact ib 4 (by omega)) (by rw [show I (6 * t) + (5 : Int32) = I (6 * t + 5) from ad 5]; exact ib 5 (by omega)) hI
      obtain ⟨ξ, e2⟩ := ih (t + 1) n ν (by omega) (by omega) (by omega) hν
      refine ⟨ξ, e.trans ?_⟩
      rw [show I (6 * t) + (6 : Int32) = I (6 * (t + 1)) from (ad 6).trans (by rw [show 6 * t + 6 = 6 * (t + 1) by omega])]
      exact e2
theorem law_ok : LawOK := by
  intro ω hL
  obtain ⟨μ, e, h1, hI⟩ := start_ok
  by_cases h6 : 6 ≤ ω.L
  · obtain ⟨ν, e2⟩ := law_loop ω h6 hL 512 0 fuel μ (by omega) (by unfold fuel; omega) (by omega) hI
    exact ⟨(0, 492, 518, μ), ν, e, h1, e2⟩
  · refine ⟨(0, 492, 518, μ), μ, e, h1, ?_⟩
    have hlt : ∀ L : Fin 6, (Int32.ofNat L.1 - (6 : Int32)) < (0 : Int32) := by decide +kernel
    show fL_law_23 ω (4999 + 1) 0 0 492 518 0 μ = some (1, μ)
    rw [fL_law_23, if_pos (hlt ⟨ω.L, by omega⟩)]
