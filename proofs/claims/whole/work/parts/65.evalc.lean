/-! EXPRESSIONS: the reference's pile -/
theorem evr_loop {μ : Mem} (hG : Gr μ) {vm : Nat → Nat} {nv : Nat} {vals : Nat → Int32} (hvals : ∀ w, w < nv → vm w < 9 ∧ μ.2.1 504 (vm w) = vals w) :
    ∀ (l : List Itm) (k h : Nat) (g : Nat → Int32) (n : Nat), l.length < n → RCd (μ.2.1 494) vm k l → (∀ t ∈ l, iok nv t) → Hok l h 1 → h ≤ 64 →
    fX11_reckons_4 n 492 (I h) (I k) (sC μ 505 g) = some ((evS vals l (g, h)).1 0, sC μ 505 (evS vals l (g, h)).1) := by
  intro l
  induction l with
  | nil =>
    intro k h g n hn hr _ hh _
    obtain ⟨n, rfl⟩ : ∃ m, n = m + 1 := ⟨n - 1, by omega⟩
    have hh' : h = 1 := hh
    subst hh'
    obtain ⟨r1, r2⟩ := hr
    rw [fX11_reckons_4]
    simp (disch := omega) only [gC, g_492_6 hG, g_492_38 hG, bs, ld_494]
    rw [sC_n μ g (by decide), r2, if_pos rfl, show ldI (sC μ 505 g) 505 (0 : Int32) = _ from ld_505 (n := 0) (by omega), Option.bind_some, sC_s]
    rfl
  | cons t l ih =>
    intro k h g n hn hr ho hh h64
    obtain ⟨n, rfl⟩ : ∃ m, n = m + 1 := ⟨n - 1, by omega⟩
    obtain ⟨h1, h2⟩ := hh
    have ht := ho t (List.mem_cons_self ..)
    have ho' : ∀ t' ∈ l, iok nv t' := fun t' ht' => ho t' (List.mem_cons_of_mem _ ht')
    have hln : l.length < n := by rw [List.length_cons] at hn; omega
    obtain ⟨kk, v⟩ := t
    rw [fX11_reckons_4]
    rcases ht with ⟨q, hv⟩ | ⟨q, hv⟩ | q | ⟨q, hv⟩
    · simp only at q hv; subst q
      obtain ⟨r0, r1, r2, r3⟩ := hr
      have h1' : h < 64 := h1
      have h2' : Hok l (h + 1) 1 := h2
      simp (disch := omega) only [gC, g_492_6 hG, g_492_38 hG, bs, ld_494]
      rw [sC_n μ g (by decide), r1, if_neg (by decide), if_pos rfl, if_pos rfl, I_addl, ld_494 (by omega), Option.bind_some, sC_n μ g (by decide), r2, st_505 (by omega), Option.bind_some, sC_s, sC_C, I_addl, I_addl]
      rw [evS_c, ev1_0]
      exact ih (k + 2) (h + 1) (up g h (I v)) n hln r3 ho' h2' (by omega)
    · simp only at q hv; subst q
      obtain ⟨r0, r1, r2, r3⟩ := hr
      have h1' : h < 64 := h1
      have h2' : Hok l (h + 1) 1 := h2
      obtain ⟨w1, w2⟩ := hvals v hv
      simp (disch := omega) only [gC, g_492_6 hG, g_492_37 hG, g_492_38 hG, bs, ld_494]
      rw [sC_n μ g (by decide), r1, if_neg (by decide), if_neg (by decide), if_pos rfl, if_neg (by decide), I_addl, ld_494 (by omega), Option.bind_some, sC_n μ g (by decide), r2, ld_504 (by omega), Option.bind_some, sC_n μ g (by decide), w2, st_505 (by omega), Option.bind_some, sC_s, sC_C, I_addl, I_addl]
      rw [evS_c, ev1_1]
      exact ih (k + 2) (h + 1) (up g h (vals v)) n hln r3 ho' h2' (by omega)
    · simp only at q; subst q
      obtain ⟨r0, r1, r3⟩ := hr
      have h1' : 1 ≤ h := h1
      have h2' : Hok l h 1 := h2
      simp (disch := omega) only [gC, g_492_6 hG, g_492_38 hG, bs, ld_494]
      rw [sC_n μ g (by decide), r1, if_neg (by decide), if_neg (by decide), if_neg (by decide), if_pos rfl, I_subl (by omega), ld_505 (by omega), Option.bind_some, sC_s]
      have goal := ih (k + 1) h (up g (h - 1) (if g (h - 1) = 0 then 1 else 0)) n hln r3 ho' h2' h64
      by_cases hz : g (h - 1) = 0
      · rw [if_pos hz] at goal ⊢
        rw [st_505 (by omega), Option.bind_some, sC_s, sC_C, I_addl, goal, evS_c, ev1_2, if_pos hz]
      · rw [if_neg hz] at goal ⊢
        rw [st_505 (by omega), Option.bind_some, sC_s, sC_C, I_addl, goal, evS_c, ev1_2, if_neg hz]
    · simp only at q hv; subst q
      obtain ⟨r0, r1, r3⟩ := hr
      have h1' : 2 ≤ h := h1
      have h2' : Hok l (h - 1) 1 := h2
      obtain ⟨w1, w2, w3, w4⟩ := om_w ⟨v, hv⟩
      simp only at w1 w2 w3 w4
      simp (disch := omega) only [gC, g_492_6 hG, g_492_38 hG, bs, ld_494]
      rw [sC_n μ g (by decide), r1, if_neg w1, if_neg w2, if_neg w3, if_neg w4, I_dec (by omega), I_subl (by omega), ld_505 (by omega), Option.bind_some, ld_505 (by omega), Option.bind_some, sC_s, works_ok hv, Option.bind_some, st_505 (by omega), Option.bind_some, sC_s, sC_C, I_addl]
      rw [evS_c, ev1_3, Nat.sub_sub]
      exact ih (k + 1) (h - 1) (up g (h - 2) (jn v (g (h - 2)) (g (h - 1)))) n hln r3 ho' h2' (by omega)
theorem reckons_ok {μ : Mem} (hG : Gr μ) {vm : Nat → Nat} {nv : Nat} {vals : Nat → Int32} (hvals : ∀ w, w < nv → vm w < 9 ∧ μ.2.1 504 (vm w) = vals w) {l : List Itm} {k : Nat} (hl : l.length < 5000) (hr : RCd (μ.2.1 494) vm k l) (ho : ∀ t ∈ l, iok nv t) (hh : Hok l 0 1) :
    ∃ G, fX11_reckons 492 (I k) μ = some (evV vals l, sC μ 505 G) := by
  have e := evr_loop hG hvals l k 0 (μ.2.1 505) fuel hl hr ho hh (by omega)
  rw [sC_same, evS_V (μ.2.1 505) ho hh] at e
  exact ⟨_, e⟩
