/-! EXPRESSIONS: the class's stack -/
theorem evc_loop {μ : Mem} {v0 st row vv sz nv : Nat} {vals : Nat → Int32} (g0 : gR μ v0 0 0 = some row) (g2 : gR μ v0 2 0 = some st) (k1 : kd row = (0, 700)) (k2 : kd st = (0, 64)) (kv : kd vv = (0, 6)) (n1 : row ≠ st) (n2 : v0 ≠ st) (n3 : vv ≠ st) (hsz : μ.2.1 v0 1 = I sz) (hs7 : sz ≤ 700) (hnv : nv ≤ 6) (hvals : ∀ w, w < nv → μ.2.1 vv w = vals w) :
    ∀ (l : List Itm) (i h : Nat) (g : Nat → Int32) (n : Nat), i + l.length = sz → l.length < n → Rit (μ.2.1 row) i l → (∀ t ∈ l, iok nv t) → Hok l h 1 → h ≤ 64 →
    fX7_evaluate_4 n v0 vv (I h) (I i) (sC μ st g) = some ((evS vals l (g, h)).1 0, sC μ st (evS vals l (g, h)).1) := by
  intro l
  induction l with
  | nil =>
    intro i h g n hi hn _ _ hh _
    obtain ⟨n, rfl⟩ : ∃ m, n = m + 1 := ⟨n - 1, by omega⟩
    have hh' : h = 1 := hh
    subst hh'
    have hi' : i = sz := hi
    rw [fX7_evaluate_4]
    have e1 : (sC μ st g).2.1 v0 1 = I sz := by rw [sC_n μ g n2]; exact hsz
    rw [e1, if_neg (show ¬ I i < I sz by rw [I_lt (by omega) (by omega)]; omega), if_pos (show (0 : Int32) < I 1 by decide)]
    simp only [gC, g2, bs]
    rw [show ldI (sC μ st g) st (0 : Int32) = _ from ldI_I (n := 0) k2 (by omega) (by omega), Option.bind_some, sC_s]
    rfl
  | cons t l ih =>
    intro i h g n hi hn hr ho hh h64
    obtain ⟨n, rfl⟩ : ∃ m, n = m + 1 := ⟨n - 1, by omega⟩
    obtain ⟨r1, r2⟩ := hr
    obtain ⟨h1, h2⟩ := hh
    have ht := ho t (List.mem_cons_self ..)
    have ho' : ∀ t' ∈ l, iok nv t' := fun t' ht' => ho t' (List.mem_cons_of_mem _ ht')
    have hl : i + 1 + l.length = sz := by rw [← hi, List.length_cons]; omega
    have hln : l.length < n := by rw [List.length_cons] at hn; omega
    have e1 : (sC μ st g).2.1 v0 1 = I sz := by rw [sC_n μ g n2]; exact hsz
    have e2 : ldI (sC μ st g) row (I i) = some (ecl t) := by
      rw [ldI_I k1 (by omega) (by omega), sC_n μ g n1, r1]
    rw [fX7_evaluate_4]
    rw [e1, if_pos (show I i < I sz by rw [I_lt (by omega) (by omega)]; omega)]
    simp only [gC, g0, g2, bs, e2]
    obtain ⟨k, v⟩ := t
    rcases ht with ⟨q, hv⟩ | ⟨q, hv⟩ | q | ⟨q, hv⟩
    · simp only at q hv; subst q
      have h1' : h < 64 := h1
      have h2' : Hok l (h + 1) 1 := h2
      rw [show ecl (0, v) = I v from rfl, if_pos (m10_lt (by omega)), k2]
      rw [if_pos (show I h < Int32.ofNat 64 from (I_lt (by omega) (by omega)).mpr h1'), if_neg (I_neg (by omega)), stI_I k2 h1' (by omega), Option.bind_some, sC_s, sC_C, I_addl, I_addl]
      rw [evS_c, ev1_0]
      exact ih (i + 1) (h + 1) (up g h (I v)) n hl hln r2 ho' h2' (by omega)
    · simp only at q hv; subst q
      have h1' : h < 64 := h1
      have h2' : Hok l (h + 1) 1 := h2
      obtain ⟨w1, w2, w3⟩ := val_w ⟨v, by omega⟩
      simp only at w1 w2 w3
      rw [show ecl (1, v) = -1 - I v from rfl, if_pos w1, k2]
      rw [if_pos (show I h < Int32.ofNat 64 from (I_lt (by omega) (by omega)).mpr h1'), if_pos w2, w3]
      have ev : fX7_valueOf vv (I v) (sC μ st g) = some (vals v) := by
        unfold fX7_valueOf
        rw [kv, if_pos (show I v < Int32.ofNat 6 from (I_lt (by omega) (by omega)).mpr (by omega)), ldI_I kv (by omega) (by omega), Option.bind_some, sC_n μ g n3, hvals v hv]
      rw [ev, Option.bind_some, stI_I k2 h1' (by omega), Option.bind_some, sC_s, sC_C, I_addl, I_addl]
      rw [evS_c, ev1_1]
      exact ih (i + 1) (h + 1) (up g h (vals v)) n hl hln r2 ho' h2' (by omega)
    · simp only at q; subst q
      have h1' : 1 ≤ h := h1
      have h2' : Hok l h 1 := h2
      rw [show ecl (2, v) = -10 from rfl, if_neg (by decide), if_pos rfl, if_neg (show ¬ I h < (1 : Int32) by rw [I_ltl (by omega) (by omega)]; omega), I_subl (by omega), ldI_I k2 (by omega) (by omega), Option.bind_some, sC_s]
      have goal := ih (i + 1) h (up g (h - 1) (if g (h - 1) = 0 then 1 else 0)) n hl hln r2 ho' h2' h64
      by_cases hz : g (h - 1) = 0
      · rw [if_pos hz] at goal ⊢
        rw [stI_I k2 (by omega) (by omega), Option.bind_some, sC_s, sC_C, I_addl, goal, evS_c, ev1_2, if_pos hz]
      · rw [if_neg hz] at goal ⊢
        rw [stI_I k2 (by omega) (by omega), Option.bind_some, sC_s, sC_C, I_addl, goal, evS_c, ev1_2, if_neg hz]
    · simp only at q hv; subst q
      have h1' : 2 ≤ h := h1
      have h2' : Hok l (h - 1) 1 := h2
      obtain ⟨w1, w2⟩ := op_w ⟨v, hv⟩
      simp only at w1 w2
      rw [show ecl (3, v) = -11 - I v from rfl, if_neg w1, if_neg w2, if_neg (show ¬ I h < (2 : Int32) by rw [I_ltl (by omega) (by omega)]; omega), I_dec (by omega), I_subl (by omega), ldI_I k2 (by omega) (by omega), Option.bind_some, ldI_I k2 (by omega) (by omega), Option.bind_some, sC_s, joined_ok hv, Option.bind_some, stI_I k2 (by omega) (by omega), Option.bind_some, sC_s, sC_C, I_addl]
      rw [evS_c, ev1_3, Nat.sub_sub]
      exact ih (i + 1) (h - 1) (up g (h - 2) (jn v (g (h - 2)) (g (h - 1)))) n hl hln r2 ho' h2' (by omega)
theorem evaluate_ok {μ : Mem} {v0 st row vv nv : Nat} {vals : Nat → Int32} {l : List Itm} (g0 : gR μ v0 0 0 = some row) (g2 : gR μ v0 2 0 = some st) (k1 : kd row = (0, 700)) (k2 : kd st = (0, 64)) (kv : kd vv = (0, 6)) (n1 : row ≠ st) (n2 : v0 ≠ st) (n3 : vv ≠ st) (hsz : μ.2.1 v0 1 = I l.length) (hs7 : l.length ≤ 700) (hnv : nv ≤ 6) (hvals : ∀ w, w < nv → μ.2.1 vv w = vals w) (hr : Rit (μ.2.1 row) 0 l) (ho : ∀ t ∈ l, iok nv t) (hh : Hok l 0 1) :
    ∃ G, fX7_evaluate v0 vv μ = some (evV vals l, sC μ st G) := by
  have e := evc_loop g0 g2 k1 k2 kv n1 n2 n3 hsz hs7 hnv hvals l 0 0 (μ.2.1 st) fuel (by omega) (by unfold fuel; omega) hr ho hh (by omega)
  rw [sC_same, evS_V (μ.2.1 st) ho hh] at e
  exact ⟨_, e⟩
