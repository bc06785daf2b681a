/-! CALLS: quick -/
section Qk
variable {C : Cel} {G Fd : List Itm} {pc : Nat → Int32} {k : Nat} {r : Row} {μ : Mem}
def F4 (μ ν : Mem) : Prop := FR μ ν ∧ ν.2.1 492 0 = μ.2.1 492 0 ∧ ν.2.1 492 41 = μ.2.1 492 41 ∧ ν.2.1 492 45 = μ.2.1 492 45
theorem F4.refl (μ : Mem) : F4 μ μ := ⟨FR.refl μ, rfl, rfl, rfl⟩
theorem F4.trans {μ ν ξ : Mem} (h : F4 μ ν) (h' : F4 ν ξ) : F4 μ ξ := ⟨h.1.trans h'.1, h'.2.1.trans h.2.1, h'.2.2.1.trans h.2.2.1, h'.2.2.2.trans h.2.2.2⟩
theorem RD.F4 {μ ν : Mem} (h : RD 79 μ ν) : F4 μ ν := ⟨h.fr, h.f4.1, h.f4.2.1, h.f4.2.2⟩
theorem F4.ag {μ ν : Mem} (h : F4 μ ν) : AG μ ν := h.1.ag h.2.2.1 h.2.2.2
theorem F4.c {μ : Mem} {a : Nat} (g : Row) (h : a ∈ LR) (h1 : a ≠ 492) (h2 : a ≠ 502) : F4 μ (sC μ a g) := ⟨FR.c g h h1 h2, by rw [sC_n _ _ (Ne.symm h1)], by rw [sC_n _ _ (Ne.symm h1)], by rw [sC_n _ _ (Ne.symm h1)]⟩
theorem F4.row {μ : Mem} {j : Nat} (v : Int32) (h : 79 ≤ j) : F4 μ (sC μ 502 (up (μ.2.1 502) j v)) := ⟨FR.row v h, by rw [sC_n _ _ (by decide)], by rw [sC_n _ _ (by decide)], by rw [sC_n _ _ (by decide)]⟩
theorem RQ.f4 {μ ν ξ : Mem} {val : Int32} (t1 : FR μ ν) (t2 : ν.2.1 492 0 = 0) (t3 : ν.2.1 492 41 = μ.2.1 492 41) (t4 : ν.2.1 492 45 = μ.2.1 492 45) (d : F4 ν ξ) : RQ (some (val, ξ)) μ 0 val :=
  ⟨val, ξ, rfl, t1.trans d.1, d.2.2.1.trans t3, d.2.2.2.trans t4, d.2.1.trans t2, fun _ => rfl⟩
theorem RR.c {dk : Nat → Bool} {n : Nat} {ν : Mem} {a : Nat} (h : RR C G Fd dk r n ν) (g : Row) (ha : a ∈ LR) (h1 : a ≠ 492) (h2 : a ≠ 502) : RR C G Fd dk r n (sC ν a g) := by
  have hf : FR ν (sC ν a g) := FR.c g ha h1 h2
  refine ⟨hf.rc h.1, hf.rk h.2.1, by rw [sC_n _ _ (Ne.symm h1)]; exact h.2.2.1, ?_⟩
  intro j hj
  rw [← h.2.2.2 j hj]
  show (sC ν a g).2.1 502 (79 + j) = _
  rw [sC_n _ _ (Ne.symm h2)]
  rfl
def F5 (μ ν : Mem) : Prop := F4 μ ν ∧ ν.2.1 514 = μ.2.1 514
theorem F5.refl (μ : Mem) : F5 μ μ := ⟨F4.refl μ, rfl⟩
theorem F5.trans {μ ν ξ : Mem} (h : F5 μ ν) (h' : F5 ν ξ) : F5 μ ξ := ⟨h.1.trans h'.1, h'.2.trans h.2⟩
theorem RD.F5 {μ ν : Mem} (h : RD 79 μ ν) : F5 μ ν := ⟨h.F4, h.1.2.2.1 514 (by decide)⟩
theorem seen10 {n : Nat} {W D B : Nat → Nat} {N : Mem} (hC : C.ok) (hG : Gr N) (hN : SN C n W D B N) {d : Nat} (hd : d < 1000) (K : Nat → Int32 → Mem → Option (Int32 × Mem)) : ∀ i m j, i + j = n → i < m → (∀ i, i < j → B i = d → rwb N 79 (55 + W i) / 8 = I (D i)) →
    fX11_isSeen_10 K m 492 (I d) (I j) N = if agR n W D B (rwb N 79) d = true then (if d = 4 then fX11_isSeen_80 K fuel 492 (I d) 0 N else (fX11_dayGoes 492 79 N).bind fun μ22 => K 492 (I (d + 1)) μ22) else some (0, N) := by
  have hP := hC.2.1
  obtain ⟨h1, h2, h3, h4⟩ := hN
  intro i
  induction i with
  | zero =>
    intro m j hj hm hok
    obtain ⟨m, rfl⟩ : ∃ n, m = n + 1 := ⟨m - 1, by omega⟩
    obtain rfl : j = n := by omega
    rw [fX11_isSeen_10, h3, if_neg (show ¬ I j < I j by rw [I_lt (by omega) (by omega)]; omega), if_pos (show agR j W D B (rwb N 79) d = true from decide_eq_true hok)]
    by_cases q : d = 4
    · rw [if_pos q, if_pos (show I d = (4 : Int32) by rw [I_eql (by omega) (by decide)]; exact q)]
    · rw [if_neg q, if_neg (show ¬ I d = (4 : Int32) from fun t => q (by rw [I_eql (by omega) (by decide)] at t; exact t)), I_addl]
  | succ i ih =>
    intro m j hj hm hok
    obtain ⟨m, rfl⟩ : ∃ n, m = n + 1 := ⟨m - 1, by omega⟩
    obtain ⟨a1, a2, a3, _, _, _, a7, a8, a9⟩ := h4 j (by omega)
    rw [fX11_isSeen_10, h3, if_pos (show I j < I n from (I_lt (by omega) (by omega)).mpr (by omega))]
    simp (disch := omega) only [g_492_50 hG, g_492_34 hG, bs, l_mulI, I_addl, ld_512, a7, a8, a9, l_addI, ld_502, I_inj]
    by_cases q : B j = d
    · rw [if_pos q]
      by_cases q2 : rwb N 79 (55 + W j) / 8 = I (D j)
      · rw [if_pos (show N.2.1 502 (134 + W j) / 8 = I (D j) by
          rw [show 134 + W j = 79 + (55 + W j) by omega]; exact q2)]
        refine ih m (j + 1) (by omega) (by omega) ?_
        intro i' hi' hb
        by_cases e : i' = j
        · subst e; exact q2
        · exact hok i' (by omega) hb
      · rw [if_neg (show ¬ N.2.1 502 (134 + W j) / 8 = I (D j) by
          rw [show 134 + W j = 79 + (55 + W j) by omega]; exact q2), if_neg]
        intro t
        exact q2 (of_decide_eq_true t j (by omega) q)
    · rw [if_neg q]
      refine ih m (j + 1) (by omega) (by omega) ?_
      intro i' hi' hb
      by_cases e : i' = j
      · subst e; exact absurd hb q
      · exact hok i' (by omega) hb
theorem seen80 {N : Mem} (hR : RC C N) {d : Nat} (K : Nat → Int32 → Mem → Option (Int32 × Mem)) : ∃ g : Row, fX11_isSeen_80 K fuel 492 (I d) 0 N = ((fX11_dayGoes 492 79 (sC N 513 g)).bind fun μ13 => K 492 (I (d + 1)) μ13) ∧ ∀ p, p < C.P → g p = rwb N 79 (55 + p) := by
  have hP := hR.2.1.2.1
  have hG := hR.1
  obtain ⟨⟨j, g⟩, e, i1, i2⟩ := loop_k (S := Nat × Row) (R := Option (Int32 × Mem))
    (fun m s => fX11_isSeen_80 K m 492 (I d) (I s.1) (sC N 513 s.2)) (fun s => (fX11_dayGoes 492 79 (sC N 513 s.2)).bind fun μ13 => K 492 (I (d + 1)) μ13) C.P
    (fun j s => s.1 = j ∧ ∀ p, p < j → s.2 p = rwb N 79 (55 + p))
    (by
      rintro m j ⟨j', g⟩ hj ⟨i1, i2⟩
      simp only at i1 i2
      subst i1
      refine ⟨(j' + 1, up g j' (rwb N 79 (55 + j'))), ?_, rfl, ?_⟩
      · show fX11_isSeen_80 K (m + 1) 492 (I d) (I j') (sC N 513 g) = fX11_isSeen_80 K m 492 (I d) (I (j' + 1)) (sC N 513 (up g j' (rwb N 79 (55 + j'))))
        rw [fX11_isSeen_80, sC_n _ _ (by decide), hR.2.2.2.1, if_pos (show I j' < I C.P from (I_lt (by omega) (by omega)).mpr hj)]
        simp (disch := omega) only [gC, g_492_51 hG, g_492_34 hG, bs, l_addI, ld_502, st_513, I_addl, sC_C, sC_s, sC_row, reduceIte, Nat.reduceEqDiff]
        rw [show 134 + j' = 79 + (55 + j') by omega]
        rfl
      · intro p hp
        show up g j' _ p = _
        by_cases e : p = j'
        · subst e; rw [up_s]
        · rw [up_n _ _ e]; exact i2 p (by omega))
    (by
      rintro m ⟨j', g⟩ ⟨i1, i2⟩
      simp only at i1
      subst i1
      show fX11_isSeen_80 K (m + 1) 492 (I d) (I C.P) (sC N 513 g) = _
      rw [fX11_isSeen_80, sC_n _ _ (by decide), hR.2.2.2.1, if_neg (show ¬ I C.P < I C.P by rw [I_lt (by omega) (by omega)]; omega)]
      simp only [I_addl])
    C.P fuel 0 (0, N.2.1 513) rfl (by unfold fuel; omega) ⟨rfl, fun p hp => absurd hp (Nat.not_lt_zero p)⟩
  simp only [sC_same] at e
  exact ⟨g, e, i2⟩
theorem isSeen_R {n : Nat} {W D B : Nat → Nat} {r' : Row} {ν : Mem} (hr' : RowOK C r') (hN : SN C n W D B ν) (h45 : ν.2.1 492 45 = 0) (hR : RR C G Fd dk0 r' 0 ν) :
    ∃ ξ, fX11_isSeen 492 ν = some (if seenS C G Fd n W D B r' = true then 1 else 0, ξ) ∧ F5 ν ξ ∧ (seenS C G Fd n W D B r' = true → ∀ p, p < C.P → ξ.2.1 513 p = dN C G Fd dk0 r' 4 (55 + p)) := by
  have hC := hR.1.2.1
  have hP := hC.2.1
  unfold fX11_isSeen
  have key := loop_ok (S := Nat × Mem) (R := Int32 × Mem) (fun m s => fX11_isSeen_2 m 492 (I s.1) s.2) 21
    (fun j s => s.1 = j ∧ F5 ν s.2 ∧ RR C G Fd dk0 r' j s.2 ∧ (∀ d, d < j → agR n W D B (dN C G Fd dk0 r' d) d = true) ∧ (4 < j → ∀ p, p < C.P → s.2.2.1 513 p = dN C G Fd dk0 r' 4 (55 + p)))
    (fun q => ∃ ξ, q = (if seenS C G Fd n W D B r' = true then 1 else 0, ξ) ∧ F5 ν ξ ∧ (seenS C G Fd n W D B r' = true → ∀ p, p < C.P → ξ.2.1 513 p = dN C G Fd dk0 r' 4 (55 + p))) ?_ ?_ 21 fuel 0 (0, ν) rfl (by unfold fuel; omega) ⟨rfl, F5.refl ν, hR, fun d hd => absurd hd (Nat.not_lt_zero d), fun h => absurd h (Nat.not_lt_zero 4)⟩
  · obtain ⟨q, e, ξ, rfl, h⟩ := key
    exact ⟨ξ, e, h⟩
  · rintro m j ⟨j', N⟩ hj ⟨i1, i2, i3, i4, i5⟩
    simp only at i1 i2 i3 i4 i5
    subst i1
    have hNN := hN.q i2.1.ag
    show Ok (fX11_isSeen_2 (m + 1) 492 (I j') N) _ ∨ ∃ s', fX11_isSeen_2 (m + 1) 492 (I j') N = _ ∧ _
    rw [fX11_isSeen_2, if_neg (show ¬ (20 : Int32) < I j' by rw [l_ltI (by omega) (by decide)]; omega)]
    have e10 := seen10 hC i3.1.1 hNN (d := j') (by omega) (fX11_isSeen_2 m) n fuel 0 rfl (by have := hNN.1; unfold fuel; omega) (fun i hi => absurd hi (Nat.not_lt_zero i))
    rw [show fX11_isSeen_10 (fX11_isSeen_2 m) fuel 492 (I j') 0 N = _ from e10]
    have hag : agR n W D B (rwb N 79) j' = agR n W D B (dN C G Fd dk0 r' j') j' := agR_congr (fun i hi => by
      have := (hNN.2.2.2 i hi).1
      exact i3.2.2.2 (55 + W i) (by omega))
    rw [hag]
    by_cases q : agR n W D B (dN C G Fd dk0 r' j') j' = true
    · rw [if_pos q]
      right
      have hall : ∀ d, d < j' + 1 → agR n W D B (dN C G Fd dk0 r' d) d = true := by
        intro d hd
        by_cases e : d = j'
        · subst e; exact q
        · exact i4 d (by omega)
      by_cases q4 : j' = 4
      · rw [if_pos q4]
        obtain ⟨g, e80, hg⟩ := seen80 i3.1 (d := j') (fX11_isSeen_2 m)
        rw [e80]
        obtain ⟨ξ, e3, h3, h4, _⟩ := (i3.c (a := 513) g (by decide) (by decide) (by decide)).day hr' (by rw [sC_n _ _ (by decide), i2.1.2.2.2, h45]; rfl)
        rw [e3, bs]
        refine ⟨(j' + 1, ξ), rfl, rfl, i2.trans (F5.trans ⟨F4.c g (by decide) (by decide) (by decide), sC_n _ _ (by decide)⟩ h3.F5), h4, hall, ?_⟩
        intro _ p hp
        show ξ.2.1 513 p = _
        rw [h3.1.2.2.1 513 (by decide), sC_s, hg p hp, i3.2.2.2 (55 + p) (by omega), q4]
      · rw [if_neg q4]
        obtain ⟨ξ, e3, h3, h4, _⟩ := i3.day hr' (by rw [i2.1.2.2.2, h45]; rfl)
        rw [e3, bs]
        refine ⟨(j' + 1, ξ), rfl, rfl, i2.trans h3.F5, h4, hall, ?_⟩
        intro h p hp
        show ξ.2.1 513 p = _
        rw [h3.1.2.2.1 513 (by decide)]
        exact i5 (by omega) p hp
    · rw [if_neg q]
      left
      have hns : ¬ seenS C G Fd n W D B r' = true := fun t => q (seenS_iff.mp t j' (by omega))
      refine Ok.s ⟨N, by rw [if_neg hns], i2, fun t => absurd t hns⟩
  · rintro m ⟨j', N⟩ ⟨i1, i2, i3, i4, i5⟩
    simp only at i1 i2 i3 i4 i5
    subst i1
    have hs : seenS C G Fd n W D B r' = true := seenS_iff.mpr i4
    show Ok (fX11_isSeen_2 (m + 1) 492 (I 21) N) _
    rw [fX11_isSeen_2, if_pos (by decide)]
    refine Ok.s ⟨N, by rw [if_pos hs], i2, fun _ => i5 (by omega)⟩
/-- a guess that is another one and that all that was seen agrees with -/
noncomputable def gsS (C : Cel) (G Fd : List Itm) (n : Nat) (W D B : Nat → Nat) (r : Row) (g : Nat) : Bool := if r (73 + g / 10) = I (g % 10) then false else seenS C G Fd n W D B (up r (73 + g / 10) (I (g % 10)))
theorem rowOK_pac {p : Nat} {v : Int32} (hC : C.ok) (h : RowOK C r) : RowOK C (up r (73 + p) v) := h.congr (fun k _ hk => (up_n _ _ (by omega)).symm) hC
theorem inkOK_pac {p : Nat} {v : Int32} (h : InkOK C r) : InkOK C (up r (73 + p) v) := h.congr (fun k _ hk => up_n _ _ (by omega))
theorem isGuess_R (hI : INV C G Fd pc k r μ) {n : Nat} {W D B : Nat → Nat} (hN : SN C n W D B μ) {ν : Mem} (hF : FR μ ν) (h41 : ν.2.1 492 41 = μ.2.1 492 41) (h45 : ν.2.1 492 45 = μ.2.1 492 45) {g : Nat} (hg : g < 10 * C.P) :
    ∃ ξ, fX11_isGuess 492 (I g) ν = some (if gsS C G Fd n W D B r g = true then 1 else 0, ξ) ∧ F5 ν ξ ∧ (gsS C G Fd n W D B r g = true → ∀ p, p < C.P → ξ.2.1 513 p = dN C G Fd dk0 (up r (73 + g / 10) (I (g % 10))) 4 (55 + p)) := by
  have hC := hI.2.1
  have hP := hC.2.1
  have hr := hI.2.2.2.2.2.2.2.2.1
  have hGν := hF.gr hI.1
  have hrow : ν.2.1 502 (73 + g / 10) = r (73 + g / 10) := by
    rw [hF.2.2.2.2 _ (by omega)]
    have := hI.2.2.2.2.2.2.2.2.2.2.1 (73 + g / 10) (by omega)
    rw [← this]
    show _ = μ.2.1 502 (0 + (73 + g / 10))
    rw [Nat.zero_add]
  unfold fX11_isGuess gsS
  simp (disch := omega) only [g_492_34 hGν, bs, I_divl, l_addI, I_addl, ld_502, I_md, hrow]
  by_cases q : r (73 + g / 10) = I (g % 10)
  · rw [if_pos q, if_pos q]
    exact ⟨ν, rfl, F5.refl ν, fun t => absurd t (by simp)⟩
  · rw [if_neg q, if_neg q]
    obtain ⟨M, e, m1, m2⟩ := tried hI dk0 hF h41
    rw [e, bs, g_492_34 m2.1.1, bs, st_502 (by omega), bs]
    have hF4 : F4 ν (sC M 502 (up (M.2.1 502) (152 + g / 10) (I (g % 10)))) := m1.F4.trans (F4.row _ (by omega))
    have hR' : RR C G Fd dk0 (up r (73 + g / 10) (I (g % 10))) 0 (sC M 502 (up (M.2.1 502) (152 + g / 10) (I (g % 10)))) := by
      refine ⟨(F4.row (μ := M) _ (by omega)).1.rc m2.1, (F4.row (μ := M) _ (by omega)).1.rk m2.2.1, by rw [sC_n _ _ (by decide)]; exact m2.2.2.1, ?_⟩
      intro j hj
      show (sC M 502 _).2.1 502 (79 + j) = up r (73 + g / 10) (I (g % 10)) j
      rw [sC_s]
      by_cases e : j = 73 + g / 10
      · rw [show 79 + j = 152 + g / 10 by omega, up_s, e, up_s]
      · rw [up_n _ _ (by omega), up_n _ _ e]
        exact m2.2.2.2 j hj
    obtain ⟨ξ, e3, h3, h4⟩ := isSeen_R (rowOK_pac hC hr.1) (hN.q ((hF.ag h41 h45).trans hF4.ag)) (by rw [hF4.2.2.2, h45]; exact hI.dk) hR'
    rw [e3, bs]
    exact ⟨ξ, rfl, F5.trans ⟨hF4, (sC_n _ _ (by decide)).trans m1.F5.2⟩ h3, h4⟩
/-- the first of them -/
noncomputable def fstG (f : Nat → Bool) : Nat → Int32
  | 0 => -1
  | m + 1 => if cnt f m = 0 ∧ f m = true then I m else fstG f m
theorem fstG_s (f : Nat → Bool) (m : Nat) : fstG f (m + 1) = if cnt f m = 0 ∧ f m = true then I m else fstG f m := rfl
theorem cnt_s (f : Nat → Bool) (m : Nat) : cnt f (m + 1) = cnt f m + if f m = true then 1 else 0 := rfl
theorem fstG_m1 (f : Nat → Bool) : ∀ m, m < 1000 → (fstG f m = -1 ↔ cnt f m = 0) := by
  intro m
  induction m with
  | zero => intro _; exact ⟨fun _ => rfl, fun _ => rfl⟩
  | succ m ih =>
    intro hm
    have := ih (by omega)
    rw [fstG_s, cnt_s]
    by_cases q : f m = true
    · rw [if_pos q]
      by_cases z : cnt f m = 0
      · rw [if_pos ⟨z, q⟩]
        exact ⟨fun t => absurd t (I_m1 (by omega)), fun t => by omega⟩
      · rw [if_neg (fun t => z t.1), this]
        exact ⟨fun t => absurd t z, fun t => by omega⟩
    · rw [if_neg q, if_neg (fun t => q t.2), this, Nat.add_zero]
noncomputable def valQ (C : Cel) (G Fd : List Itm) (n : Nat) (W D B : Nat → Nat) (r : Row) (a : Int32) : Int32 :=
  if a = 2 then (if seenS C G Fd n W D B r = true then 1 else 0) else if a = 0 then I (cnt (gsS C G Fd n W D B r) (10 * C.P)) else fstG (gsS C G Fd n W D B r) (10 * C.P)
theorem r_quick (hI : INV C G Fd pc k r μ) {n : Nat} {W D B : Nat → Nat} (hN : SN C n W D B μ) (a : Int32) : RQ (fX11_quick 492 a μ) μ (if okW a 3 = true then 0 else 1) (valQ C G Fd n W D B r a) := by
  have hC := hI.2.1
  have hP := hC.2.1
  have hr := hI.2.2.2.2.2.2.2.2.1
  obtain ⟨t1, t2, t3, t4⟩ := thr0 μ
  have hR0 := t1.rc hI.2.2.2.2.2.2.1
  unfold fX11_quick valQ
  rw [bs, sI_C, show fX11_isWhat 492 a (2 : Int32) (thr μ 0) = _ from isWhat_ok (m := 2) t2 a (by decide)]
  by_cases h2 : okW a 3 = true
  · rw [if_pos h2, if_pos h2, bs]
    simp only
    rw [if_neg (by decide)]
    by_cases a2 : a = 2
    · rw [if_pos a2, if_pos a2]
      obtain ⟨M, e, m1, m2⟩ := tried hI dk0 t1 t3
      rw [e, bs]
      obtain ⟨ξ, e3, h3, h4⟩ := isSeen_R hr.1 (hN.q ((t1.ag t3 t4).trans m1.F4.ag)) (by rw [m1.F4.2.2.2, t4]; exact hI.dk) m2
      rw [e3, bs]
      by_cases s : seenS C G Fd n W D B r = true
      · simp only [if_pos s]
        rw [if_neg (by decide)]
        exact RQ.f4 t1 t2 t3 t4 (m1.F4.trans h3.1)
      · simp only [if_neg s]
        rw [if_pos trivial]
        exact RQ.f4 t1 t2 t3 t4 (m1.F4.trans h3.1)
    · rw [if_neg a2, if_neg a2]
      obtain ⟨⟨j, N⟩, e, i1, i2⟩ := loop_k (S := Nat × Mem) (R := Option (Int32 × Mem))
        (fun m s => fX11_quick_45 m 492 a (I (cnt (gsS C G Fd n W D B r) s.1)) (fstG (gsS C G Fd n W D B r) s.1) (I s.1) s.2)
        (fun s => some (if a = 0 then I (cnt (gsS C G Fd n W D B r) s.1) else fstG (gsS C G Fd n W D B r) s.1, s.2)) (10 * C.P)
        (fun j s => s.1 = j ∧ F4 (thr μ 0) s.2)
        (by
          rintro m j ⟨j', N⟩ hj ⟨i1, i2⟩
          simp only at i1 i2
          subst i1
          have hRN := i2.1.rc hR0
          obtain ⟨ξ, e3, h3, _⟩ := isGuess_R hI hN (t1.trans i2.1) (i2.2.2.1.trans t3) (i2.2.2.2.trans t4) hj
          have hc := cnt_le (gsS C G Fd n W D B r) j'
          refine ⟨(j' + 1, ξ), ?_, rfl, i2.trans h3.1⟩
          show fX11_quick_45 (m + 1) 492 a (I (cnt (gsS C G Fd n W D B r) j')) (fstG (gsS C G Fd n W D B r) j') (I j') N = fX11_quick_45 m 492 a (I (cnt (gsS C G Fd n W D B r) (j' + 1))) (fstG (gsS C G Fd n W D B r) (j' + 1)) (I (j' + 1)) ξ
          rw [fX11_quick_45, hRN.2.2.2.1, l_mulI, if_pos (show I j' < I (10 * C.P) from (I_lt (by omega) (by omega)).mpr hj), e3, bs]
          rw [fstG_s, cnt_s]
          by_cases s : gsS C G Fd n W D B r j' = true
          · simp only [if_pos s, I_addl]
            rw [if_neg (by decide)]
            by_cases z : cnt (gsS C G Fd n W D B r) j' = 0
            · rw [if_pos ((fstG_m1 _ j' (by omega)).mpr z), if_pos ⟨z, s⟩]
            · rw [if_neg (show ¬ fstG (gsS C G Fd n W D B r) j' = -1 from fun t => z ((fstG_m1 _ j' (by omega)).mp t)), if_neg (fun t => z t.1)]
          · simp only [if_neg s, I_addl, Nat.add_zero]
            rw [if_pos trivial, if_neg (fun t => s t.2)])
        (by
          rintro m ⟨j', N⟩ ⟨i1, i2⟩
          simp only at i1 i2
          subst i1
          have hRN := i2.1.rc hR0
          show fX11_quick_45 (m + 1) 492 a _ _ (I (10 * C.P)) N = _
          rw [fX11_quick_45, hRN.2.2.2.1, l_mulI, if_neg (show ¬ I (10 * C.P) < I (10 * C.P) by rw [I_lt (by omega) (by omega)]; omega)]
          by_cases a0 : a = 0
          · rw [if_pos a0]; simp only [if_pos a0]
          · rw [if_neg a0]; simp only [if_neg a0])
        (10 * C.P) fuel 0 (0, thr μ 0) rfl (by unfold fuel; omega) ⟨rfl, F4.refl _⟩
      simp only at i1 i2 e
      rw [show fX11_quick_45 fuel 492 a (0 : Int32) (-1) (0 : Int32) (thr μ 0) = _ from e, i1]
      exact RQ.f4 t1 t2 t3 t4 i2
  · rw [if_neg h2, if_neg h2, bs]
    simp only [if_true]
    exact RQ.no (by decide) t1 t3 t4
theorem isSeenWith_C (hI : INV C G Fd pc k r μ) {n : Nat} {W D B : Nat → Nat} {ν : Mem} (hF : FrB LC L2C μ ν) (hN : SN C n W D B μ) {p : Nat} (hp : p < C.P) (v : Int32) :
    ∃ ξ, fX10_isSeenWith 0 (I p) v ν = some (if seenS C G Fd n W D B (up r (73 + p) v) = true then 1 else 0, ξ) ∧ FrB Lr L2p ν ξ := by
  have hC := hI.2.1
  have hP := hC.2.1
  have hr := hI.2.2.2.2.2.2.2.2.1
  have hIν := hI.q hF.ag
  obtain ⟨Z, e, hZ⟩ := hIν.beg dk0
  have hGZ := hZ.1.gr hIν.1
  unfold fX10_isSeenWith fX10_beginWith
  rw [g_0_14 hIν.1, bs, hIν.cel, bs, g_0_7 hIν.1, bs, e, bs, if_neg (I_neg (by omega)), if_pos (show I p < (6 : Int32) by rw [I_ltl (by omega) (by decide)]; omega), g_0_14 hGZ, bs, g_455_2 hGZ, bs, st_464 (by omega), bs, bs]
  exact seen_C hI hF hN (rowOK_pac hC hr.1) (inkOK_pac hr.2.1) (hZ.pac hC hp v)
theorem isSeenNow_C (hI : INV C G Fd pc k r μ) {n : Nat} {W D B : Nat → Nat} (hN : SN C n W D B μ) :
    ∃ ξ, fX10_isSeenWith 0 (-1) 0 μ = some (if seenS C G Fd n W D B r = true then 1 else 0, ξ) ∧ FrB Lr L2p μ ξ := by
  have hr := hI.2.2.2.2.2.2.2.2.1
  obtain ⟨Z, e, hZ⟩ := hI.beg dk0
  unfold fX10_isSeenWith fX10_beginWith
  rw [g_0_14 hI.1, bs, hI.cel, bs, g_0_7 hI.1, bs, e, bs, if_pos (by decide), bs]
  exact seen_C hI (FrB.refl _ _ μ) hN hr.1 hr.2.1 hZ
theorem pace_C (hI : INV C G Fd pc k r μ) {p : Nat} (hp : p < C.P) : gR μ k 4 0 = some (k + 2) ∧ ldI μ (k + 2) (I p) = some (r (73 + p)) := by
  have hP := hI.2.1.2.1
  obtain ⟨_, c4, _⟩ := cel_g hI.1 hI.2.2.1
  obtain ⟨_, k2, _⟩ := cel_k hI.2.2.1
  refine ⟨c4, ?_⟩
  rw [ldI_I k2 (by omega) (by omega), hI.2.2.2.2.2.1.2.2.2.2.1 p hp, hI.2.2.2.2.2.2.2.2.1.2.2.1 p hp]
theorem c_quick (hI : INV C G Fd pc k r μ) {n : Nat} {W D B : Nat → Nat} (hN : SN C n W D B μ) (a : Int32) : CQ (fX10_quick 0 a μ) μ (if okW a 3 = true then 0 else 1) (valQ C G Fd n W D B r a) := by
  have hC := hI.2.1
  have hP := hC.2.1
  unfold fX10_quick valQ
  rw [show fX10_needWhat 0 a (3 : Int32) = _ from needW_ok a 3, bs]
  by_cases h2 : okW a 3 = true
  · rw [if_pos h2, if_pos h2]
    simp only
    by_cases a2 : a = 2
    · rw [if_pos a2, if_pos a2]
      obtain ⟨ξ, e, hF⟩ := isSeenNow_C hI hN
      refine ⟨ξ, hF.mono Lr_LC.1 Lr_LC.2, Or.inl ⟨rfl, ?_⟩⟩
      rw [e, bs]
      by_cases s : seenS C G Fd n W D B r = true
      · simp only [if_pos s]
        rw [if_neg (by decide)]
      · simp only [if_neg s]
        rw [if_pos trivial]
    · rw [if_neg a2, if_neg a2]
      have hin : ∀ (K : Nat → Int32 → Int32 → Int32 → Int32 → Mem → Option ((Int32 ⊕ Nat) × Mem)) (p : Nat) (M : Mem), p < C.P → FrB LC L2C μ M → ∃ M', fX10_quick_48 K fuel 0 a (I (cnt (gsS C G Fd n W D B r) (10 * p))) (fstG (gsS C G Fd n W D B r) (10 * p)) (I p) 0 M = K 0 a (I (cnt (gsS C G Fd n W D B r) (10 * (p + 1)))) (fstG (gsS C G Fd n W D B r) (10 * (p + 1))) (I (p + 1)) M' ∧ FrB LC L2C μ M' := by
        intro K p M hp hM
        obtain ⟨⟨j, N⟩, e, i1, i2⟩ := loop_k (S := Nat × Mem) (R := Option ((Int32 ⊕ Nat) × Mem))
          (fun m s => fX10_quick_48 K m 0 a (I (cnt (gsS C G Fd n W D B r) (10 * p + s.1))) (fstG (gsS C G Fd n W D B r) (10 * p + s.1)) (I p) (I s.1) s.2)
          (fun s => K 0 a (I (cnt (gsS C G Fd n W D B r) (10 * p + s.1))) (fstG (gsS C G Fd n W D B r) (10 * p + s.1)) (I (p + 1)) s.2) 10
          (fun j s => s.1 = j ∧ FrB LC L2C μ s.2)
          (by
            rintro m j ⟨j', N⟩ hj ⟨i1, i2⟩
            simp only at i1 i2
            subst i1
            have hIN := hI.q i2.ag
            obtain ⟨p1, p2⟩ := pace_C hIN hp
            have hc := cnt_le (gsS C G Fd n W D B r) (10 * p + j')
            have hgs : gsS C G Fd n W D B r (10 * p + j') = if r (73 + p) = I j' then false else seenS C G Fd n W D B (up r (73 + p) (I j')) := by
              unfold gsS
              rw [show (10 * p + j') / 10 = p by omega, show (10 * p + j') % 10 = j' by omega]
            have hcs : cnt (gsS C G Fd n W D B r) (10 * p + (j' + 1)) = cnt (gsS C G Fd n W D B r) (10 * p + j') + if gsS C G Fd n W D B r (10 * p + j') = true then 1 else 0 := by
              show cnt (gsS C G Fd n W D B r) ((10 * p + j') + 1) = _
              rw [cnt]
            have hfs : fstG (gsS C G Fd n W D B r) (10 * p + (j' + 1)) = if cnt (gsS C G Fd n W D B r) (10 * p + j') = 0 ∧ gsS C G Fd n W D B r (10 * p + j') = true then I (10 * p + j') else fstG (gsS C G Fd n W D B r) (10 * p + j') := rfl
            show ∃ s', fX10_quick_48 K (m + 1) 0 a (I (cnt (gsS C G Fd n W D B r) (10 * p + j'))) (fstG (gsS C G Fd n W D B r) (10 * p + j')) (I p) (I j') N = _ ∧ _
            rw [fX10_quick_48, if_neg (show ¬ (9 : Int32) < I j' by rw [l_ltI (by omega) (by decide)]; omega), hIN.cel, bs, p1, bs, p2, bs]
            by_cases q : r (73 + p) = I j'
            · rw [if_pos q] at hgs
              rw [if_neg (by rw [hgs]; decide), Nat.add_zero] at hcs
              rw [if_neg (by rw [hgs]; exact fun t => absurd t.2 (by decide))] at hfs
              refine ⟨(j' + 1, N), ?_, rfl, i2⟩
              simp only [hcs, hfs, Nat.add_zero]
              rw [if_pos q.symm, I_addl]
            · rw [if_neg q] at hgs
              obtain ⟨ξ, e3, h3⟩ := isSeenWith_C hI i2 hN hp (I j')
              refine ⟨(j' + 1, ξ), ?_, rfl, i2.trans (h3.mono Lr_LC.1 Lr_LC.2)⟩
              simp only [hcs, hfs]
              rw [if_neg (fun t => q t.symm), e3, bs, ← hgs]
              by_cases s : gsS C G Fd n W D B r (10 * p + j') = true
              · simp only [if_pos s, I_addl]
                rw [if_neg (by decide)]
                by_cases z : cnt (gsS C G Fd n W D B r) (10 * p + j') = 0
                · rw [if_pos (by rw [z]; rfl), if_pos ⟨z, s⟩]
                  rw [l_mulI, I_add]
                · rw [if_neg (show ¬ I (cnt (gsS C G Fd n W D B r) (10 * p + j')) = 0 from fun t => z (by rw [I_eql (by omega) (by decide)] at t; exact t)), if_neg (fun t => z t.1)]
              · simp only [if_neg s, I_addl, Nat.add_zero]
                rw [if_pos trivial, if_neg (fun t => s t.2)])
          (by
            rintro m ⟨j', N⟩ ⟨i1, i2⟩
            simp only at i1 i2
            subst i1
            show fX10_quick_48 K (m + 1) 0 a _ _ (I p) (I 10) N = _
            rw [fX10_quick_48, if_pos (by decide), I_addl])
          10 fuel 0 (0, M) rfl (by unfold fuel; omega) ⟨rfl, hM⟩
        simp only at i1 i2 e
        refine ⟨N, ?_, i2⟩
        rw [i1] at e
        exact e
      obtain ⟨⟨j, N⟩, e, i1, i2⟩ := loop_k (S := Nat × Mem) (R := Option ((Int32 ⊕ Nat) × Mem))
        (fun m s => fX10_quick_33 m 0 a (I (cnt (gsS C G Fd n W D B r) (10 * s.1))) (fstG (gsS C G Fd n W D B r) (10 * s.1)) (I s.1) s.2)
        (fun s => some (.inl (if a = 0 then I (cnt (gsS C G Fd n W D B r) (10 * s.1)) else fstG (gsS C G Fd n W D B r) (10 * s.1)), s.2)) C.P
        (fun j s => s.1 = j ∧ FrB LC L2C μ s.2)
        (by
          rintro m j ⟨j', N⟩ hj ⟨i1, i2⟩
          simp only at i1 i2
          subst i1
          have hIN := hI.q i2.ag
          obtain ⟨M', e, hM'⟩ := hin (fX10_quick_33 m) j' N hj i2
          refine ⟨(j' + 1, M'), ?_, rfl, hM'⟩
          show fX10_quick_33 (m + 1) 0 a _ _ (I j') N = _
          rw [fX10_quick_33, hIN.cel, bs, hIN.2.2.2.2.2.1.2.1, if_pos (show I j' < I C.P from (I_lt (by omega) (by omega)).mpr hj)]
          exact e)
        (by
          rintro m ⟨j', N⟩ ⟨i1, i2⟩
          simp only at i1 i2
          subst i1
          have hIN := hI.q i2.ag
          show fX10_quick_33 (m + 1) 0 a _ _ (I C.P) N = _
          rw [fX10_quick_33, hIN.cel, bs, hIN.2.2.2.2.2.1.2.1, if_neg (show ¬ I C.P < I C.P by rw [I_lt (by omega) (by omega)]; omega)]
          by_cases a0 : a = 0
          · rw [if_pos a0]; simp only [if_pos a0]
          · rw [if_neg a0]; simp only [if_neg a0])
        C.P fuel 0 (0, μ) rfl (by unfold fuel; omega) ⟨rfl, FrB.refl _ _ μ⟩
      simp only at i1 i2 e
      refine ⟨N, i2, Or.inl ⟨rfl, ?_⟩⟩
      rw [i1] at e
      exact e
  · rw [if_neg h2, if_neg h2]
    exact ⟨μ, FrB.refl _ _ μ, Or.inr (Or.inl ⟨rfl, rfl⟩)⟩
theorem qq_quick (hI : INV C G Fd pc k r μ) (a : Int32) : QQ C G Fd pc k r (fun μ => fL_quick 0 a 518 μ) (fun ν => fX11_quick 492 a ν) μ := by
  obtain ⟨n, W, D, B, hN⟩ := hI.sn
  refine QQ.mkA hI (c_quick hI hN a) (by split <;> decide) ?_ ?_ (fun ν h hA => r_quick h (hN.q hA) a)
  · intro v ν e
    show fL_quick 0 a 518 μ = _
    unfold fL_quick
    rw [e, bs]
    simp only
    rw [show stL ν 518 (0 : Int32) v.toInt64 = _ from stL_I (n := 0) kd518 (by omega) (by omega), bs]
  · intro ν e
    show fL_quick 0 a 518 μ = _
    unfold fL_quick
    rw [e, bs]
    rfl
end Qk
