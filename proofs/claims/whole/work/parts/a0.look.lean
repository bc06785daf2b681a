/-! CALLS: look -/
def exB (f : Nat → Nat) : Nat → Nat → Bool
  | 0, _ => false
  | m + 1, x => exB f m x || decide (f m = x)
def dct (f : Nat → Nat) : Nat → Nat
  | 0 => 0
  | m + 1 => dct f m + if exB f m (f m) = true then 0 else 1
theorem exB_s (f : Nat → Nat) (m x : Nat) : exB f (m + 1) x = (exB f m x || decide (f m = x)) := rfl
theorem dct_s (f : Nat → Nat) (m : Nat) : dct f (m + 1) = dct f m + if exB f m (f m) = true then 0 else 1 := rfl
theorem dct_le (f : Nat → Nat) : ∀ m, dct f m ≤ m := by
  intro m
  induction m with
  | zero => exact Nat.le_refl 0
  | succ m ih => rw [dct_s]; split <;> omega
theorem dct_eq {f : Nat → Nat} : ∀ m, (∀ i, i < m → f i < 64) → dct f m = cnt (exB f m) 64 := by
  intro m
  induction m with
  | zero =>
    intro _
    exact (cnt_0 (fun x _ => rfl)).symm
  | succ m ih =>
    intro h
    have h1 := ih (fun i hi => h i (by omega))
    have h2 := h m (by omega)
    rw [dct_s]
    by_cases q : exB f m (f m) = true
    · rw [if_pos q, Nat.add_zero, h1]
      apply cnt_congr
      intro x _
      rw [exB_s]
      by_cases e : f m = x
      · subst e; rw [q]; rfl
      · rw [decide_eq_false e, Bool.or_false]
    · rw [if_neg q, h1]
      have q' : exB f m (f m) = false := by
        cases z : exB f m (f m)
        · rfl
        · exact absurd z q
      refine (cnt_up h2 q' (by rw [exB_s, decide_eq_true rfl, Bool.or_true]) ?_).symm
      intro x _ hx
      rw [exB_s, decide_eq_false (fun e => hx e.symm), Bool.or_false]
theorem exB_congr {f g : Nat → Nat} : ∀ m x, (∀ i, i < m → f i = g i) → exB f m x = exB g m x := by
  intro m x
  induction m with
  | zero => intro _; rfl
  | succ m ih => intro h; rw [exB_s, exB_s, ih (fun i hi => h i (by omega)), h m (by omega)]
/-- whom to look for: the first with the most -/
def mstL (c : Nat → Nat) : Nat → Int32 × Nat
  | 0 => (-1, 0)
  | q + 1 => if (mstL c q).2 < c q then (I q, c q) else mstL c q
theorem mstL_s (c : Nat → Nat) (q : Nat) : mstL c (q + 1) = if (mstL c q).2 < c q then (I q, c q) else mstL c q := rfl
theorem mstL_le (c : Nat → Nat) (b : Nat) : ∀ q, (∀ i, i < q → c i ≤ b) → (mstL c q).2 ≤ b := by
  intro q
  induction q with
  | zero => intro _; exact Nat.zero_le b
  | succ q ih =>
    intro h
    rw [mstL_s]
    by_cases e : (mstL c q).2 < c q
    · rw [if_pos e]; exact h q (by omega)
    · rw [if_neg e]; exact ih (fun i hi => h i (by omega))
theorem mstL_congr {c c' : Nat → Nat} : ∀ q, (∀ i, i < q → c i = c' i) → mstL c q = mstL c' q := by
  intro q
  induction q with
  | zero => intro _; rfl
  | succ q ih => intro h; rw [mstL_s, mstL_s, ih (fun i hi => h i (by omega)), h q (by omega)]
section Lk
variable {C : Cel} {G Fd : List Itm} {pc : Nat → Int32} {k : Nat} {r : Row} {μ : Mem}
noncomputable def plG (C : Cel) (G Fd : List Itm) (r : Row) (g q : Nat) : Nat := ix (dN C G Fd dk0 (up r (73 + g / 10) (I (g % 10))) 4 (55 + q))
noncomputable def LK (C : Cel) (G Fd : List Itm) (n : Nat) (W D B : Nat → Nat) (r : Row) : Nat → Nat → Nat → Bool
  | 0, _, _ => false
  | j + 1, q, x => LK C G Fd n W D B r j q x || (gsS C G Fd n W D B r j && decide (plG C G Fd r j q = x))
theorem LK_s {n : Nat} {W D B : Nat → Nat} (j q x : Nat) : LK C G Fd n W D B r (j + 1) q x = (LK C G Fd n W D B r j q x || (gsS C G Fd n W D B r j && decide (plG C G Fd r j q = x))) := rfl
noncomputable def lkc (C : Cel) (G Fd : List Itm) (n : Nat) (W D B : Nat → Nat) (r : Row) (q : Nat) : Nat := cnt (LK C G Fd n W D B r (10 * C.P) q) 64
noncomputable def valLk (C : Cel) (G Fd : List Itm) (n : Nat) (W D B : Nat → Nat) (r : Row) (a : Int32) : Int32 := if a = 0 then (mstL (lkc C G Fd n W D B r) C.P).1 else I (mstL (lkc C G Fd n W D B r) C.P).2
theorem plG_ok (hC : C.ok) (hr : RowOK C r) (g : Nat) {q : Nat} (hq : q < C.P) : dN C G Fd dk0 (up r (73 + g / 10) (I (g % 10))) 4 (55 + q) = I (plG C G Fd r g q) ∧ plG C G Fd r g q < 48 := by
  obtain ⟨x, e, hx⟩ := (dN_ok (G := G) (Fd := Fd) (dk := dk0) hC (rowOK_pac (p := g / 10) (v := I (g % 10)) hC hr) 4).2.1 q hq
  have hx48 : x < 48 := by
    have := (there_iff.mp hx).1
    have := hC.1
    omega
  unfold plG
  rw [e, ix_I (by omega)]
  exact ⟨rfl, hx48⟩
theorem look123 {f : Nat → Nat} {N : Mem} (hG : Gr N) {q m0 : Nat} (hq : q < 6) (hm0 : m0 ≤ 60) (hf : ∀ i, i < m0 → N.2.1 514 (6 * i + q) = I (f i) ∧ f i < 48) {j : Nat} (hj : j < m0) (K : Nat → Int32 → Int32 → Int32 → Int32 → Int32 → Int32 → Int32 → Mem → Option (Int32 × Mem)) (v1 v2 v3 v4 : Int32) (v6 : Nat) :
    ∀ i m j0, i + j0 = j → i < m → exB f j0 (f j) = false → fX11_look_123 K m 492 v1 v2 v3 v4 (I q) (I v6) (I j) 1 (I j0) N = K 492 v1 v2 v3 v4 (I q) (I (v6 + if exB f j (f j) = true then 0 else 1)) (I (j + 1)) N := by
  intro i
  induction i with
  | zero =>
    intro m j0 h1 h2 h3
    obtain ⟨m, rfl⟩ : ∃ n, m = n + 1 := ⟨m - 1, by omega⟩
    obtain rfl : j0 = j := by omega
    rw [fX11_look_123, if_neg (show ¬ I j0 < I j0 by rw [I_lt (by omega) (by omega)]; omega), if_neg (by decide), h3, if_neg (by decide), I_addl, I_addl]
  | succ i ih =>
    intro m j0 h1 h2 h3
    obtain ⟨m, rfl⟩ : ∃ n, m = n + 1 := ⟨m - 1, by omega⟩
    obtain ⟨m, rfl⟩ : ∃ n, m = n + 1 := ⟨m - 1, by omega⟩
    obtain ⟨a1, a2⟩ := hf j0 (by omega)
    obtain ⟨b1, b2⟩ := hf j hj
    rw [fX11_look_123, if_pos (show I j0 < I j from (I_lt (by omega) (by omega)).mpr (by omega)), if_neg (by decide)]
    simp (disch := omega) only [g_492_52 hG, bs, l_mulI, I_add, ld_514, a1, b1, I_inj, I_addl]
    by_cases q2 : f j = f j0
    · rw [if_pos q2]
      have hex : ∀ d, exB f (j0 + 1 + d) (f j) = true := by
        intro d
        induction d with
        | zero => rw [Nat.add_zero, exB_s, decide_eq_true q2.symm, Bool.or_true]
        | succ d ihd => rw [← Nat.add_assoc, exB_s, ihd]; rfl
      have := hex (j - (j0 + 1))
      rw [show j0 + 1 + (j - (j0 + 1)) = j by omega] at this
      rw [this, if_pos rfl]
      rw [fX11_look_123, if_pos rfl, if_pos rfl]
      by_cases q3 : I (j0 + 1) < I j
      · rw [if_pos q3, I_addl, I_addl]
      · rw [if_neg q3, I_addl, I_addl]
    · rw [if_neg q2]
      exact ih (m + 1) (j0 + 1) (by omega) (by omega) (by rw [exB_s, h3, decide_eq_false (fun e => q2 e.symm)]; rfl)
theorem look111 {f : Nat → Nat} {N : Mem} (hG : Gr N) {q m0 : Nat} (hq : q < 6) (hm0 : m0 ≤ 60) (hf : ∀ i, i < m0 → N.2.1 514 (6 * i + q) = I (f i) ∧ f i < 48) (K : Nat → Int32 → Int32 → Int32 → Int32 → Int32 → Mem → Option (Int32 × Mem)) (v1 v3 : Int32) {v4 : Nat} (hv4 : v4 ≤ 64) :
    fX11_look_111 K fuel 492 v1 (I m0) v3 (I v4) (I q) 0 0 N = if v4 < dct f m0 then K 492 v1 (I m0) (I q) (I (dct f m0)) (I (q + 1)) N else K 492 v1 (I m0) v3 (I v4) (I (q + 1)) N := by
  have hd := dct_le f m0
  have key := loop_eq (S := Nat) (R := Int32 × Mem) (fun m s => fX11_look_111 K m 492 v1 (I m0) v3 (I v4) (I q) (I (dct f s)) (I s) N) m0 id
    (if v4 < dct f m0 then K 492 v1 (I m0) (I q) (I (dct f m0)) (I (q + 1)) N else K 492 v1 (I m0) v3 (I v4) (I (q + 1)) N) ?_ ?_ m0 fuel 0 rfl (by unfold fuel; omega)
  · exact key
  · intro m j hj
    show fX11_look_111 K (m + 1) 492 v1 (I m0) v3 (I v4) (I q) (I (dct f j)) (I j) N = fX11_look_111 K m 492 v1 (I m0) v3 (I v4) (I q) (I (dct f (j + 1))) (I (j + 1)) N
    rw [fX11_look_111, if_pos (show I j < I m0 from (I_lt (by omega) (by omega)).mpr hj)]
    exact look123 hG hq hm0 hf hj _ v1 (I m0) v3 (I v4) (dct f j) j fuel 0 rfl (by unfold fuel; omega) rfl
  · intro m
    show fX11_look_111 K (m + 1) 492 v1 (I m0) v3 (I v4) (I q) (I (dct f m0)) (I m0) N = _
    rw [fX11_look_111, if_neg (show ¬ I m0 < I m0 by rw [I_lt (by omega) (by omega)]; omega), I_addl]
    by_cases z : v4 < dct f m0
    · rw [if_pos z, if_pos (show I v4 < I (dct f m0) from (I_lt (by omega) (by omega)).mpr z)]
    · rw [if_neg z, if_neg (show ¬ I v4 < I (dct f m0) from fun t => z ((I_lt (by omega) (by omega)).mp t))]
theorem look96 {F : Nat → Nat → Nat} {N : Mem} (hR : RC C N) {m0 : Nat} (hm0 : m0 ≤ 60) (hf : ∀ i, i < m0 → ∀ q, q < C.P → N.2.1 514 (6 * i + q) = I (F i q) ∧ F i q < 48) (v1 : Int32) :
    fX11_look_96 fuel 492 v1 (I m0) (-1) 0 0 N = some (if v1 = 0 then (mstL (fun q => dct (fun i => F i q) m0) C.P).1 else I (mstL (fun q => dct (fun i => F i q) m0) C.P).2, N) := by
  have hP := hR.2.1.2.1
  have key := loop_eq (S := Nat) (R := Int32 × Mem) (fun m s => fX11_look_96 m 492 v1 (I m0) (mstL (fun q => dct (fun i => F i q) m0) s).1 (I (mstL (fun q => dct (fun i => F i q) m0) s).2) (I s) N) C.P id
    (some (if v1 = 0 then (mstL (fun q => dct (fun i => F i q) m0) C.P).1 else I (mstL (fun q => dct (fun i => F i q) m0) C.P).2, N)) ?_ ?_ C.P fuel 0 rfl (by unfold fuel; omega)
  · exact key
  · intro m j hj
    show fX11_look_96 (m + 1) 492 v1 (I m0) (mstL (fun q => dct (fun i => F i q) m0) j).1 (I (mstL (fun q => dct (fun i => F i q) m0) j).2) (I j) N = fX11_look_96 m 492 v1 (I m0) (mstL (fun q => dct (fun i => F i q) m0) (j + 1)).1 (I (mstL (fun q => dct (fun i => F i q) m0) (j + 1)).2) (I (j + 1)) N
    rw [fX11_look_96, hR.2.2.2.1, if_pos (show I j < I C.P from (I_lt (by omega) (by omega)).mpr hj), look111 (f := fun i => F i j) hR.1 (by omega) hm0 (fun i hi => hf i hi j hj) _ v1 _ (by
      have := mstL_le (fun q => dct (fun i => F i q) m0) 60 j (fun i _ => by have := dct_le (fun i' => F i' i) m0; omega)
      omega), mstL_s]
    by_cases z : (mstL (fun q => dct (fun i => F i q) m0) j).2 < dct (fun i => F i j) m0
    · rw [if_pos z, if_pos z]
    · rw [if_neg z, if_neg z]
  · intro m
    show fX11_look_96 (m + 1) 492 v1 (I m0) (mstL (fun q => dct (fun i => F i q) m0) C.P).1 (I (mstL (fun q => dct (fun i => F i q) m0) C.P).2) (I C.P) N = _
    rw [fX11_look_96, hR.2.2.2.1, if_neg (show ¬ I C.P < I C.P by rw [I_lt (by omega) (by omega)]; omega)]
    by_cases z : v1 = 0
    · rw [if_pos z, if_pos z]
    · rw [if_neg z, if_neg z]
theorem look45 {N : Mem} (hR : RC C N) {m0 : Nat} (hm0 : m0 < 60) (K : Nat → Int32 → Int32 → Int32 → Mem → Option (Int32 × Mem)) (v1 : Int32) (v3 : Nat) :
    ∃ g : Row, fX11_look_45 K fuel 492 v1 (I m0) (I v3) 0 N = K 492 v1 (I (m0 + 1)) (I (v3 + 1)) (sC N 514 g) ∧ (∀ q, q < C.P → g (6 * m0 + q) = N.2.1 513 q) ∧ ∀ y, y < 6 * m0 → g y = N.2.1 514 y := by
  have hP := hR.2.1.2.1
  have hG := hR.1
  obtain ⟨⟨j, g⟩, e, i1, i2, i3⟩ := loop_k (S := Nat × Row) (R := Option (Int32 × Mem))
    (fun m s => fX11_look_45 K m 492 v1 (I m0) (I v3) (I s.1) (sC N 514 s.2)) (fun s => K 492 v1 (I (m0 + 1)) (I (v3 + 1)) (sC N 514 s.2)) C.P
    (fun j s => s.1 = j ∧ (∀ q, q < j → s.2 (6 * m0 + q) = N.2.1 513 q) ∧ ∀ y, y < 6 * m0 → s.2 y = N.2.1 514 y)
    (by
      rintro m j ⟨j', g⟩ hj ⟨i1, i2, i3⟩
      simp only at i1 i2 i3
      subst i1
      refine ⟨(j' + 1, up g (6 * m0 + j') (N.2.1 513 j')), ?_, rfl, ?_, ?_⟩
      · show fX11_look_45 K (m + 1) 492 v1 (I m0) (I v3) (I j') (sC N 514 g) = fX11_look_45 K m 492 v1 (I m0) (I v3) (I (j' + 1)) (sC N 514 (up g (6 * m0 + j') (N.2.1 513 j')))
        rw [fX11_look_45, sC_n _ _ (by decide), hR.2.2.2.1, if_pos (show I j' < I C.P from (I_lt (by omega) (by omega)).mpr hj)]
        simp (disch := omega) only [gC, g_492_52 hG, g_492_51 hG, bs, l_mulI, I_add, ld_513, st_514, I_addl, sC_C, sC_s, sC_row, reduceIte, Nat.reduceEqDiff]
      · intro q hq
        show up g (6 * m0 + j') _ (6 * m0 + q) = _
        by_cases e : q = j'
        · subst e; rw [up_s]
        · rw [up_n _ _ (by omega)]; exact i2 q (by omega)
      · intro y hy
        show up g (6 * m0 + j') _ y = _
        rw [up_n _ _ (by omega)]; exact i3 y hy)
    (by
      rintro m ⟨j', g⟩ ⟨i1, i2⟩
      simp only at i1
      subst i1
      show fX11_look_45 K (m + 1) 492 v1 (I m0) (I v3) (I C.P) (sC N 514 g) = _
      rw [fX11_look_45, sC_n _ _ (by decide), hR.2.2.2.1, if_neg (show ¬ I C.P < I C.P by rw [I_lt (by omega) (by omega)]; omega), I_addl, I_addl])
    C.P fuel 0 (0, N.2.1 514) rfl (by unfold fuel; omega) ⟨rfl, fun p hp => absurd hp (Nat.not_lt_zero p), fun _ _ => rfl⟩
  simp only [sC_same] at e
  exact ⟨g, e, i1 ▸ i2, i3⟩
theorem cnt_lt_of {f : Nat → Bool} {j m : Nat} (hj : j < m) (h : f j = true) : cnt f j < cnt f m := by
  have : ∀ d, cnt f j < cnt f (j + 1 + d) := by
    intro d
    induction d with
    | zero => rw [Nat.add_zero, cnt_s, if_pos h]; omega
    | succ d ih => rw [← Nat.add_assoc, cnt_s]; split <;> omega
  have := this (m - (j + 1))
  rw [show j + 1 + (m - (j + 1)) = m by omega] at this
  exact this
theorem r_look (hI : INV C G Fd pc k r μ) {n : Nat} {W D B : Nat → Nat} (hN : SN C n W D B μ) (a : Int32) : RQ (fX11_look 492 a μ) μ (if okW a 2 = true then 0 else 1) (valLk C G Fd n W D B r a) := by
  have hC := hI.2.1
  have hP := hC.2.1
  have hr := hI.2.2.2.2.2.2.2.2.1
  obtain ⟨t1, t2, t3, t4⟩ := thr0 μ
  have hR0 := t1.rc hI.2.2.2.2.2.2.1
  unfold fX11_look valLk
  rw [bs, sI_C, show fX11_isWhat 492 a (1 : Int32) (thr μ 0) = _ from isWhat_ok (m := 1) t2 a (by decide)]
  by_cases h2 : okW a 2 = true
  · rw [if_pos h2, if_pos h2, bs]
    simp only
    rw [if_neg (by decide)]
    obtain ⟨⟨j, N⟩, e, i1, i2, F, i3, i4⟩ := loop_k (S := Nat × Mem) (R := Option (Int32 × Mem))
      (fun m s => fX11_look_20 m 492 a (I (cnt (gsS C G Fd n W D B r) s.1)) (I s.1) s.2)
      (fun s => fX11_look_96 fuel 492 a (I (cnt (gsS C G Fd n W D B r) s.1)) (-1) 0 0 s.2) (10 * C.P)
      (fun j s => s.1 = j ∧ F4 (thr μ 0) s.2 ∧ ∃ F : Nat → Nat → Nat, (∀ i, i < cnt (gsS C G Fd n W D B r) j → ∀ q, q < C.P → s.2.2.1 514 (6 * i + q) = I (F i q) ∧ F i q < 48) ∧ ∀ q, q < C.P → ∀ x, exB (fun i => F i q) (cnt (gsS C G Fd n W D B r) j) x = LK C G Fd n W D B r j q x)
      (by
        rintro m j ⟨j', N⟩ hj ⟨i1, i2, F, i3, i4⟩
        simp only at i1 i2 i3
        subst i1
        have hRN := i2.1.rc hR0
        obtain ⟨ξ, e3, h3, h4⟩ := isGuess_R hI hN (t1.trans i2.1) (i2.2.2.1.trans t3) (i2.2.2.2.trans t4) hj
        have hRξ := h3.1.1.rc hRN
        have hc := cnt_le (gsS C G Fd n W D B r) j'
        show ∃ s', fX11_look_20 (m + 1) 492 a (I (cnt (gsS C G Fd n W D B r) j')) (I j') N = _ ∧ _
        rw [fX11_look_20, hRN.2.2.2.1, l_mulI, if_pos (show I j' < I (10 * C.P) from (I_lt (by omega) (by omega)).mpr hj), e3, bs]
        by_cases s : gsS C G Fd n W D B r j' = true
        · simp only [if_pos s]
          rw [if_neg (by decide)]
          obtain ⟨g, e45, g1, g2⟩ := look45 hRξ (m0 := cnt (gsS C G Fd n W D B r) j') (by omega) (fX11_look_20 m) a j'
          have hcs : cnt (gsS C G Fd n W D B r) (j' + 1) = cnt (gsS C G Fd n W D B r) j' + 1 := by rw [cnt_s, if_pos s]
          refine ⟨(j' + 1, sC ξ 514 g), ?_, rfl, (i2.trans h3.1).trans (F4.c g (by decide) (by decide) (by decide)), fun i q => if i = cnt (gsS C G Fd n W D B r) j' then plG C G Fd r j' q else F i q, ?_, ?_⟩
          · simp only [hcs]
            exact e45
          · intro i hi q hq
            rw [hcs] at hi
            show (sC ξ 514 g).2.1 514 (6 * i + q) = _ ∧ _
            rw [sC_s]
            by_cases ei : i = cnt (gsS C G Fd n W D B r) j'
            · simp only [if_pos ei]
              rw [ei, g1 q hq, h4 s q hq]
              exact plG_ok hC hr.1 j' hq
            · simp only [if_neg ei]
              rw [g2 _ (by omega), h3.2]
              exact i3 i (by omega) q hq
          · intro q hq x
            rw [hcs, exB_s, LK_s]
            simp only [if_true]
            rw [s, ← i4 q hq x, Bool.true_and]
            congr 1
            exact exB_congr _ _ (fun i hi => if_neg (by omega))
        · simp only [if_neg s]
          rw [if_pos trivial]
          have hcs : cnt (gsS C G Fd n W D B r) (j' + 1) = cnt (gsS C G Fd n W D B r) j' := by rw [cnt_s, if_neg s, Nat.add_zero]
          have s' : gsS C G Fd n W D B r j' = false := by
            cases z : gsS C G Fd n W D B r j'
            · rfl
            · exact absurd z s
          refine ⟨(j' + 1, ξ), ?_, rfl, i2.trans h3.1, F, ?_, ?_⟩
          · simp only [hcs, I_addl]
          · rw [hcs, h3.2]; exact i3
          · intro q hq x
            rw [hcs, LK_s, s', Bool.false_and, Bool.or_false]
            exact i4 q hq x)
      (by
        rintro m ⟨j', N⟩ ⟨i1, i2, _⟩
        simp only at i1 i2
        subst i1
        have hRN := i2.1.rc hR0
        show fX11_look_20 (m + 1) 492 a _ (I (10 * C.P)) N = _
        rw [fX11_look_20, hRN.2.2.2.1, l_mulI, if_neg (show ¬ I (10 * C.P) < I (10 * C.P) by rw [I_lt (by omega) (by omega)]; omega)])
      (10 * C.P) fuel 0 (0, thr μ 0) rfl (by unfold fuel; omega) ⟨rfl, F4.refl _, fun _ _ => 0, fun i hi => absurd hi (Nat.not_lt_zero i), fun _ _ _ => rfl⟩
    simp only at i1 i2 i3 e
    have hc := cnt_le (gsS C G Fd n W D B r) (10 * C.P)
    rw [i1, look96 (i2.1.rc hR0) (by omega) i3] at e
    have hm : mstL (fun q => dct (fun i => F i q) (cnt (gsS C G Fd n W D B r) (10 * C.P))) C.P = mstL (lkc C G Fd n W D B r) C.P := by
      apply mstL_congr
      intro q hq
      unfold lkc
      rw [dct_eq _ (fun i hi => by have := (i3 i hi q hq).2; omega)]
      exact cnt_congr (fun x _ => i4 q hq x)
    rw [hm] at e
    rw [show fX11_look_20 fuel 492 a (0 : Int32) (0 : Int32) (thr μ 0) = _ from e]
    exact RQ.f4 t1 t2 t3 t4 i2
  · rw [if_neg h2, if_neg h2, bs]
    simp only [if_true]
    exact RQ.no (by decide) t1 t3 t4
end Lk
