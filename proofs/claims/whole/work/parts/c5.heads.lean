/-! EXPRESSIONS: the reference's steps at the loop's head -/
section Sl
variable {B : Nat → Nat} {n k0 fi la : Nat} {ν0 : Mem} {k b dep : Nat} {xs : List Int32} {ws p base : List Nat} {ts : Nat → Bool} {fk fp : Int32} {ν : Mem} {A : Option Mem}
theorem sg_no {c d : Nat} (h : sg B n k c = true) (hd : d ≠ c) : ¬ sg B n k d = true := by
  intro q
  have h1 := (sg_iff.mp h).2
  have h2 := (sg_iff.mp q).2
  omega
theorem sg_kw {c : Nat} (h : sg B n k c = true) : KW B n (Pq B n k) = 17 := KW_0 (by rw [(sg_iff.mp h).1]; decide)
theorem sgn (hB : ∀ i, i < n → B i < 256) (h : RE B n k0 fi la ν0 k b xs ws dep ts fk fp ν) {c : Nat} (hc : c < 256) (hs : ¬ sg B n k c = true) : fX11_isSign 492 (I c) ν = 0 := by rw [h.sign hB hc, if_neg hs]
theorem sgy (hB : ∀ i, i < n → B i < 256) (h : RE B n k0 fi la ν0 k b xs ws dep ts fk fp ν) {c : Nat} (hc : c < 256) (hs : sg B n k c = true) : ¬ fX11_isSign 492 (I c) ν = 0 := by rw [h.sign hB hc, if_pos hs]; decide
theorem mem_cons14 {a : Nat} (ha : a ≤ 14) (h : ∀ c ∈ p ++ base, c ≤ 14) : ∀ c ∈ a :: base, c ≤ 14 := by
  intro c hc
  rcases List.mem_cons.mp hc with q | q
  · omega
  · exact h c (List.mem_append_right _ q)
def bcond (s : Nat) (base : List Nat) : Prop := ∀ a l, base = a :: l → a = 14 ∨ (a < 14 ∧ stg a < s)
def pcond (s : Nat) (p : List Nat) : Prop := ∀ a ∈ p, a < 14 ∧ s ≤ stg a
theorem kw_neg {v : Nat} (hv : v < 17) (h : KW B n (Pq B n k) ≠ v) : ¬ (if KW B n (Pq B n k) = 17 then (-1 : Int32) else I (KW B n (Pq B n k))) = I v := fun q => h ((kwv v hv).mp q)
theorem l_and (hn : n ≤ 700) (hB : ∀ i, i < n → B i < 256) (h : AtL B n k0 fi la ν0 A k xs (p ++ base) dep ts) (hw : KW B n (Pq B n k) = 14) (hp : pcond 2 p) (hb : bcond 2 base) : AtP B n k0 fi la ν0 A (k + 1) (xs ++ p.map I) (4 :: base) dep (up ts dep false) 1 := by
  obtain ⟨hws, ν, nn, fp, h1, h2, h5⟩ := h
  have hk := h1.2.2.2.2.2.2.2.2.2.2.2.1
  obtain ⟨nn, rfl⟩ : ∃ j, nn = j + 1 := ⟨nn - 1, by omega⟩
  have hS : tkS B n (Pq B n k) ≠ 0 := by rw [KW_S (by omega)]; decide
  obtain ⟨ν1, e1, g1⟩ := RE.drops (s := 2) (by decide) h1 hp hb
  obtain ⟨ν2, ν3, ν4, e2, e3, e4, e5, g4⟩ := wtg hn hB g1 hS 4 false (w := 0) rfl
  have w1 : (if KW B n (Pq B n k) = 17 then (-1 : Int32) else I (KW B n (Pq B n k))) = I 14 := (kwv 14 (by decide)).mpr hw
  rw [fX11_expression_39, if_neg (by decide), if_neg (g1t h1), h1.word hn, bs, w1] at h5
  rw [if_pos (show I 14 = (14 : Int32) from rfl), if_pos (show I 14 = (14 : Int32) from rfl), show fX11_drops 492 (2 : Int32) ν = _ from e1, bs, if_pos (show I 14 = (14 : Int32) from rfl), show fX11_waitsFor 492 (4 : Int32) ν1 = _ from e2, bs, e3, bs, e4, bs, e5, bs] at h5
  exact ⟨mem_cons14 (by decide) hws, ν4, nn, fuel, fp, g4, by omega, by unfold fuel; omega, h5⟩
theorem l_or (hn : n ≤ 700) (hB : ∀ i, i < n → B i < 256) (h : AtL B n k0 fi la ν0 A k xs (p ++ base) dep ts) (hw : KW B n (Pq B n k) = 15) (hp : pcond 1 p) (hb : bcond 1 base) : AtP B n k0 fi la ν0 A (k + 1) (xs ++ p.map I) (5 :: base) dep (up ts dep false) 1 := by
  obtain ⟨hws, ν, nn, fp, h1, h2, h5⟩ := h
  have hk := h1.2.2.2.2.2.2.2.2.2.2.2.1
  obtain ⟨nn, rfl⟩ : ∃ j, nn = j + 1 := ⟨nn - 1, by omega⟩
  have hS : tkS B n (Pq B n k) ≠ 0 := by rw [KW_S (by omega)]; decide
  obtain ⟨ν1, e1, g1⟩ := RE.drops (s := 1) (by decide) h1 hp hb
  obtain ⟨ν2, ν3, ν4, e2, e3, e4, e5, g4⟩ := wtg hn hB g1 hS 5 false (w := 0) rfl
  have w1 : (if KW B n (Pq B n k) = 17 then (-1 : Int32) else I (KW B n (Pq B n k))) = I 15 := (kwv 15 (by decide)).mpr hw
  rw [fX11_expression_39, if_neg (by decide), if_neg (g1t h1), h1.word hn, bs, w1] at h5
  rw [if_neg (by decide), if_pos (show I 15 = (15 : Int32) from rfl), if_neg (by decide), show fX11_drops 492 (1 : Int32) ν = _ from e1, bs, if_neg (by decide), show fX11_waitsFor 492 (5 : Int32) ν1 = _ from e2, bs, e3, bs, e4, bs, e5, bs] at h5
  exact ⟨mem_cons14 (by decide) hws, ν4, nn, fuel, fp, g4, by omega, by unfold fuel; omega, h5⟩
theorem l_plus (hn : n ≤ 700) (hB : ∀ i, i < n → B i < 256) (h : AtL B n k0 fi la ν0 A k xs (p ++ base) dep ts) (hc : sg B n k 43 = true) (hp : pcond 5 p) (hb : bcond 5 base) : AtP B n k0 fi la ν0 A (k + 1) (xs ++ p.map I) (8 :: base) dep ts 0 := by
  obtain ⟨hws, ν, nn, fp, h1, h2, h5⟩ := h
  have hk := h1.2.2.2.2.2.2.2.2.2.2.2.1
  obtain ⟨nn, rfl⟩ : ∃ j, nn = j + 1 := ⟨nn - 1, by omega⟩
  have hS : tkS B n (Pq B n k) ≠ 0 := by rw [(sg_iff.mp hc).1]; decide
  obtain ⟨ν1, e1, g1⟩ := RE.drops (s := 5) (by decide) h1 hp hb
  obtain ⟨ν2, ν3, e2, e3, g3⟩ := wg hn hB g1 hS 8
  rw [fX11_expression_39, if_neg (by decide), if_neg (g1t h1), h1.word hn, bs, sg_kw hc, if_pos rfl, if_neg (by decide), if_neg (by decide), if_pos (show fX11_isSign 492 (60 : Int32) ν = 0 from sgn hB h1 (c := 60) (by decide) (sg_no hc (by decide))), if_pos (show fX11_isSign 492 (61 : Int32) ν = 0 from sgn hB h1 (c := 61) (by decide) (sg_no hc (by decide)))] at h5
  unfold fX11_expression_201 at h5
  rw [if_neg (show ¬ fX11_isSign 492 (43 : Int32) ν = 0 from sgy hB h1 (c := 43) (by decide) hc), show fX11_drops 492 (5 : Int32) ν = _ from e1, bs, if_neg (show ¬ fX11_isSign 492 (43 : Int32) ν1 = 0 from sgy hB g1 (c := 43) (by decide) hc), show fX11_waitsFor 492 (8 : Int32) ν1 = _ from e2, bs, e3, bs] at h5
  exact ⟨mem_cons14 (by decide) hws, ν3, nn, fuel, fp, g3, by omega, by unfold fuel; omega, h5⟩
theorem l_minus (hn : n ≤ 700) (hB : ∀ i, i < n → B i < 256) (h : AtL B n k0 fi la ν0 A k xs (p ++ base) dep ts) (hc : sg B n k 45 = true) (hp : pcond 5 p) (hb : bcond 5 base) : AtP B n k0 fi la ν0 A (k + 1) (xs ++ p.map I) (9 :: base) dep ts 0 := by
  obtain ⟨hws, ν, nn, fp, h1, h2, h5⟩ := h
  have hk := h1.2.2.2.2.2.2.2.2.2.2.2.1
  obtain ⟨nn, rfl⟩ : ∃ j, nn = j + 1 := ⟨nn - 1, by omega⟩
  have hS : tkS B n (Pq B n k) ≠ 0 := by rw [(sg_iff.mp hc).1]; decide
  obtain ⟨ν1, e1, g1⟩ := RE.drops (s := 5) (by decide) h1 hp hb
  obtain ⟨ν2, ν3, e2, e3, g3⟩ := wg hn hB g1 hS 9
  rw [fX11_expression_39, if_neg (by decide), if_neg (g1t h1), h1.word hn, bs, sg_kw hc, if_pos rfl, if_neg (by decide), if_neg (by decide), if_pos (show fX11_isSign 492 (60 : Int32) ν = 0 from sgn hB h1 (c := 60) (by decide) (sg_no hc (by decide))), if_pos (show fX11_isSign 492 (61 : Int32) ν = 0 from sgn hB h1 (c := 61) (by decide) (sg_no hc (by decide)))] at h5
  unfold fX11_expression_201 at h5
  rw [if_pos (show fX11_isSign 492 (43 : Int32) ν = 0 from sgn hB h1 (c := 43) (by decide) (sg_no hc (by decide))), if_neg (show ¬ fX11_isSign 492 (45 : Int32) ν = 0 from sgy hB h1 (c := 45) (by decide) hc), show fX11_drops 492 (5 : Int32) ν = _ from e1, bs, if_pos (show fX11_isSign 492 (43 : Int32) ν1 = 0 from sgn hB g1 (c := 43) (by decide) (sg_no hc (by decide))), show fX11_waitsFor 492 (9 : Int32) ν1 = _ from e2, bs, e3, bs] at h5
  exact ⟨mem_cons14 (by decide) hws, ν3, nn, fuel, fp, g3, by omega, by unfold fuel; omega, h5⟩
theorem l_times (hn : n ≤ 700) (hB : ∀ i, i < n → B i < 256) (h : AtL B n k0 fi la ν0 A k xs (p ++ base) dep ts) (hc : sg B n k 42 = true) (hp : pcond 6 p) (hb : bcond 6 base) : AtP B n k0 fi la ν0 A (k + 1) (xs ++ p.map I) (10 :: base) dep ts 0 := by
  obtain ⟨hws, ν, nn, fp, h1, h2, h5⟩ := h
  have hk := h1.2.2.2.2.2.2.2.2.2.2.2.1
  obtain ⟨nn, rfl⟩ : ∃ j, nn = j + 1 := ⟨nn - 1, by omega⟩
  have hS : tkS B n (Pq B n k) ≠ 0 := by rw [(sg_iff.mp hc).1]; decide
  obtain ⟨ν1, e1, g1⟩ := RE.drops (s := 6) (by decide) h1 hp hb
  obtain ⟨ν2, ν3, e2, e3, g3⟩ := wg hn hB g1 hS 10
  rw [fX11_expression_39, if_neg (by decide), if_neg (g1t h1), h1.word hn, bs, sg_kw hc, if_pos rfl, if_neg (by decide), if_neg (by decide), if_pos (show fX11_isSign 492 (60 : Int32) ν = 0 from sgn hB h1 (c := 60) (by decide) (sg_no hc (by decide))), if_pos (show fX11_isSign 492 (61 : Int32) ν = 0 from sgn hB h1 (c := 61) (by decide) (sg_no hc (by decide)))] at h5
  unfold fX11_expression_201 at h5
  rw [if_pos (show fX11_isSign 492 (43 : Int32) ν = 0 from sgn hB h1 (c := 43) (by decide) (sg_no hc (by decide))), if_pos (show fX11_isSign 492 (45 : Int32) ν = 0 from sgn hB h1 (c := 45) (by decide) (sg_no hc (by decide))), if_neg (show ¬ fX11_isSign 492 (42 : Int32) ν = 0 from sgy hB h1 (c := 42) (by decide) hc), show fX11_drops 492 (6 : Int32) ν = _ from e1, bs, if_neg (show ¬ fX11_isSign 492 (42 : Int32) ν1 = 0 from sgy hB g1 (c := 42) (by decide) hc), show fX11_waitsFor 492 (10 : Int32) ν1 = _ from e2, bs, e3, bs] at h5
  exact ⟨mem_cons14 (by decide) hws, ν3, nn, fuel, fp, g3, by omega, by unfold fuel; omega, h5⟩
theorem l_by (hn : n ≤ 700) (hB : ∀ i, i < n → B i < 256) (h : AtL B n k0 fi la ν0 A k xs (p ++ base) dep ts) (hc : sg B n k 47 = true) (hp : pcond 6 p) (hb : bcond 6 base) : AtP B n k0 fi la ν0 A (k + 1) (xs ++ p.map I) (11 :: base) dep ts 0 := by
  obtain ⟨hws, ν, nn, fp, h1, h2, h5⟩ := h
  have hk := h1.2.2.2.2.2.2.2.2.2.2.2.1
  obtain ⟨nn, rfl⟩ : ∃ j, nn = j + 1 := ⟨nn - 1, by omega⟩
  have hS : tkS B n (Pq B n k) ≠ 0 := by rw [(sg_iff.mp hc).1]; decide
  obtain ⟨ν1, e1, g1⟩ := RE.drops (s := 6) (by decide) h1 hp hb
  obtain ⟨ν2, ν3, e2, e3, g3⟩ := wg hn hB g1 hS 11
  rw [fX11_expression_39, if_neg (by decide), if_neg (g1t h1), h1.word hn, bs, sg_kw hc, if_pos rfl, if_neg (by decide), if_neg (by decide), if_pos (show fX11_isSign 492 (60 : Int32) ν = 0 from sgn hB h1 (c := 60) (by decide) (sg_no hc (by decide))), if_pos (show fX11_isSign 492 (61 : Int32) ν = 0 from sgn hB h1 (c := 61) (by decide) (sg_no hc (by decide)))] at h5
  unfold fX11_expression_201 at h5
  rw [if_pos (show fX11_isSign 492 (43 : Int32) ν = 0 from sgn hB h1 (c := 43) (by decide) (sg_no hc (by decide))), if_pos (show fX11_isSign 492 (45 : Int32) ν = 0 from sgn hB h1 (c := 45) (by decide) (sg_no hc (by decide))), if_pos (show fX11_isSign 492 (42 : Int32) ν = 0 from sgn hB h1 (c := 42) (by decide) (sg_no hc (by decide))), if_neg (show ¬ fX11_isSign 492 (47 : Int32) ν = 0 from sgy hB h1 (c := 47) (by decide) hc), show fX11_drops 492 (6 : Int32) ν = _ from e1, bs, if_pos (show fX11_isSign 492 (42 : Int32) ν1 = 0 from sgn hB g1 (c := 42) (by decide) (sg_no hc (by decide))), show fX11_waitsFor 492 (11 : Int32) ν1 = _ from e2, bs, e3, bs] at h5
  exact ⟨mem_cons14 (by decide) hws, ν3, nn, fuel, fp, g3, by omega, by unfold fuel; omega, h5⟩
theorem l_less (hn : n ≤ 700) (hB : ∀ i, i < n → B i < 256) (h : AtL B n k0 fi la ν0 A k xs (p ++ base) dep ts) (hc : sg B n k 60 = true) (ht : ts dep = false) (hp : pcond 4 p) (hb : bcond 4 base) : AtP B n k0 fi la ν0 A (k + 1) (xs ++ p.map I) (6 :: base) dep (up ts dep true) 0 := by
  obtain ⟨hws, ν, nn, fp, h1, h2, h5⟩ := h
  have hk := h1.2.2.2.2.2.2.2.2.2.2.2.1
  have a7 := h1.2.2.2.2.2.2.1
  have a8 := h1.2.2.2.2.2.2.2.1
  have a13 := h1.2.2.2.2.2.2.2.2.2.2.2.2.1
  obtain ⟨nn, rfl⟩ : ∃ j, nn = j + 1 := ⟨nn - 1, by omega⟩
  have hS : tkS B n (Pq B n k) ≠ 0 := by rw [(sg_iff.mp hc).1]; decide
  obtain ⟨ν1, e1, g1⟩ := RE.drops (s := 4) (by decide) h1 hp hb
  obtain ⟨ν2, ν3, ν4, e2, e3, e4, e5, g4⟩ := wtg hn hB g1 hS 6 true (w := 1) rfl
  rw [fX11_expression_39, if_neg (by decide), if_neg (g1t h1), h1.word hn, bs, sg_kw hc, if_pos rfl, if_neg (by decide), if_neg (by decide)] at h5
  rw [if_neg (show ¬ fX11_isSign 492 (60 : Int32) ν = 0 from sgy hB h1 (c := 60) (by decide) hc)] at h5
  unfold fX11_expression_142 at h5
  rw [g_492_33 h1.1.1.1, bs, a7, ld_501 (by omega), bs, a8 dep a13.1 (Nat.le_refl _), ht, if_pos (show bI false = 0 from rfl), show fX11_drops 492 (4 : Int32) ν = _ from e1, bs, if_neg (show ¬ fX11_isSign 492 (60 : Int32) ν1 = 0 from sgy hB g1 (c := 60) (by decide) hc), show fX11_waitsFor 492 (6 : Int32) ν1 = _ from e2, bs, e3, bs, e4, bs, e5, bs] at h5
  exact ⟨mem_cons14 (by decide) hws, ν4, nn, fuel, fp, g4, by omega, by unfold fuel; omega, h5⟩
theorem l_same (hn : n ≤ 700) (hB : ∀ i, i < n → B i < 256) (h : AtL B n k0 fi la ν0 A k xs (p ++ base) dep ts) (hc : sg B n k 61 = true) (ht : ts dep = false) (hp : pcond 4 p) (hb : bcond 4 base) : AtP B n k0 fi la ν0 A (k + 1) (xs ++ p.map I) (7 :: base) dep (up ts dep true) 0 := by
  obtain ⟨hws, ν, nn, fp, h1, h2, h5⟩ := h
  have hk := h1.2.2.2.2.2.2.2.2.2.2.2.1
  have a7 := h1.2.2.2.2.2.2.1
  have a8 := h1.2.2.2.2.2.2.2.1
  have a13 := h1.2.2.2.2.2.2.2.2.2.2.2.2.1
  obtain ⟨nn, rfl⟩ : ∃ j, nn = j + 1 := ⟨nn - 1, by omega⟩
  have hS : tkS B n (Pq B n k) ≠ 0 := by rw [(sg_iff.mp hc).1]; decide
  obtain ⟨ν1, e1, g1⟩ := RE.drops (s := 4) (by decide) h1 hp hb
  obtain ⟨ν2, ν3, ν4, e2, e3, e4, e5, g4⟩ := wtg hn hB g1 hS 7 true (w := 1) rfl
  rw [fX11_expression_39, if_neg (by decide), if_neg (g1t h1), h1.word hn, bs, sg_kw hc, if_pos rfl, if_neg (by decide), if_neg (by decide)] at h5
  rw [if_pos (show fX11_isSign 492 (60 : Int32) ν = 0 from sgn hB h1 (c := 60) (by decide) (sg_no hc (by decide))), if_neg (show ¬ fX11_isSign 492 (61 : Int32) ν = 0 from sgy hB h1 (c := 61) (by decide) hc)] at h5
  unfold fX11_expression_142 at h5
  rw [g_492_33 h1.1.1.1, bs, a7, ld_501 (by omega), bs, a8 dep a13.1 (Nat.le_refl _), ht, if_pos (show bI false = 0 from rfl), show fX11_drops 492 (4 : Int32) ν = _ from e1, bs, if_pos (show fX11_isSign 492 (60 : Int32) ν1 = 0 from sgn hB g1 (c := 60) (by decide) (sg_no hc (by decide))), show fX11_waitsFor 492 (7 : Int32) ν1 = _ from e2, bs, e3, bs, e4, bs, e5, bs] at h5
  exact ⟨mem_cons14 (by decide) hws, ν4, nn, fuel, fp, g4, by omega, by unfold fuel; omega, h5⟩
theorem isOp7 {ν : Mem} (hG : Gr ν) : ∀ (ws : List Nat) (m : Nat), WSt (ν.2.1 500) ws → (∀ a ∈ ws, a ≤ 14) → ws.length ≤ 700 → ws.length < m → fX11_isOpened_7 ν m 492 (I ws.length - 1) = some (if 14 ∈ ws then 1 else 0) := by
  intro ws
  induction ws with
  | nil =>
    intro m _ _ _ hm
    obtain ⟨m, rfl⟩ : ∃ j, m = j + 1 := ⟨m - 1, by omega⟩
    rw [fX11_isOpened_7, if_pos (by decide), if_pos (by decide)]
    rfl
  | cons a l ih =>
    intro m hW ha hl hm
    obtain ⟨m, rfl⟩ : ∃ j, m = j + 1 := ⟨m - 1, by omega⟩
    simp only [List.length_cons] at hl hm
    have ha14 := ha a (by simp)
    rw [fX11_isOpened_7, show (a :: l).length = l.length + 1 from rfl, I_subl (by show 1 ≤ l.length + 1; omega), show l.length + 1 - OfNat.ofNat 1 = l.length from rfl, if_neg (I_neg (by omega)), g_492_32 hG, bs, ld_500 (by omega), bs, hW.1, (stg_ok ⟨a, by omega⟩).2]
    by_cases e : a = 14
    · rw [if_neg (show ¬ (if a < 14 then (0 : Int32) else 1) = 0 by rw [if_neg (by omega)]; decide), if_neg (I_neg (by omega)), if_pos (by rw [e]; simp)]
    · rw [if_pos (show (if a < 14 then (0 : Int32) else 1) = 0 by rw [if_pos (by omega)])]
      have := ih m hW.2 (fun c hc => ha c (by simp [hc])) (by omega) (by omega)
      rw [show I l.length + (-1 : Int32) = I l.length - 1 from (Int32.sub_eq_add_neg _ _).symm, this]
      congr 1
      have : (14 ∈ a :: l) ↔ 14 ∈ l := by
        rw [List.mem_cons]
        exact ⟨fun q => by rcases q with q | q; exact absurd q.symm e; exact q, Or.inr⟩
      by_cases q : 14 ∈ l
      · rw [if_pos q, if_pos (this.mpr q)]
      · rw [if_neg q, if_neg (fun z => q (this.mp z))]
theorem l_close (hn : n ≤ 700) (hB : ∀ i, i < n → B i < 256) (h : AtL B n k0 fi la ν0 A k xs (p ++ 14 :: base) (dep + 1) ts) (hc : sg B n k 41 = true) (hp : ∀ a ∈ p, a < 14) (hd1 : 1 ≤ dep) : AtL B n k0 fi la ν0 A (k + 1) (xs ++ p.map I) base dep ts := by
  obtain ⟨hws, ν, nn, fp, h1, h2, h5⟩ := h
  have hk := h1.2.2.2.2.2.2.2.2.2.2.2.1
  have a9 := h1.2.2.2.2.2.2.2.2.1
  obtain ⟨nn, rfl⟩ : ∃ j, nn = j + 1 := ⟨nn - 1, by omega⟩
  have hS : tkS B n (Pq B n k) ≠ 0 := by rw [(sg_iff.mp hc).1]; decide
  have hop : fX11_isOpened 492 ν = some 1 := by
    unfold fX11_isOpened
    rw [h1.2.2.2.2.1, isOp7 h1.1.1.1 (p ++ 14 :: base) fuel h1.2.2.2.2.2.1 hws (by omega) (by unfold fuel; omega), if_pos (by simp)]
  obtain ⟨ν1, e1, g1⟩ := RE.drops (s := 0) (by decide) h1 (fun a ha => ⟨hp a ha, Nat.zero_le _⟩) (fun a l q => Or.inl (by injection q with q1 q2; exact q1.symm))
  obtain ⟨b1, b2, b3, b4, b5, b6, b7, b8, b9, b10, b11, b12, b13, b14⟩ := g1
  simp only [List.length_cons] at b5 b9 b10
  have g2 : RE B n k0 fi la ν0 k k (xs ++ p.map I) base dep ts 0 fp (sC (sC ν1 492 (up (ν1.2.1 492) 27 (I base.length))) 492 (up (up (ν1.2.1 492) 27 (I base.length)) 28 (I dep))) := by
    have q := (b1.f (f := 27) (I base.length) (by omega)).f (f := 28) (I dep) (by omega)
    rw [sC_s] at q
    refine ⟨q, ?_, ?_, ?_, ?_, ?_, ?_, ?_, by omega, by omega, b11, b12, by omega, ?_⟩
    · rw [sC_s, up_n _ _ (by decide), up_n _ _ (by decide)]; exact b2
    · rw [sC_s, up_n _ _ (by decide), up_n _ _ (by decide)]; exact b3
    · rw [sC_n _ _ (by decide), sC_n _ _ (by decide)]; exact b4
    · rw [sC_s, up_n _ _ (by decide), up_s]
    · rw [sC_n _ _ (by decide), sC_n _ _ (by decide)]; exact b6.2
    · rw [sC_s, up_s]
    · intro d hd1 hd; rw [sC_n _ _ (by decide), sC_n _ _ (by decide)]; exact b8 d hd1 (by omega)
    · rw [sC_s, up_n _ _ (by decide), up_n _ _ (by decide)]; exact b14
  obtain ⟨ν3, e3, g3⟩ := g2.goes hn hB hS
  have hcl : fX11_closes 492 ν = some ν3 := by
    unfold fX11_closes
    rw [show fX11_drops 492 (0 : Int32) ν = _ from e1, bs, bs, bs, sI_C, sI_C, b5, I_subl (by show 1 ≤ base.length + 1; omega), show base.length + 1 - OfNat.ofNat 1 = base.length from rfl, sC_s, up_n _ _ (by decide), b7, I_subl (by show 1 ≤ dep + 1; omega), show dep + 1 - OfNat.ofNat 1 = dep from rfl, e3, bs]
  rw [fX11_expression_39, if_neg (by decide), if_neg (g1t h1), h1.word hn, bs, sg_kw hc, if_pos rfl, if_neg (by decide), if_neg (by decide), if_pos (show fX11_isSign 492 (60 : Int32) ν = 0 from sgn hB h1 (c := 60) (by decide) (sg_no hc (by decide))), if_pos (show fX11_isSign 492 (61 : Int32) ν = 0 from sgn hB h1 (c := 61) (by decide) (sg_no hc (by decide)))] at h5
  unfold fX11_expression_201 at h5
  rw [if_pos (show fX11_isSign 492 (43 : Int32) ν = 0 from sgn hB h1 (c := 43) (by decide) (sg_no hc (by decide))), if_pos (show fX11_isSign 492 (45 : Int32) ν = 0 from sgn hB h1 (c := 45) (by decide) (sg_no hc (by decide))), if_pos (show fX11_isSign 492 (42 : Int32) ν = 0 from sgn hB h1 (c := 42) (by decide) (sg_no hc (by decide))), if_pos (show fX11_isSign 492 (47 : Int32) ν = 0 from sgn hB h1 (c := 47) (by decide) (sg_no hc (by decide))), if_neg (show ¬ fX11_isSign 492 (41 : Int32) ν = 0 from sgy hB h1 (c := 41) (by decide) hc), hop, bs, if_neg (by decide), hcl, bs] at h5
  refine ⟨fun a ha => hws a (List.mem_append_right _ (List.mem_cons_of_mem _ ha)), ν3, nn, fp, ?_, by omega, h5⟩
  have hk1 := (S_k k hS).2
  exact g3.bm (by omega) (by omega)
/-- what can't go on an expression -/
def NX (B : Nat → Nat) (n k : Nat) (tst : Bool) : Prop := KW B n (Pq B n k) ≠ 14 ∧ KW B n (Pq B n k) ≠ 15 ∧ (sg B n k 60 = true ∨ sg B n k 61 = true → tst = true) ∧ ¬ sg B n k 43 = true ∧ ¬ sg B n k 45 = true ∧ ¬ sg B n k 42 = true ∧ ¬ sg B n k 47 = true
theorem l_end (hn : n ≤ 700) (hB : ∀ i, i < n → B i < 256) (h : AtL B n k0 fi la ν0 A k xs ws dep ts) (hx : NX B n k (ts dep)) (hc : sg B n k 41 = true → 14 ∉ ws) : (∀ a ∈ ws, a ≤ 14) ∧ ∃ ν nn fp, RE B n k0 fi la ν0 k k xs ws dep ts 0 fp ν ∧ 0 < nn ∧ fX11_expression_39 nn 492 0 ν = A := by
  obtain ⟨hws, ν, nn, fp, h1, h2, h5⟩ := h
  obtain ⟨x1, x2, x3, x4, x5, x6, x7⟩ := hx
  have hk := h1.2.2.2.2.2.2.2.2.2.2.2.1
  have a7 := h1.2.2.2.2.2.2.1
  have a8 := h1.2.2.2.2.2.2.2.1
  have a9 := h1.2.2.2.2.2.2.2.2.1
  have a13 := h1.2.2.2.2.2.2.2.2.2.2.2.2.1
  obtain ⟨nn, rfl⟩ : ∃ j, nn = j + 1 := ⟨nn - 1, by omega⟩
  refine ⟨hws, ν, nn, fp, h1, by omega, ?_⟩
  have e201 : fX11_expression_201 (fX11_expression_39 nn) 492 1 ν = fX11_expression_39 nn 492 0 ν := by
    unfold fX11_expression_201
    rw [if_pos (show fX11_isSign 492 (43 : Int32) ν = 0 from sgn hB h1 (c := 43) (by decide) x4), if_pos (show fX11_isSign 492 (45 : Int32) ν = 0 from sgn hB h1 (c := 45) (by decide) x5), if_pos (show fX11_isSign 492 (42 : Int32) ν = 0 from sgn hB h1 (c := 42) (by decide) x6), if_pos (show fX11_isSign 492 (47 : Int32) ν = 0 from sgn hB h1 (c := 47) (by decide) x7)]
    by_cases z : sg B n k 41 = true
    · have hop : fX11_isOpened 492 ν = some 0 := by
        unfold fX11_isOpened
        rw [h1.2.2.2.2.1, isOp7 h1.1.1.1 ws fuel h1.2.2.2.2.2.1 hws (by omega) (by unfold fuel; omega), if_neg (hc z)]
      rw [if_neg (show ¬ fX11_isSign 492 (41 : Int32) ν = 0 from sgy hB h1 (c := 41) (by decide) z), hop, bs, if_pos rfl]
    · rw [if_pos (show fX11_isSign 492 (41 : Int32) ν = 0 from sgn hB h1 (c := 41) (by decide) z)]
  rw [fX11_expression_39, if_neg (by decide), if_neg (g1t h1), h1.word hn, bs, if_neg (show ¬ (if KW B n (Pq B n k) = 17 then (-1 : Int32) else I (KW B n (Pq B n k))) = (14 : Int32) from kw_neg (v := 14) (by decide) x1), if_neg (show ¬ (if KW B n (Pq B n k) = 17 then (-1 : Int32) else I (KW B n (Pq B n k))) = (15 : Int32) from kw_neg (v := 15) (by decide) x2)] at h5
  have e142 : ts dep = true → fX11_expression_142 (fX11_expression_39 nn) (fX11_expression_201 (fX11_expression_39 nn)) 492 1 ν = fX11_expression_39 nn 492 0 ν := by
    intro ht
    unfold fX11_expression_142
    rw [g_492_33 h1.1.1.1, bs, a7, ld_501 (by omega), bs, a8 dep a13.1 (Nat.le_refl _), ht, if_neg (by decide)]
    exact e201
  by_cases z1 : sg B n k 60 = true
  · rw [if_neg (show ¬ fX11_isSign 492 (60 : Int32) ν = 0 from sgy hB h1 (c := 60) (by decide) z1), e142 (x3 (Or.inl z1))] at h5
    exact h5
  · rw [if_pos (show fX11_isSign 492 (60 : Int32) ν = 0 from sgn hB h1 (c := 60) (by decide) z1)] at h5
    by_cases z2 : sg B n k 61 = true
    · rw [if_neg (show ¬ fX11_isSign 492 (61 : Int32) ν = 0 from sgy hB h1 (c := 61) (by decide) z2), e142 (x3 (Or.inr z2))] at h5
      exact h5
    · rw [if_pos (show fX11_isSign 492 (61 : Int32) ν = 0 from sgn hB h1 (c := 61) (by decide) z2), e201] at h5
      exact h5
/-- within a parenthesis: it must be closed -/
theorem l_bad (hn : n ≤ 700) (hB : ∀ i, i < n → B i < 256) (h : AtL B n k0 fi la ν0 A k xs ws dep ts) (hx : NX B n k (ts dep)) (hc : ¬ sg B n k 41 = true) (hd : 1 < dep) : AtF B n k0 fi la ν0 A 1 k := by
  obtain ⟨hws, ν, nn, fp, h1, h2, h5⟩ := l_end hn hB h hx (fun q => absurd q hc)
  obtain ⟨nn, rfl⟩ : ∃ j, nn = j + 1 := ⟨nn - 1, by omega⟩
  have a7 := h1.2.2.2.2.2.2.1
  have a13 := h1.2.2.2.2.2.2.2.2.2.2.2.2.1
  obtain ⟨ν1, e1, g1⟩ := h1.wrong 1
  rw [fX11_expression_39, if_pos rfl, if_neg (g1t h1), a7, if_pos (by rw [l_ltI (by omega) (by decide)]; exact hd), e1, bs] at h5
  obtain ⟨ν', e, f1, f2, f3⟩ := fin_dp hws g1
  rw [e] at h5
  exact ⟨ν', k, h5.symm, f1, f2, f3⟩
/-- the whole expression is read -/
theorem l_done (hn : n ≤ 700) (hB : ∀ i, i < n → B i < 256) (h : AtL B n k0 fi la ν0 A k xs ws 1 ts) (hx : NX B n k (ts 1)) (hp : ∀ a ∈ ws, a < 14) : ∃ ν', A = some ν' ∧ RB B n k0 fi la ν0 k ν' ∧ ν'.2.1 492 9 = 0 ∧ ν'.2.1 492 24 = I (k0 + (xs ++ ws.map I).length + 1) ∧ AtC (ν'.2.1 499) k0 (xs ++ ws.map I ++ [0]) ∧ k0 + (xs ++ ws.map I).length + 1 ≤ 2 * k := by
  obtain ⟨hws, ν, nn, fp, h1, h2, h5⟩ := l_end hn hB h hx (fun _ q => absurd (hp 14 q) (by decide))
  obtain ⟨nn, rfl⟩ : ∃ j, nn = j + 1 := ⟨nn - 1, by omega⟩
  have a7 := h1.2.2.2.2.2.2.1
  have a10 := h1.2.2.2.2.2.2.2.2.2.1
  have h1' : RE B n k0 fi la ν0 k k xs (ws ++ []) 1 ts 0 fp ν := by rw [List.append_nil]; exact h1
  obtain ⟨ν1, e1, g1⟩ := RE.drops (s := 0) (by decide) h1' (fun a ha => ⟨hp a ha, Nat.zero_le _⟩) (fun a l q => by cases q)
  obtain ⟨ν2, e2, g2, g3, g4, g5, g6⟩ := g1.puts0 0
  rw [fX11_expression_39, if_pos rfl, if_neg (g1t h1), a7, if_neg (by decide), show fX11_drops 492 (0 : Int32) ν = _ from e1, bs, e2, bs] at h5
  exact ⟨ν2, h5.symm, g2, g3, g5, g6, by rw [List.length_append, List.length_map]; omega⟩
end Sl
