/-! EXPRESSIONS: the reference's steps -/
section Sp
variable {B : Nat → Nat} {n k0 fi la : Nat} {ν0 : Mem} {k b dep : Nat} {xs : List Int32} {ws : List Nat} {ts : Nat → Bool} {fk fp : Int32} {ν : Mem} {A : Option Mem}
theorem RE.tst2 (h : RE B n k0 fi la ν0 k b xs ws dep ts fk fp ν) (v : Bool) {w : Int32} (hw : w = bI v) : ∃ ν', gR ν 492 33 2 = some 501 ∧ stI ν 501 (ν.2.1 492 28) w = some ν' ∧ RE B n k0 fi la ν0 k b xs ws dep (up ts dep v) fk fp ν' := by
  have hd := h.2.2.2.2.2.2.1
  have hd6 := h.2.2.2.2.2.2.2.2.2.2.2.2.1
  obtain ⟨ν', e, h'⟩ := h.tst v
  have hg := g_492_33 h.1.1.1
  refine ⟨ν', hg, ?_, h'⟩
  rw [hg, bs] at e
  rw [hw]
  rw [hd, st_501 (by omega)] at e ⊢
  rw [bs] at e
  exact e
/-- the last cell of an expression -/
theorem RE.puts0 (h : RE B n k0 fi la ν0 k b xs ws dep ts fk fp ν) (x : Int32) : ∃ ν', fX11_puts 492 x ν = some ν' ∧ RB B n k0 fi la ν0 k ν' ∧ ν'.2.1 492 9 = fk ∧ ν'.2.1 492 10 = fp ∧ ν'.2.1 492 24 = I (k0 + xs.length + 1) ∧ AtC (ν'.2.1 499) k0 (xs ++ [x]) := by
  obtain ⟨a1, a2, a3, a4, a5, a6, a7, a8, a9, a10, a11, a12, a13, a14⟩ := h
  unfold fX11_puts
  rw [g_492_31 a1.1.1, bs, a3, st_499 (by omega), bs, bs, sI_C, sC_n _ _ (by decide : (492 : Nat) ≠ 499), a3, I_addl]
  have q := (a1.c (c := 499) (i := k0 + xs.length) x (Or.inl ⟨rfl, by omega⟩)).f (f := 24) (I (k0 + xs.length + 1)) (by omega)
  rw [sC_n _ _ (by decide : (492 : Nat) ≠ 499)] at q
  refine ⟨_, rfl, q, ?_, ?_, ?_, ?_⟩
  · rw [sC_s, up_n _ _ (by decide)]; exact a2
  · rw [sC_s, up_n _ _ (by decide)]; exact a14
  · rw [sC_s, up_s]
  · rw [sC_n _ _ (by decide), sC_s]; exact AtC_snoc x a4
theorem ws_split : ∀ ws : List Nat, (∀ a ∈ ws, a ≤ 14) → ∃ p base, ws = p ++ base ∧ (∀ a ∈ p, a < 14) ∧ ∀ a l, base = a :: l → a = 14 := by
  intro ws
  induction ws with
  | nil => intro _; exact ⟨[], [], rfl, (fun a h => by cases h), (fun a l h => by cases h)⟩
  | cons a ws ih =>
    intro h
    by_cases e : a = 14
    · exact ⟨[], a :: ws, rfl, (fun a h => by cases h), (fun c l q => by injection q with q1 q2; rw [← q1]; exact e)⟩
    · obtain ⟨p, base, h1, h2, h3⟩ := ih (fun c hc => h c (by simp [hc]))
      refine ⟨a :: p, base, by rw [h1]; rfl, ?_, h3⟩
      intro c hc
      rcases List.mem_cons.mp hc with q | q
      · have := h a (by simp); omega
      · exact h2 c q
/-- where the reference's run stands: at the loop's head, at an operand, behind nots -/
def AtL (B : Nat → Nat) (n k0 fi la : Nat) (ν0 : Mem) (A : Option Mem) (k : Nat) (xs : List Int32) (ws : List Nat) (dep : Nat) (ts : Nat → Bool) : Prop := (∀ a ∈ ws, a ≤ 14) ∧ ∃ ν nn fp, RE B n k0 fi la ν0 k k xs ws dep ts 0 fp ν ∧ 710 ≤ nn + k ∧ fX11_expression_39 nn 492 1 ν = A
def AtP (B : Nat → Nat) (n k0 fi la : Nat) (ν0 : Mem) (A : Option Mem) (k : Nat) (xs : List Int32) (ws : List Nat) (dep : Nat) (ts : Nat → Bool) (mn : Int32) : Prop := (∀ a ∈ ws, a ≤ 14) ∧ ∃ ν nn m fp, RE B n k0 fi la ν0 k k xs ws dep ts 0 fp ν ∧ 710 ≤ nn + k ∧ 8 ≤ m + dep ∧ ((fX11_operand_4 m 492 mn 1 ν).bind fun μ => fX11_expression_39 nn 492 1 μ) = A
def AtN (B : Nat → Nat) (n k0 fi la : Nat) (ν0 : Mem) (A : Option Mem) (k : Nat) (xs : List Int32) (ws : List Nat) (dep : Nat) (ts : Nat → Bool) (c : Nat) (mn : Int32) : Prop := (∀ a ∈ ws, a ≤ 14) ∧ ∃ ν nn m f fp, RE B n k0 fi la ν0 k k xs ws dep ts 0 fp ν ∧ 710 ≤ nn + k ∧ 8 ≤ m + 1 + dep ∧ 9 ≤ f + c ∧ ((fX11_operand_18 (fX11_operand_4 m) f 492 mn (I c) ν).bind fun μ => fX11_expression_39 nn 492 1 μ) = A
/-- a fault of this kind at this token -/
def AtF (B : Nat → Nat) (n k0 fi la : Nat) (ν0 : Mem) (A : Option Mem) (w : Int32) (p : Nat) : Prop := ∃ ν j, A = some ν ∧ RB B n k0 fi la ν0 j ν ∧ ν.2.1 492 9 = w ∧ ν.2.1 492 10 = I (Pq B n p)
theorem fin_dp (hws : ∀ a ∈ ws, a ≤ 14) (h : RE B n k0 fi la ν0 k b xs ws dep ts fk fp ν) : ∃ ν', ((fX11_drops 492 (0 : Int32) ν).bind fun μ5 => (fX11_puts 492 (0 : Int32) μ5).bind fun μ9 => some μ9) = some ν' ∧ RB B n k0 fi la ν0 k ν' ∧ ν'.2.1 492 9 = fk ∧ ν'.2.1 492 10 = fp := by
  obtain ⟨p, base, e, h1, h2⟩ := ws_split ws hws
  rw [e] at h
  obtain ⟨ν1, e1, g1⟩ := RE.drops (s := 0) (by decide) h (fun a ha => ⟨h1 a ha, Nat.zero_le _⟩) (fun a l q => Or.inl (h2 a l q))
  obtain ⟨ν2, e2, g2, g3, g4, _⟩ := g1.puts0 0
  exact ⟨ν2, by rw [show fX11_drops 492 (0 : Int32) ν = _ from e1, bs, e2, bs], g2, g3, g4⟩
theorem g0f {w : Int32} (hw : w ≠ 0) (h : RE B n k0 fi la ν0 k b xs ws dep ts w fp ν) : fX11_isGood 492 ν = 0 := by
  rw [h.good, if_neg hw]
theorem g1t (h : RE B n k0 fi la ν0 k b xs ws dep ts 0 fp ν) : ¬ fX11_isGood 492 ν = 0 := by
  rw [h.good, if_pos rfl]
  decide
/-- a fault has been told: the loop ends -/
theorem fin_f {w : Int32} (hw : w ≠ 0) (hws : ∀ a ∈ ws, a ≤ 14) {p : Nat} (h : RE B n k0 fi la ν0 k b xs ws dep ts w (I (Pq B n p)) ν) {nn : Nat} (hnn : 0 < nn) (v3 : Int32) : AtF B n k0 fi la ν0 (fX11_expression_39 nn 492 v3 ν) w p := by
  obtain ⟨nn, rfl⟩ : ∃ j, nn = j + 1 := ⟨nn - 1, by omega⟩
  obtain ⟨ν', e, g1, g2, g3⟩ := fin_dp hws h
  refine ⟨ν', k, ?_, g1, g2, g3⟩
  rw [fX11_expression_39]
  by_cases h3 : v3 = 0
  · rw [if_pos h3, if_pos (g0f hw h)]; exact e
  · rw [if_neg h3, if_pos (g0f hw h), if_pos (g0f hw h)]; exact e
/-- and within an operand -/
theorem fin_o {w : Int32} (hw : w ≠ 0) (hws : ∀ a ∈ ws, a ≤ 14) {p : Nat} (h : RE B n k0 fi la ν0 k b xs ws dep ts w (I (Pq B n p)) ν) {nn m : Nat} (hnn : 0 < nn) (hm : 0 < m) (mn v3 : Int32) : AtF B n k0 fi la ν0 ((fX11_operand_4 m 492 mn v3 ν).bind fun μ => fX11_expression_39 nn 492 1 μ) w p := by
  obtain ⟨m, rfl⟩ : ∃ j, m = j + 1 := ⟨m - 1, by omega⟩
  have hpt : fX11_part 492 ν = some ν := by
    unfold fX11_part
    rw [if_pos (g0f hw h)]
  have e : fX11_operand_4 (m + 1) 492 mn v3 ν = some ν := by
    rw [fX11_operand_4]
    by_cases h3 : v3 = 0
    · rw [if_pos h3, hpt, bs]
    · rw [if_neg h3, if_pos (g0f hw h), hpt, bs]
  rw [e, bs]
  exact fin_f hw hws h hnn 1
theorem p_n {mn : Int32} (h : AtP B n k0 fi la ν0 A k xs ws dep ts mn) : AtN B n k0 fi la ν0 A k xs ws dep ts 0 mn := by
  obtain ⟨hws, ν, nn, m, fp, h1, h2, h3, h4⟩ := h
  have hd := h1.2.2.2.2.2.2.2.2.2.2.2.2.1
  obtain ⟨m, rfl⟩ : ∃ j, m = j + 1 := ⟨m - 1, by omega⟩
  rw [fX11_operand_4, if_neg (by decide), if_neg (g1t h1)] at h4
  exact ⟨hws, ν, nn, m, fuel, fp, h1, h2, h3, by unfold fuel; omega, h4⟩
theorem kwv {k : Nat} (v : Nat) (hv : v < 17) : ((if KW B n (Pq B n k) = 17 then (-1 : Int32) else I (KW B n (Pq B n k))) = I v) ↔ KW B n (Pq B n k) = v := by
  have := KW_le B n (Pq B n k)
  by_cases e : KW B n (Pq B n k) = 17
  · rw [if_pos e]
    exact ⟨fun q => absurd q.symm (I_m1 (by omega)), fun q => by omega⟩
  · rw [if_neg e, I_inj (by omega) (by omega)]
theorem wg (hn : n ≤ 700) (hB : ∀ i, i < n → B i < 256) (h : RE B n k0 fi la ν0 k k xs ws dep ts 0 fp ν) (hS : tkS B n (Pq B n k) ≠ 0) (a : Nat) : ∃ ν1 ν2, fX11_waitsFor 492 (I a) ν = some ν1 ∧ fX11_goes 492 ν1 = some ν2 ∧ RE B n k0 fi la ν0 (k + 1) (k + 1) xs (a :: ws) dep ts 0 fp ν2 := by
  have hk := (S_k k hS).2
  have q1 := h.2.2.2.2.2.2.2.2.1
  have q2 := h.2.2.2.2.2.2.2.2.2.1
  obtain ⟨ν1, e1, h1⟩ := (h.bm (b' := k + 1) (by omega) (by omega)).wait a (by omega) (by omega)
  obtain ⟨ν2, e2, h2⟩ := h1.goes hn hB hS
  exact ⟨ν1, ν2, e1, e2, h2⟩
theorem wtg (hn : n ≤ 700) (hB : ∀ i, i < n → B i < 256) (h : RE B n k0 fi la ν0 k k xs ws dep ts 0 fp ν) (hS : tkS B n (Pq B n k) ≠ 0) (a : Nat) (v : Bool) {w : Int32} (hw : w = bI v) : ∃ ν1 ν2 ν3, fX11_waitsFor 492 (I a) ν = some ν1 ∧ gR ν1 492 33 2 = some 501 ∧ stI ν1 501 (ν1.2.1 492 28) w = some ν2 ∧ fX11_goes 492 ν2 = some ν3 ∧ RE B n k0 fi la ν0 (k + 1) (k + 1) xs (a :: ws) dep (up ts dep v) 0 fp ν3 := by
  have hk := (S_k k hS).2
  have q1 := h.2.2.2.2.2.2.2.2.1
  have q2 := h.2.2.2.2.2.2.2.2.2.1
  obtain ⟨ν1, e1, h1⟩ := (h.bm (b' := k + 1) (by omega) (by omega)).wait a (by omega) (by omega)
  obtain ⟨ν2, e2, e3, h2⟩ := h1.tst2 v hw
  obtain ⟨ν3, e4, h3⟩ := h2.goes hn hB hS
  exact ⟨ν1, ν2, ν3, e1, e2, e3, e4, h3⟩
theorem KW_S {q : Nat} (h : KW B n q ≠ 17) : tkS B n q = 1 := Classical.byContradiction fun e => h (KW_0 e)
/-- a not -/
theorem n_not (hn : n ≤ 700) (hB : ∀ i, i < n → B i < 256) {c : Nat} (hc : c < 6) (h : AtN B n k0 fi la ν0 A k xs ws dep ts c 1) (hw : KW B n (Pq B n k) = 16) : AtN B n k0 fi la ν0 A (k + 1) xs (3 :: ws) dep ts (c + 1) 1 := by
  obtain ⟨hws, ν, nn, m, f, fp, h1, h2, h3, h4, h5⟩ := h
  obtain ⟨f, rfl⟩ : ∃ j, f = j + 1 := ⟨f - 1, by omega⟩
  have hS : tkS B n (Pq B n k) ≠ 0 := by rw [KW_S (by omega)]; decide
  obtain ⟨ν1, ν2, e1, e2, g2⟩ := wg hn hB h1 hS 3
  rw [fX11_operand_18, if_neg (g1t h1), if_neg (by decide), h1.word hn, bs, if_pos (show (if KW B n (Pq B n k) = 17 then (-1 : Int32) else I (KW B n (Pq B n k))) = (16 : Int32) from (kwv 16 (by decide)).mpr hw), if_neg (show ¬ I c = (6 : Int32) from fun q => by have := (I_inj (m := 6) (by omega) (by omega)).mp q; omega), if_neg (g1t h1), show fX11_waitsFor 492 (3 : Int32) ν = _ from e1, bs, e2, bs, I_addl] at h5
  exact ⟨fun a ha => by rcases List.mem_cons.mp ha with q | q; omega; exact hws a q, ν2, nn, m, f, fp, g2, by omega, h3, by show 9 ≤ f + (c + 1); omega, h5⟩
theorem n_not6 (hn : n ≤ 700) (h : AtN B n k0 fi la ν0 A k xs ws dep ts 6 1) (hw : KW B n (Pq B n k) = 16) : AtF B n k0 fi la ν0 A 2 k := by
  obtain ⟨hws, ν, nn, m, f, fp, h1, h2, h3, h4, h5⟩ := h
  obtain ⟨f, rfl⟩ : ∃ j, f = j + 2 := ⟨f - 2, by omega⟩
  have hd := h1.2.2.2.2.2.2.2.2.2.2.2.2.1
  have hk := h1.2.2.2.2.2.2.2.2.2.2.2.1
  obtain ⟨ν1, e1, g1⟩ := h1.wrong 2
  have gb := g0f (by decide) g1
  rw [fX11_operand_18, if_neg (g1t h1), if_neg (by decide), h1.word hn, bs, if_pos (show (if KW B n (Pq B n k) = 17 then (-1 : Int32) else I (KW B n (Pq B n k))) = (16 : Int32) from (kwv 16 (by decide)).mpr hw), if_pos (show I 6 = (6 : Int32) from rfl), e1, bs, if_pos gb, fX11_operand_18, if_pos gb, if_pos gb, if_pos rfl] at h5
  rw [← h5]
  exact fin_o (by decide) hws g1 (by omega) (by omega) 1 0
/-- behind the nots -/
theorem n_end (hn : n ≤ 700) (hB : ∀ i, i < n → B i < 256) {c : Nat} (hc : c ≤ 6) {mn : Int32} (hmn : mn = 0 ∨ KW B n (Pq B n k) ≠ 16) (h : AtN B n k0 fi la ν0 A k xs ws dep ts c mn) : (∀ a ∈ ws, a ≤ 14) ∧ ∃ ν nn m fp, RE B n k0 fi la ν0 k k xs ws dep ts 0 fp ν ∧ 710 ≤ nn + k ∧ 8 ≤ m + 1 + dep ∧ (if sg B n k 40 = true then ((fX11_waitsFor 492 (14 : Int32) ν).bind fun μ149 => (fX11_goes 492 μ149).bind fun μ153 => (fX11_deeper 492 μ153).bind fun μ157 => fX11_operand_4 m 492 (1 : Int32) (1 : Int32) μ157).bind (fun μ => fX11_expression_39 nn 492 1 μ) else (fX11_operand_4 m 492 mn (0 : Int32) ν).bind fun μ => fX11_expression_39 nn 492 1 μ) = A := by
  obtain ⟨hws, ν, nn, m, f, fp, h1, h2, h3, h4, h5⟩ := h
  obtain ⟨f, rfl⟩ : ∃ j, f = j + 1 := ⟨f - 1, by omega⟩
  refine ⟨hws, ν, nn, m, fp, h1, h2, h3, ?_⟩
  rw [fX11_operand_18, if_neg (g1t h1)] at h5
  have hsg := h1.sign hB (c := 40) (by decide)
  have hsg' : fX11_isSign 492 (40 : Int32) ν = if sg B n k 40 = true then 1 else 0 := hsg
  by_cases hz : mn = 0
  · rw [if_pos hz, if_neg (g1t h1), hsg'] at h5
    by_cases e : sg B n k 40 = true
    · rw [if_pos e, if_neg (by decide), if_neg (by decide)] at h5
      rw [if_pos e]; exact h5
    · rw [if_neg e, if_pos rfl, if_pos rfl] at h5
      rw [if_neg e]; exact h5
  · rw [if_neg hz, h1.word hn, bs, if_neg (show ¬ (if KW B n (Pq B n k) = 17 then (-1 : Int32) else I (KW B n (Pq B n k))) = (16 : Int32) from fun q => by rcases hmn with w | w; exact hz w; exact w ((kwv 16 (by decide)).mp q)), if_neg (g1t h1), hsg'] at h5
    by_cases e : sg B n k 40 = true
    · rw [if_pos e, if_neg (by decide), if_neg (by decide)] at h5
      rw [if_pos e]; exact h5
    · rw [if_neg e, if_pos rfl, if_pos rfl] at h5
      rw [if_neg e]; exact h5
/-- a parenthesis -/
theorem n_open (hn : n ≤ 700) (hB : ∀ i, i < n → B i < 256) {c : Nat} (hc : c ≤ 6) {mn : Int32} (hmn : mn = 0 ∨ KW B n (Pq B n k) ≠ 16) (h : AtN B n k0 fi la ν0 A k xs ws dep ts c mn) (hp : sg B n k 40 = true) (hd6 : dep < 6) : AtP B n k0 fi la ν0 A (k + 1) xs (14 :: ws) (dep + 1) (up ts (dep + 1) false) 1 := by
  obtain ⟨hws, ν, nn, m, fp, h1, h2, h3, h5⟩ := n_end hn hB hc hmn h
  rw [if_pos hp] at h5
  have hS : tkS B n (Pq B n k) ≠ 0 := by rw [(sg_iff.mp hp).1]; decide
  obtain ⟨ν1, ν2, e1, e2, g2⟩ := wg hn hB h1 hS 14
  have a7 := g2.2.2.2.2.2.2.1
  have hD : ∃ ν3, fX11_deeper 492 ν2 = some ν3 ∧ RE B n k0 fi la ν0 (k + 1) (k + 1) xs (14 :: ws) (dep + 1) (up ts (dep + 1) false) 0 fp ν3 := by
    unfold fX11_deeper
    rw [a7, if_pos (by rw [I_ltl (by omega) (by decide)]; exact hd6), bs, sI_C, I_addl]
    obtain ⟨b1, b2, b3, b4, b5, b6, b7, b8, b9, b10, b11, b12, b13, b14⟩ := g2
    rw [g_492_33 (b1.1.1.sC _ _), bs, sC_s, up_s, show dep + OfNat.ofNat 1 = dep + 1 from rfl, st_501 (by omega), bs, sC_n _ _ (by decide : (501 : Nat) ≠ 492)]
    have q := (b1.f (f := 28) (I (dep + 1)) (by omega)).c (c := 501) (i := dep + 1) (0 : Int32) (Or.inr (Or.inr rfl))
    rw [sC_n _ _ (by decide : (501 : Nat) ≠ 492)] at q
    refine ⟨_, rfl, q, ?_, ?_, ?_, ?_, ?_, ?_, ?_, b9, b10, b11, b12, by omega, ?_⟩
    · rw [sC_n _ _ (by decide), sC_s, up_n _ _ (by decide)]; exact b2
    · rw [sC_n _ _ (by decide), sC_s, up_n _ _ (by decide)]; exact b3
    · rw [sC_n _ _ (by decide), sC_n _ _ (by decide)]; exact b4
    · rw [sC_n _ _ (by decide), sC_s, up_n _ _ (by decide)]; exact b5
    · rw [sC_n _ _ (by decide), sC_n _ _ (by decide)]; exact b6
    · rw [sC_n _ _ (by decide), sC_s, up_s]
    · intro d hd1 hd
      rw [sC_s, up_e, up_e]
      by_cases e : d = dep + 1
      · rw [if_pos e, if_pos e]; rfl
      · rw [if_neg e, if_neg e]; exact b8 d hd1 (by omega)
    · rw [sC_n _ _ (by decide), sC_s, up_n _ _ (by decide)]; exact b14
  obtain ⟨ν3, e3, g3⟩ := hD
  rw [show fX11_waitsFor 492 (14 : Int32) ν = _ from e1, bs, e2, bs, e3, bs] at h5
  exact ⟨fun a ha => by rcases List.mem_cons.mp ha with q | q; omega; exact hws a q, ν3, nn, m, fp, g3, by omega, by omega, h5⟩
/-- one too deep -/
theorem n_deep (hn : n ≤ 700) (hB : ∀ i, i < n → B i < 256) {c : Nat} (hc : c ≤ 6) {mn : Int32} (hmn : mn = 0 ∨ KW B n (Pq B n k) ≠ 16) (h : AtN B n k0 fi la ν0 A k xs ws 6 ts c mn) (hp : sg B n k 40 = true) : AtF B n k0 fi la ν0 A (if tkS B n (Pq B n (k + 1)) = 2 ∨ tkS B n (Pq B n (k + 1)) = 1 ∨ sg B n (k + 1) 40 = true then 2 else 1) (k + 1) := by
  obtain ⟨hws, ν, nn, m, fp, h1, h2, h3, h5⟩ := n_end hn hB hc hmn h
  rw [if_pos hp] at h5
  have hS : tkS B n (Pq B n k) ≠ 0 := by rw [(sg_iff.mp hp).1]; decide
  obtain ⟨ν1, ν2, e1, e2, g2⟩ := wg hn hB h1 hS 14
  have hk := g2.2.2.2.2.2.2.2.2.2.2.2.1
  have a7 := g2.2.2.2.2.2.2.1
  have a14 := g2.1.2.1.2.2.1
  have hS4 := S_4 (B := B) (n := n) (Pq B n (k + 1))
  have hws' : ∀ a ∈ 14 :: ws, a ≤ 14 := fun a ha => by rcases List.mem_cons.mp ha with q | q; omega; exact hws a q
  obtain ⟨ν3, e3, g3⟩ := g2.wrong (if tkS B n (Pq B n (k + 1)) = 2 ∨ tkS B n (Pq B n (k + 1)) = 1 ∨ sg B n (k + 1) 40 = true then 2 else 1) (by split <;> decide)
  have hD : fX11_deeper 492 ν2 = some ν3 := by
    unfold fX11_deeper
    rw [a7, if_neg (by decide), a14]
    by_cases s2 : tkS B n (Pq B n (k + 1)) = 2
    · rw [if_pos (Or.inl s2)] at e3
      rw [if_pos (by rw [s2]; rfl), e3, bs]
    · rw [if_neg (show ¬ I (tkS B n (Pq B n (k + 1))) = (2 : Int32) from fun q => s2 ((I_inj (m := 2) (by omega) (by omega)).mp q))]
      by_cases s1 : tkS B n (Pq B n (k + 1)) = 1
      · rw [if_pos (Or.inr (Or.inl s1))] at e3
        rw [if_pos (by rw [s1]; rfl), e3, bs]
      · rw [if_neg (show ¬ I (tkS B n (Pq B n (k + 1))) = (1 : Int32) from fun q => s1 ((I_inj (m := 1) (by omega) (by omega)).mp q)), show fX11_isSign 492 (40 : Int32) ν2 = _ from g2.sign hB (c := 40) (by decide)]
        by_cases s3 : sg B n (k + 1) 40 = true
        · rw [if_pos (Or.inr (Or.inr s3))] at e3
          rw [if_pos s3, if_neg (by decide), e3, bs]
        · rw [if_neg (by rintro (q | q | q); exact s2 q; exact s1 q; exact s3 q)] at e3
          rw [if_neg s3, if_pos rfl, e3, bs]
  rw [show fX11_waitsFor 492 (14 : Int32) ν = _ from e1, bs, e2, bs, hD, bs] at h5
  rw [← h5]
  exact fin_o (by split <;> decide) hws' g3 (by omega) (by omega) 1 1
/-- an operand of one token -/
theorem n_part (hn : n ≤ 700) (hB : ∀ i, i < n → B i < 256) (hfi : fi ≤ 16) (hla : la ≤ 16) {c : Nat} (hc : c ≤ 6) {mn : Int32} (hmn : mn = 0 ∨ KW B n (Pq B n k) ≠ 16) (h : AtN B n k0 fi la ν0 A k xs ws dep ts c mn) (hp : ¬ sg B n k 40 = true) :
    (tkS B n (Pq B n k) = 2 ∧ tkE B n (Pq B n k) - Pq B n k ≤ 4 → AtL B n k0 fi la ν0 A (k + 1) (xs ++ [1, I (tkV B n (Pq B n k))]) ws dep ts) ∧
    (tkS B n (Pq B n k) = 2 ∧ ¬ tkE B n (Pq B n k) - Pq B n k ≤ 4 → AtF B n k0 fi la ν0 A 2 k) ∧
    (tkS B n (Pq B n k) = 1 ∧ fi ≤ KW B n (Pq B n k) ∧ KW B n (Pq B n k) ≤ la → AtL B n k0 fi la ν0 A (k + 1) (xs ++ [2, I (KW B n (Pq B n k))]) ws dep ts) ∧
    (tkS B n (Pq B n k) = 1 ∧ ¬ (fi ≤ KW B n (Pq B n k) ∧ KW B n (Pq B n k) ≤ la) → AtF B n k0 fi la ν0 A 3 k) ∧
    (tkS B n (Pq B n k) ≠ 2 ∧ tkS B n (Pq B n k) ≠ 1 → AtF B n k0 fi la ν0 A 1 k) := by
  obtain ⟨hws, ν, nn, m, fp, h1, h2, h3, h5⟩ := n_end hn hB hc hmn h
  rw [if_neg hp] at h5
  have hd := h1.2.2.2.2.2.2.2.2.2.2.2.2.1
  have hk := h1.2.2.2.2.2.2.2.2.2.2.2.1
  obtain ⟨m, rfl⟩ : ∃ j, m = j + 1 := ⟨m - 1, by omega⟩
  rw [fX11_operand_4, if_pos rfl] at h5
  have hS4 := S_4 (B := B) (n := n) (Pq B n k)
  have hKW := KW_le B n (Pq B n k)
  have hE := tkE_le (B := B) (Pq_le (B := B) (n := n) k)
  have q2 := h1.2.2.2.2.2.2.2.2.2.1
  have t14 := h1.1.2.1.2.2.1
  have t16 := h1.1.2.1.2.2.2.2.1
  have t25 := h1.1.2.2.2.1
  have t26 := h1.1.2.2.2.2
  -- two cells, and then
  have two : ∀ (y x w fp' : Int32) (μ : Mem), tkS B n (Pq B n k) ≠ 0 → RE B n k0 fi la ν0 k k xs ws dep ts w fp' μ → ∃ μ1 μ2, fX11_puts 492 y μ = some μ1 ∧ fX11_puts 492 x μ1 = some μ2 ∧ μ1.2.1 492 17 = μ.2.1 492 17 ∧ RE B n k0 fi la ν0 k (k + 1) (xs ++ [y, x]) ws dep ts w fp' μ2 := by
    intro y x w fp' μ hS g
    have hk1 := (S_k k hS).2
    obtain ⟨μ1, e1, g1⟩ := (g.bm (b' := k + 1) (by omega) (by omega)).puts y (by omega)
    obtain ⟨μ2, e2, g2⟩ := g1.puts x (by rw [List.length_append]; show k0 + (xs.length + 1) + ws.length + 2 ≤ 2 * (k + 1); omega)
    rw [List.append_assoc] at g2
    refine ⟨μ1, μ2, e1, e2, ?_, g2⟩
    unfold fX11_puts at e1
    have a3 := g.2.2.1
    rw [g_492_31 g.1.1.1, bs, a3, st_499 (by omega), bs, bs, sI_C] at e1
    obtain rfl := Option.some.inj e1
    rw [sC_s, up_n _ _ (by decide), sC_n _ _ (by decide)]
  refine ⟨?_, ?_, ?_, ?_, ?_⟩
  · rintro ⟨s2, hl⟩
    have hS : tkS B n (Pq B n k) ≠ 0 := by omega
    obtain ⟨μ1, μ2, e1, e2, e17, g2⟩ := two 1 (I (tkV B n (Pq B n k))) 0 fp ν hS h1
    obtain ⟨μ3, e3, g3⟩ := g2.goes hn hB hS
    unfold fX11_part at h5
    rw [if_neg (g1t h1), t14, if_pos (by rw [s2]; rfl), t16, if_neg (by rw [l_ltI (by omega) (by decide)]; show ¬ 4 < _; omega), e1, bs, e17, h1.1.2.1.2.2.2.2.2.1 s2, e2, bs, if_neg (g1t g2), e3, bs, bs] at h5
    exact ⟨hws, μ3, nn, fp, g3, by omega, h5⟩
  · rintro ⟨s2, hl⟩
    have hS : tkS B n (Pq B n k) ≠ 0 := by omega
    obtain ⟨μ0, e0, g0⟩ := h1.wrong 2
    obtain ⟨μ1, μ2, e1, e2, e17, g2⟩ := two 1 (μ0.2.1 492 17) 2 _ μ0 hS g0
    unfold fX11_part at h5
    rw [if_neg (g1t h1), t14, if_pos (by rw [s2]; rfl), t16, if_pos (by rw [l_ltI (by omega) (by decide)]; show 4 < _; omega), e0, bs, e1, bs, e17, e2, bs, if_pos (g0f (by decide) g2), bs] at h5
    rw [← h5]
    exact fin_f (by decide) hws g2 (by omega) 1
  · rintro ⟨s1, hf, hl⟩
    have hS : tkS B n (Pq B n k) ≠ 0 := by omega
    obtain ⟨μ1, μ2, e1, e2, e17, g2⟩ := two 2 (I (KW B n (Pq B n k))) 0 fp ν hS h1
    obtain ⟨μ3, e3, g3⟩ := g2.goes hn hB hS
    unfold fX11_part at h5
    rw [if_neg (g1t h1), t14, if_neg (by rw [s1]; decide), if_pos (by rw [s1]; rfl), h1.word hn, bs, if_neg (show ¬ KW B n (Pq B n k) = 17 by omega), t25, if_neg (by rw [I_lt (by omega) (by omega)]; omega), t26, if_neg (by rw [I_lt (by omega) (by omega)]; omega), e1, bs, e2, bs, if_neg (g1t g2), e3, bs, bs] at h5
    exact ⟨hws, μ3, nn, fp, g3, by omega, h5⟩
  · rintro ⟨s1, hv⟩
    have hS : tkS B n (Pq B n k) ≠ 0 := by omega
    obtain ⟨μ0, e0, g0⟩ := h1.wrong 3
    obtain ⟨μ1, μ2, e1, e2, e17, g2⟩ := two 2 (if KW B n (Pq B n k) = 17 then -1 else I (KW B n (Pq B n k))) 3 _ μ0 hS g0
    unfold fX11_part at h5
    rw [if_neg (g1t h1), t14, if_neg (by rw [s1]; decide), if_pos (by rw [s1]; rfl), h1.word hn, bs, t25, t26, e0, bs, e1, bs, e2, bs, if_pos (g0f (by decide) g2)] at h5
    by_cases z1 : (if KW B n (Pq B n k) = 17 then (-1 : Int32) else I (KW B n (Pq B n k))) < I fi
    · rw [if_pos z1, bs] at h5
      rw [← h5]
      exact fin_f (by decide) hws g2 (by omega) 1
    · rw [if_neg z1] at h5
      by_cases z2 : I la < (if KW B n (Pq B n k) = 17 then (-1 : Int32) else I (KW B n (Pq B n k)))
      · rw [if_pos z2, bs] at h5
        rw [← h5]
        exact fin_f (by decide) hws g2 (by omega) 1
      · exfalso
        by_cases e : KW B n (Pq B n k) = 17
        · rw [if_pos e] at z1
          exact z1 (m1_lt (by omega))
        · rw [if_neg e] at z1 z2
          rw [I_lt (by omega) (by omega)] at z1 z2
          omega
  · rintro ⟨s2, s1⟩
    obtain ⟨μ0, e0, g0⟩ := h1.wrong 1
    unfold fX11_part at h5
    rw [if_neg (g1t h1), t14, if_neg (show ¬ I (tkS B n (Pq B n k)) = (2 : Int32) from fun q => s2 ((I_inj (m := 2) (by omega) (by omega)).mp q)), if_neg (show ¬ I (tkS B n (Pq B n k)) = (1 : Int32) from fun q => s1 ((I_inj (m := 1) (by omega) (by omega)).mp q)), e0, bs, if_pos (g0f (by decide) g0), bs] at h5
    rw [← h5]
    exact fin_f (by decide) hws g0 (by omega) 1
end Sp
