/-! WORDS: a word as its letters, the last one first -/
def WL : List (List Nat) := [[101, 99, 97, 112], [115, 112, 101, 116, 115], [114, 97, 102], [116, 101, 109], [104, 116, 105, 119], [121, 97, 100], [107, 110, 105], [101, 99, 97, 108, 112], [100, 101, 101, 100], [101, 108, 105, 116, 115], [110, 111, 115, 114, 101, 112], [111, 116], [115, 101, 111, 103], [115, 101, 100, 97, 102], [100, 110, 97], [114, 111], [116, 111, 110]]
def wdR (B : Nat → Nat) (q : Nat) : Nat → List Nat
  | 0 => []
  | j + 1 => B (q + j) :: wdR B q j
def pkR : List Nat → Nat
  | [] => 0
  | c :: l => (c - 96) + 32 * pkR l
theorem pkR_inj : ∀ l l' : List Nat, (∀ c ∈ l, 97 ≤ c ∧ c ≤ 122) → (∀ c ∈ l', 97 ≤ c ∧ c ≤ 122) → pkR l = pkR l' → l = l' := by
  intro l
  induction l with
  | nil =>
    intro l' _ h' e
    cases l' with
    | nil => rfl
    | cons c l' =>
      have := h' c (by simp)
      unfold pkR at e
      omega
  | cons a l ih =>
    intro l' h h' e
    have ha := h a (by simp)
    cases l' with
    | nil =>
      unfold pkR at e
      omega
    | cons c l' =>
      have hc := h' c (by simp)
      simp only [pkR] at e
      have e1 : a = c := by omega
      have e2 : pkR l = pkR l' := by omega
      rw [e1, ih l' (fun x hx => h x (by simp [hx])) (fun x hx => h' x (by simp [hx])) e2]
theorem pkR_lt : ∀ l : List Nat, (∀ c ∈ l, 97 ≤ c ∧ c ≤ 122) → pkR l < 32 ^ l.length := by
  intro l
  induction l with
  | nil => intro _; exact Nat.one_pos
  | cons a l ih =>
    intro h
    have ha := h a (by simp)
    have := ih (fun x hx => h x (by simp [hx]))
    simp only [pkR, List.length_cons, Nat.pow_succ]
    omega
theorem wdR_len (B : Nat → Nat) (q : Nat) : ∀ j, (wdR B q j).length = j := by
  intro j
  induction j with
  | zero => rfl
  | succ j ih => simp only [wdR, List.length_cons, ih]
theorem wdR_mem {B : Nat → Nat} {q c : Nat} : ∀ j, c ∈ wdR B q j → ∃ i, i < j ∧ c = B (q + i) := by
  intro j
  induction j with
  | zero => intro h; cases h
  | succ j ih =>
    intro h
    rcases List.mem_cons.mp h with h | h
    · exact ⟨j, by omega, h⟩
    · obtain ⟨i, h1, h2⟩ := ih h
      exact ⟨i, by omega, h2⟩
theorem le96 : ∀ b : Fin 256, isLe b.1 = true → (I b.1 - (96 : Int32)).toInt64 = Int64.ofNat (b.1 - 96) := by decide +kernel
theorem shl5 (a c : Nat) (ha : a < 2 ^ 40) (hc : c < 32) : (Int64.ofNat a <<< ((5 : Int32).toInt64 &&& 63)) ||| Int64.ofNat c = Int64.ofNat (c + 32 * a) := by
  apply Int64.toBitVec_inj.1
  show (Int64.ofNat a <<< ((5 : Int32).toInt64 &&& 63)).toBitVec ||| (Int64.ofNat c).toBitVec = _
  rw [Int64.toBitVec_shiftLeft, show ((5 : Int32).toInt64 &&& 63).toBitVec.smod (64 : BitVec 64) = 5#64 by decide +kernel]
  apply BitVec.eq_of_toNat_eq
  rw [BitVec.toNat_or]
  show ((BitVec.ofNat 64 a) <<< (5#64)).toNat ||| (BitVec.ofNat 64 c).toNat = (BitVec.ofNat 64 (c + 32 * a)).toNat
  rw [BitVec.shiftLeft_eq', BitVec.toNat_shiftLeft]
  simp only [BitVec.toNat_ofNat]
  rw [Nat.mod_eq_of_lt (by omega : a < 2 ^ 64), Nat.mod_eq_of_lt (by omega : c < 2 ^ 64), Nat.mod_eq_of_lt (by omega : c + 32 * a < 2 ^ 64), show 5 % 2 ^ 64 = 5 from rfl]
  rw [Nat.shiftLeft_eq, Nat.mod_eq_of_lt (by omega : a * 2 ^ 5 < 2 ^ 64), ← Nat.shiftLeft_eq, ← Nat.shiftLeft_add_eq_or_of_lt (show c < 2 ^ 5 from hc), Nat.shiftLeft_eq]
  omega
theorem pkL_eq {B : Nat → Nat} {q : Nat} : ∀ j, j ≤ 6 → (∀ i, i < j → isLe (B (q + i)) = true) → pkL B q j = Int64.ofNat (pkR (wdR B q j)) := by
  intro j
  induction j with
  | zero => intro _ _; rfl
  | succ j ih =>
    intro hj h
    have hb := h j (by omega)
    have hb' : 97 ≤ B (q + j) ∧ B (q + j) ≤ 122 := by unfold isLe at hb; simpa using hb
    have hl : pkR (wdR B q j) < 2 ^ 40 := by
      have h1 := pkR_lt (wdR B q j) (fun c hc => by
        obtain ⟨i, h1, h2⟩ := wdR_mem j hc
        have := h i (by omega)
        unfold isLe at this
        rw [h2]
        simpa using this)
      rw [wdR_len] at h1
      have : 32 ^ j ≤ 32 ^ 6 := Nat.pow_le_pow_right (by decide) (by omega)
      omega
    rw [pkL, ih (by omega) (fun i hi => h i (by omega)), le96 ⟨B (q + j), by omega⟩ hb, shl5 _ _ hl (by show B (q + j) - 96 < 32; omega)]
    rfl
/-- which of the known words, from the k-th on -/
def kwL (l : List Nat) : Nat → Nat → Nat
  | 0, _ => 17
  | f + 1, k => if WL.getD k [] = l then k else kwL l f (k + 1)
theorem kwL_self : ∀ k : Fin 17, kwL (WL.getD k.1 []) 17 0 = k.1 := by decide +kernel
theorem kwL_le (l : List Nat) : ∀ f k, f + k = 17 → kwL l f k ≤ 17 ∧ k ≤ kwL l f k ∧ (kwL l f k < 17 → WL.getD (kwL l f k) [] = l) := by
  intro f
  induction f with
  | zero => intro k hk; unfold kwL; exact ⟨Nat.le_refl _, by omega, fun h => absurd h (by decide)⟩
  | succ f ih =>
    intro k hk
    unfold kwL
    by_cases h : WL.getD k [] = l
    · rw [if_pos h]; exact ⟨by omega, Nat.le_refl _, fun _ => h⟩
    · rw [if_neg h]
      have := ih (k + 1) (by omega)
      exact ⟨this.1, by omega, this.2.2⟩
/-- the word that a token is; none, if it is no word -/
def WD (B : Nat → Nat) (n q : Nat) : List Nat := if tkS B n q = 1 then wdR B q (tkE B n q - q) else []
def KW (B : Nat → Nat) (n q : Nat) : Nat := kwL (WD B n q) 17 0
theorem KW_le (B : Nat → Nat) (n q : Nat) : KW B n q ≤ 17 := (kwL_le _ 17 0 rfl).1
theorem KW_iff {B : Nat → Nat} {n q k : Nat} (hk : k < 17) : KW B n q = k ↔ WD B n q = WL.getD k [] := by
  constructor
  · intro h
    have := (kwL_le (WD B n q) 17 0 rfl).2.2 (by unfold KW at h; omega)
    unfold KW at h
    rw [h] at this
    exact this.symm
  · intro h
    unfold KW
    rw [h]
    exact kwL_self ⟨k, hk⟩
theorem WL_ok : ∀ k : Fin 17, (WL.getD k.1 []).length ≤ 6 ∧ (∀ c ∈ WL.getD k.1 [], 97 ≤ c ∧ c ≤ 122) ∧ WL.getD k.1 [] ≠ [] := by decide +kernel
theorem lett_ok : ∀ k : Fin 17, fX11_letters (I k.1) = Int64.ofNat (pkR (WL.getD k.1 [])) := by decide +kernel
theorem of64_inj {a b : Nat} (ha : a < 2 ^ 40) (hb : b < 2 ^ 40) (h : Int64.ofNat a = Int64.ofNat b) : a = b := by
  have h1 : (Int64.ofNat a).toBitVec.toNat = (Int64.ofNat b).toBitVec.toNat := congrArg (fun v : Int64 => v.toBitVec.toNat) h
  have e1 : (Int64.ofNat a).toBitVec.toNat = a := by
    show (BitVec.ofNat 64 a).toNat = a
    rw [BitVec.toNat_ofNat]; omega
  have e2 : (Int64.ofNat b).toBitVec.toNat = b := by
    show (BitVec.ofNat 64 b).toNat = b
    rw [BitVec.toNat_ofNat]; omega
  rw [e1, e2] at h1
  exact h1
theorem pk40 {l : List Nat} (h : ∀ c ∈ l, 97 ≤ c ∧ c ≤ 122) (hl : l.length ≤ 6) : pkR l < 2 ^ 40 := by
  have h1 := pkR_lt l h
  have : 32 ^ l.length ≤ 32 ^ 6 := Nat.pow_le_pow_right (by decide) hl
  omega
section Wo
variable {B : Nat → Nat} {n : Nat}
theorem tk1 {q : Nat} (h : tkS B n q = 1) : ∀ i, i < tkE B n q - q → isLe (B (q + i)) = true := by
  intro i hi
  have h0 := tkE_gt (B := B) (n := n) (q := q) (by omega)
  unfold tkS at h
  unfold tkE at hi
  rw [if_neg (by omega)] at h hi
  by_cases h1 : isLe (B q) = true
  · rw [if_pos h1] at hi
    exact (sc_mid (p := fun i => isLe (B i)) (n := n) (i := q) (q + i) (by omega) (by omega)).2
  · rw [if_neg h1] at h
    split at h
    · omega
    · split at h <;> omega
theorem WD_let {q : Nat} : ∀ c ∈ WD B n q, 97 ≤ c ∧ c ≤ 122 := by
  intro c hc
  unfold WD at hc
  by_cases h : tkS B n q = 1
  · rw [if_pos h] at hc
    obtain ⟨i, h1, h2⟩ := wdR_mem _ hc
    have := tk1 h i h1
    unfold isLe at this
    rw [h2]
    simpa using this
  · rw [if_neg h] at hc; cases hc
theorem kw21 {q : Nat} {M : Mem} (h1 : tkS B n q = 1) (hl : tkE B n q - q ≤ 6) (hw : M.2.2.1 492 19 = pkL B q (tkE B n q - q)) : ∀ f k m, f + k = 17 → f < m → fX11_knownWord_21 M m 492 (I k) = some (if kwL (WD B n q) f k = 17 then -1 else I (kwL (WD B n q) f k)) := by
  have hD : WD B n q = wdR B q (tkE B n q - q) := by unfold WD; rw [if_pos h1]
  intro f
  induction f with
  | zero =>
    intro k m hk hm
    obtain ⟨m, rfl⟩ : ∃ j, m = j + 1 := ⟨m - 1, by omega⟩
    obtain rfl : k = 17 := by omega
    rw [fX11_knownWord_21, if_neg (by decide)]
    rfl
  | succ f ih =>
    intro k m hk hm
    obtain ⟨m, rfl⟩ : ∃ j, m = j + 1 := ⟨m - 1, by omega⟩
    rw [fX11_knownWord_21, if_pos (by rw [I_ltl (by omega) (by decide)]; show k < 17; omega), lett_ok ⟨k, by omega⟩, hw, pkL_eq _ hl (tk1 h1), ← hD]
    have hk1 := WL_ok ⟨k, by omega⟩
    unfold kwL
    by_cases e : WL.getD k [] = WD B n q
    · rw [if_pos (by rw [e]), if_pos e, if_neg (by omega)]
    · rw [if_neg (fun h => e (pkR_inj _ _ hk1.2.1 WD_let (of64_inj (pk40 hk1.2.1 hk1.1) (pk40 WD_let (by rw [hD, wdR_len]; exact hl)) h))), if_neg e, I_addl, ih (k + 1) m (by omega) (by omega)]
theorem WL_len {l : List Nat} (h : 6 < l.length) : ∀ f k, f + k = 17 → kwL l f k = 17 := by
  intro f
  induction f with
  | zero => intro k _; rfl
  | succ f ih =>
    intro k hk
    unfold kwL
    have this : (WL.getD k []).length ≤ 6 := (WL_ok ⟨k, by omega⟩).1
    rw [if_neg (fun q => by rw [← q] at h; omega), ih (k + 1) (by omega)]
theorem KW_0 {q : Nat} (h : tkS B n q ≠ 1) : KW B n q = 17 := by
  have e : WD B n q = [] := by unfold WD; rw [if_neg h]
  unfold KW
  rw [e]
  decide
theorem known_ok (hn : n ≤ 700) {q : Nat} (hq : q ≤ n) {M : Mem} (hR : RTg B n q (M.2.1 492) (M.2.2.1 492)) : fX11_knownWord 492 M = some (if KW B n q = 17 then -1 else I (KW B n q)) := by
  obtain ⟨r12, r13, r14, r15, r16, r17, r18, r19⟩ := hR
  have hE := tkE_le (B := B) hq
  have hS4 : tkS B n q ≤ 4 := by
    unfold tkS
    split
    · omega
    · split
      · omega
      · split
        · omega
        · split <;> omega
  unfold fX11_knownWord
  rw [r14, r16]
  by_cases h1 : tkS B n q = 1
  · have hD : WD B n q = wdR B q (tkE B n q - q) := by unfold WD; rw [if_pos h1]
    rw [if_pos (by rw [h1]; rfl)]
    by_cases h6 : 6 < tkE B n q - q
    · rw [if_pos (by rw [l_ltI (by omega) (by decide)]; exact h6), if_pos (by unfold KW; exact WL_len (by rw [hD, wdR_len]; exact h6) 17 0 rfl)]
    · rw [if_neg (by rw [l_ltI (by omega) (by decide)]; exact h6)]
      exact kw21 h1 (by omega) (by rw [r19 h1, show min 6 (tkE B n q - q) = tkE B n q - q by omega]) 17 0 fuel rfl (by unfold fuel; omega)
  · rw [if_neg (show ¬ I (tkS B n q) = (1 : Int32) from fun e => h1 ((I_inj (m := 1) (by omega) (by omega)).mp e)), if_pos (KW_0 h1)]
/-! the class's words -/
def sbR (c : Nat → Nat) (i : Nat) : Nat → List Nat
  | 0 => []
  | j + 1 => c (i + j) :: sbR c i j
def CSt (s L : Nat) (c : Nat → Nat) : Prop := L < 1000 ∧ fJ0_length_8abf5 s = I L ∧ ∀ i, i < L → (∀ μ, fJ0_charAt_5068e s (I i) μ = some (I (c i))) ∧ c i < 256
theorem wdR_sbR {c : Nat → Nat} {q i : Nat} : ∀ d, wdR B q d = sbR c i d ↔ ∀ j, j < d → c (i + j) = B (q + j) := by
  intro d
  induction d with
  | zero => exact ⟨fun _ j hj => absurd hj (by omega), fun _ => rfl⟩
  | succ d ih =>
    simp only [wdR, sbR, List.cons.injEq]
    constructor
    · rintro ⟨h1, h2⟩ j hj
      by_cases e : j = d
      · rw [e]; exact h1.symm
      · exact ih.mp h2 j (by omega)
    · intro h
      exact ⟨(h d (by omega)).symm, ih.mpr (fun j hj => h j (by omega))⟩
theorem isAt20 (hn : n ≤ 700) (hB : ∀ i, i < n → B i < 256) {s L : Nat} {c : Nat → Nat} (hc : CSt s L c) {M : Mem} (hT : TX B n M) {q i d : Nat} (h4 : M.2.1 31 4 = I q) (hi : i + d ≤ L) (hq : q + d ≤ n) : ∀ f j m, f + j = d → f < m → (∀ k, k < j → c (i + k) = B (q + k)) → fX6_isAt_20 M m 31 s (I i) (I (i + d)) (I (i + j)) = some (if wdR B q d = sbR c i d then 1 else 0) := by
  have hL := hc.1
  intro f
  induction f with
  | zero =>
    intro j m hj hm hk
    obtain ⟨m, rfl⟩ : ∃ k, m = k + 1 := ⟨m - 1, by omega⟩
    obtain rfl : j = d := by omega
    rw [fX6_isAt_20, if_neg (by rw [I_lt (by omega) (by omega)]; omega), if_pos ((wdR_sbR j).mpr hk)]
  | succ f ih =>
    intro j m hj hm hk
    obtain ⟨m, rfl⟩ : ∃ k, m = k + 1 := ⟨m - 1, by omega⟩
    have hci := hc.2.2 (i + j) (by omega)
    have hbi := hB (q + j) (by omega)
    rw [fX6_isAt_20, if_pos (by rw [I_lt (by omega) (by omega)]; omega), hci.1, bs, hT.1, bs, h4, I_add, I_sub (by omega), show q + (i + j) - i = q + j by omega, hT.ld hn (by omega), bs]
    by_cases e : c (i + j) = B (q + j)
    · rw [if_pos (by rw [e]), I_addl]
      exact ih (j + 1) m (by omega) (by omega) (fun k hk' => by
        by_cases e2 : k = j
        · rw [e2]; exact e
        · exact hk k (by omega))
    · rw [if_neg (fun h => e ((I_inj (by omega) (by omega)).mp h)), if_neg (fun h => e ((wdR_sbR d).mp h j (by omega)))]
theorem isAt_ok (hn : n ≤ 700) (hB : ∀ i, i < n → B i < 256) {s L : Nat} {c : Nat → Nat} (hc : CSt s L c) {M : Mem} (hT : TX B n M) {q i d : Nat} (hq : q ≤ n) (hC : CTg B n q (M.2.1 31)) (hi : i + d ≤ L) (h1 : tkS B n q = 1) : fX6_isAt 31 s (I i) (I (i + d)) M = some (if WD B n q = sbR c i d then 1 else 0) := by
  have hL := hc.1
  have hE := tkE_le (B := B) hq
  have hD : WD B n q = wdR B q (tkE B n q - q) := by unfold WD; rw [if_pos h1]
  have hE2 := tkE_gt (B := B) (n := n) (q := q) (by omega)
  have len : ∀ j, (sbR c i j).length = j := by
    intro j
    induction j with
    | zero => rfl
    | succ j ih => simp only [sbR, List.length_cons, ih]
  unfold fX6_isAt
  rw [hC.2.1, hC.2.2.1, I_sub (by omega), I_sub (by omega), show i + d - i = d by omega]
  by_cases e : d = tkE B n q - q
  · rw [if_pos (by rw [e])]
    have := isAt20 hn hB hc hT hC.2.1 hi (by omega) d 0 fuel rfl (by unfold fuel; omega) (fun k hk => absurd hk (by omega))
    rw [Nat.add_zero] at this
    rw [this, hD, e]
  · rw [if_neg (fun h => e ((I_inj (by omega) (by omega)).mp h)), if_neg]
    intro h
    have := congrArg List.length h
    rw [hD, wdR_len, len] at this
    omega
theorem kind256 {q : Nat} {M : Mem} (hn : n ≤ 700) (hB : ∀ i, i < n → B i < 256) (hC : CTg B n q (M.2.1 31)) : (M.2.1 31 6 = (256 : Int32)) ↔ tkS B n q = 1 := by
  rw [hC.2.2.2.1]
  unfold kdI
  by_cases h0 : tkS B n q = 0
  · rw [if_pos h0, h0]; decide
  · rw [if_neg h0]
    by_cases h1 : tkS B n q = 1
    · rw [if_pos h1]; exact ⟨fun _ => h1, fun _ => rfl⟩
    · rw [if_neg h1]
      by_cases h2 : tkS B n q = 2
      · rw [if_pos h2, h2]; decide
      · rw [if_neg h2]
        by_cases h3 : tkS B n q = 3
        · rw [if_pos h3]
          have := hB q (tkE_gt (B := B) (n := n) (q := q) h0).2
          exact ⟨fun e => absurd ((I_inj (m := 256) (by omega) (by omega)).mp e) (by omega), fun e => absurd e h1⟩
        · rw [if_neg h3]
          exact ⟨fun e => absurd e (by decide), fun e => absurd e h1⟩
theorem sbR_ne {c : Nat → Nat} {i d : Nat} (hd : 0 < d) : sbR c i d ≠ [] := by
  obtain ⟨d, rfl⟩ : ∃ k, d = k + 1 := ⟨d - 1, by omega⟩
  simp [sbR]
theorem isWord_ok (hn : n ≤ 700) (hB : ∀ i, i < n → B i < 256) {s L : Nat} {c : Nat → Nat} (hc : CSt s L c) (hL : 0 < L) {M : Mem} (hT : TX B n M) {q : Nat} (hq : q ≤ n) (hC : CTg B n q (M.2.1 31)) : fX6_isWord 31 s M = some (if WD B n q = sbR c 0 L then 1 else 0) := by
  unfold fX6_isWord
  by_cases h1 : tkS B n q = 1
  · have h := isAt_ok hn hB hc hT hq hC (i := 0) (d := L) (by omega) h1
    rw [Nat.zero_add] at h
    rw [if_pos ((kind256 hn hB hC).mpr h1), hc.2.1, show fX6_isAt 31 s (0 : Int32) (I L) M = _ from h, bs]
    by_cases e : WD B n q = sbR c 0 L
    · rw [if_pos e, if_neg (by decide)]
    · rw [if_neg e, if_pos rfl]
  · rw [if_neg (fun e => h1 ((kind256 hn hB hC).mp e)), if_neg]
    intro h
    unfold WD at h
    rw [if_neg h1] at h
    exact sbR_ne hL h.symm
/-- a word of a list, and what stands behind it -/
theorem wof_run {s L : Nat} {c : Nat → Nat} (hc : CSt s L c) {M : Mem} (w f : Int32) : ∀ d i m, i + d ≤ L → (∀ j, j < d → c (i + j) ≠ 32) → fX6_wordOf_7 M (m + d) 31 s w f (I i) = fX6_wordOf_7 M m 31 s w f (I (i + d)) := by
  have hL := hc.1
  intro d
  induction d with
  | zero => intro i m _ _; rfl
  | succ d ih =>
    intro i m hi hj
    have hci := hc.2.2 i (by omega)
    rw [show m + (d + 1) = (m + d) + 1 by omega, fX6_wordOf_7, hc.2.1, if_neg (by rw [I_lt (by omega) (by omega)]; omega), if_neg (fun e => by have := (I_inj (by omega) (by omega)).mp e; omega), hci.1, bs, if_neg (show ¬ I (c i) = (32 : Int32) from fun e => hj 0 (by omega) (by rw [Nat.add_zero]; exact (I_inj (m := 32) (by omega) (by omega)).mp e)), I_addl, show i + OfNat.ofNat 1 = i + 1 from rfl, ih (i + 1) m (by omega) (fun j h1 => by rw [show i + 1 + j = i + (j + 1) by omega]; exact hj (j + 1) (by omega)), show i + 1 + d = i + (d + 1) by omega]
theorem wof_w (hn : n ≤ 700) (hB : ∀ i, i < n → B i < 256) {s L : Nat} {c : Nat → Nat} (hc : CSt s L c) {M : Mem} (hT : TX B n M) {q : Nat} (hq : q ≤ n) (hC : CTg B n q (M.2.1 31)) {i d : Nat} (hd : 0 < d) (w m : Nat) (hi : i + d ≤ L) (hj : ∀ j, j < d → c (i + j) ≠ 32) (he : i + d = L ∨ c (i + d) = 32) : fX6_wordOf_7 M (m + 1 + d) 31 s (I w) (I i) (I i) = if WD B n q = sbR c i d then some (I w) else fX6_wordOf_7 M m 31 s (I (w + 1)) (I (i + d + 1)) (I (i + d + 1)) := by
  have hL := hc.1
  rw [wof_run hc (I w) (I i) d i (m + 1) hi hj, fX6_wordOf_7, hc.2.1, if_neg (by rw [I_lt (by omega) (by omega)]; omega)]
  have key : (if M.2.1 31 6 = (256 : Int32) then (fX6_isAt 31 s (I i) (I (i + d)) M).bind fun r8 => if r8 = 0 then fX6_wordOf_7 M m 31 s (I w + 1) (I (i + d) + 1) (I (i + d) + 1) else some (I w) else fX6_wordOf_7 M m 31 s (I w + 1) (I (i + d) + 1) (I (i + d) + 1)) = if WD B n q = sbR c i d then some (I w) else fX6_wordOf_7 M m 31 s (I (w + 1)) (I (i + d + 1)) (I (i + d + 1)) := by
    rw [I_addl, I_addl]
    by_cases h1 : tkS B n q = 1
    · rw [if_pos ((kind256 hn hB hC).mpr h1), isAt_ok hn hB hc hT hq hC hi h1, bs]
      by_cases e : WD B n q = sbR c i d
      · rw [if_pos e, if_pos e, if_neg (by decide)]
      · rw [if_neg e, if_neg e, if_pos rfl]
    · rw [if_neg (fun e => h1 ((kind256 hn hB hC).mp e)), if_neg]
      intro h
      unfold WD at h
      rw [if_neg h1] at h
      exact sbR_ne hd h.symm
  by_cases hE : i + d = L
  · rw [if_pos (by rw [hE])]
    exact key
  · have hci := hc.2.2 (i + d) (by omega)
    have h32 : c (i + d) = 32 := by rcases he with h | h; exact absurd h hE; exact h
    rw [if_neg (fun e => hE ((I_inj (by omega) (by omega)).mp e)), hci.1, bs, if_pos (by rw [h32]; rfl)]
    exact key
def c_LN (i : Nat) : Nat := ([100, 101, 101, 100, 32, 115, 116, 105, 108, 101, 32, 112, 101, 114, 115, 111, 110, 32, 103, 111, 101, 115, 32, 102, 97, 100, 101, 115] : List Nat).getD i 0
theorem l_LN : fJ0_length_8abf5 3 = I 28 := by decide +kernel
theorem s_LN0 : ∀ i : Fin 28, fJ0_charAt_5068e 3 (I i.1) mem0 = some (I (c_LN i.1)) ∧ c_LN i.1 < 256 := by decide +kernel
theorem s_LN : CSt 3 28 c_LN := ⟨by decide, l_LN, fun i hi => ⟨fun μ => (s_LN0 ⟨i, hi⟩).1, (s_LN0 ⟨i, hi⟩).2⟩⟩
def c_GV (i : Nat) : Nat := ([112, 97, 99, 101, 32, 115, 116, 101, 112, 115, 32, 102, 97, 114, 32, 119, 105, 116, 104, 32, 109, 101, 116, 32, 100, 97, 121] : List Nat).getD i 0
theorem l_GV : fJ0_length_8abf5 0 = I 27 := by decide +kernel
theorem s_GV0 : ∀ i : Fin 27, fJ0_charAt_5068e 0 (I i.1) mem0 = some (I (c_GV i.1)) ∧ c_GV i.1 < 256 := by decide +kernel
theorem s_GV : CSt 0 27 c_GV := ⟨by decide, l_GV, fun i hi => ⟨fun μ => (s_GV0 ⟨i, hi⟩).1, (s_GV0 ⟨i, hi⟩).2⟩⟩
def c_FV (i : Nat) : Nat := ([105, 110, 107, 32, 112, 108, 97, 99, 101, 32, 100, 101, 101, 100, 32, 119, 105, 116, 104, 32, 100, 97, 121] : List Nat).getD i 0
theorem l_FV : fJ0_length_8abf5 8 = I 23 := by decide +kernel
theorem s_FV0 : ∀ i : Fin 23, fJ0_charAt_5068e 8 (I i.1) mem0 = some (I (c_FV i.1)) ∧ c_FV i.1 < 256 := by decide +kernel
theorem s_FV : CSt 8 23 c_FV := ⟨by decide, l_FV, fun i hi => ⟨fun μ => (s_FV0 ⟨i, hi⟩).1, (s_FV0 ⟨i, hi⟩).2⟩⟩
def c_w_to (i : Nat) : Nat := ([116, 111] : List Nat).getD i 0
theorem l_w_to : fJ0_length_8abf5 4 = I 2 := by decide +kernel
theorem s_w_to0 : ∀ i : Fin 2, fJ0_charAt_5068e 4 (I i.1) mem0 = some (I (c_w_to i.1)) ∧ c_w_to i.1 < 256 := by decide +kernel
theorem s_w_to : CSt 4 2 c_w_to := ⟨by decide, l_w_to, fun i hi => ⟨fun μ => (s_w_to0 ⟨i, hi⟩).1, (s_w_to0 ⟨i, hi⟩).2⟩⟩
def c_w_not (i : Nat) : Nat := ([110, 111, 116] : List Nat).getD i 0
theorem l_w_not : fJ0_length_8abf5 5 = I 3 := by decide +kernel
theorem s_w_not0 : ∀ i : Fin 3, fJ0_charAt_5068e 5 (I i.1) mem0 = some (I (c_w_not i.1)) ∧ c_w_not i.1 < 256 := by decide +kernel
theorem s_w_not : CSt 5 3 c_w_not := ⟨by decide, l_w_not, fun i hi => ⟨fun μ => (s_w_not0 ⟨i, hi⟩).1, (s_w_not0 ⟨i, hi⟩).2⟩⟩
def c_w_and (i : Nat) : Nat := ([97, 110, 100] : List Nat).getD i 0
theorem l_w_and : fJ0_length_8abf5 6 = I 3 := by decide +kernel
theorem s_w_and0 : ∀ i : Fin 3, fJ0_charAt_5068e 6 (I i.1) mem0 = some (I (c_w_and i.1)) ∧ c_w_and i.1 < 256 := by decide +kernel
theorem s_w_and : CSt 6 3 c_w_and := ⟨by decide, l_w_and, fun i hi => ⟨fun μ => (s_w_and0 ⟨i, hi⟩).1, (s_w_and0 ⟨i, hi⟩).2⟩⟩
def c_w_or (i : Nat) : Nat := ([111, 114] : List Nat).getD i 0
theorem l_w_or : fJ0_length_8abf5 7 = I 2 := by decide +kernel
theorem s_w_or0 : ∀ i : Fin 2, fJ0_charAt_5068e 7 (I i.1) mem0 = some (I (c_w_or i.1)) ∧ c_w_or i.1 < 256 := by decide +kernel
theorem s_w_or : CSt 7 2 c_w_or := ⟨by decide, l_w_or, fun i hi => ⟨fun μ => (s_w_or0 ⟨i, hi⟩).1, (s_w_or0 ⟨i, hi⟩).2⟩⟩
theorem is_w_to (hn : n ≤ 700) (hB : ∀ i, i < n → B i < 256) {M : Mem} (hT : TX B n M) {q : Nat} (hq : q ≤ n) (hC : CTg B n q (M.2.1 31)) : fX6_isWord 31 4 M = some (if KW B n q = 11 then 1 else 0) := by
  rw [isWord_ok hn hB s_w_to (by decide) hT hq hC, show sbR c_w_to 0 2 = WL.getD 11 [] by decide +kernel]
  by_cases h : WD B n q = WL.getD 11 []
  · rw [if_pos h, if_pos ((KW_iff (by decide)).mpr h)]
  · rw [if_neg h, if_neg (fun e => h ((KW_iff (by decide)).mp e))]
theorem is_w_not (hn : n ≤ 700) (hB : ∀ i, i < n → B i < 256) {M : Mem} (hT : TX B n M) {q : Nat} (hq : q ≤ n) (hC : CTg B n q (M.2.1 31)) : fX6_isWord 31 5 M = some (if KW B n q = 16 then 1 else 0) := by
  rw [isWord_ok hn hB s_w_not (by decide) hT hq hC, show sbR c_w_not 0 3 = WL.getD 16 [] by decide +kernel]
  by_cases h : WD B n q = WL.getD 16 []
  · rw [if_pos h, if_pos ((KW_iff (by decide)).mpr h)]
  · rw [if_neg h, if_neg (fun e => h ((KW_iff (by decide)).mp e))]
theorem is_w_and (hn : n ≤ 700) (hB : ∀ i, i < n → B i < 256) {M : Mem} (hT : TX B n M) {q : Nat} (hq : q ≤ n) (hC : CTg B n q (M.2.1 31)) : fX6_isWord 31 6 M = some (if KW B n q = 14 then 1 else 0) := by
  rw [isWord_ok hn hB s_w_and (by decide) hT hq hC, show sbR c_w_and 0 3 = WL.getD 14 [] by decide +kernel]
  by_cases h : WD B n q = WL.getD 14 []
  · rw [if_pos h, if_pos ((KW_iff (by decide)).mpr h)]
  · rw [if_neg h, if_neg (fun e => h ((KW_iff (by decide)).mp e))]
theorem is_w_or (hn : n ≤ 700) (hB : ∀ i, i < n → B i < 256) {M : Mem} (hT : TX B n M) {q : Nat} (hq : q ≤ n) (hC : CTg B n q (M.2.1 31)) : fX6_isWord 31 7 M = some (if KW B n q = 15 then 1 else 0) := by
  rw [isWord_ok hn hB s_w_or (by decide) hT hq hC, show sbR c_w_or 0 2 = WL.getD 15 [] by decide +kernel]
  by_cases h : WD B n q = WL.getD 15 []
  · rw [if_pos h, if_pos ((KW_iff (by decide)).mpr h)]
  · rw [if_neg h, if_neg (fun e => h ((KW_iff (by decide)).mp e))]
def wf_LN (v : Nat) : Int32 := if v = 8 then I 0 else if v = 9 then I 1 else if v = 10 then I 2 else if v = 12 then I 3 else if v = 13 then I 4 else -1
theorem wf_LN_ok (hn : n ≤ 700) (hB : ∀ i, i < n → B i < 256) {M : Mem} (hT : TX B n M) {q : Nat} (hq : q ≤ n) (hC : CTg B n q (M.2.1 31)) : fX6_wordOf 31 3 M = some (wf_LN (KW B n q)) := by
  unfold fX6_wordOf wf_LN
  show fX6_wordOf_7 M ((((((4970 + 1) + 1 + 5) + 1 + 4) + 1 + 6) + 1 + 5) + 1 + 4) 31 3 (I 0) (I 0) (I 0) = _
  rw [wof_w hn hB s_LN hT hq hC (i := 0) (d := 4) (by decide) 0 _ (by decide) (by decide) (by decide), show sbR c_LN 0 4 = WL.getD 8 [] by decide +kernel]
  by_cases h0 : KW B n q = 8
  · rw [if_pos ((KW_iff (by decide)).mp h0), if_pos h0]
  · rw [if_neg (fun e => h0 ((KW_iff (by decide)).mpr e)), if_neg h0]
    rw [wof_w hn hB s_LN hT hq hC (i := 5) (d := 5) (by decide) 1 _ (by decide) (by decide) (by decide), show sbR c_LN 5 5 = WL.getD 9 [] by decide +kernel]
    by_cases h1 : KW B n q = 9
    · rw [if_pos ((KW_iff (by decide)).mp h1), if_pos h1]
    · rw [if_neg (fun e => h1 ((KW_iff (by decide)).mpr e)), if_neg h1]
      rw [wof_w hn hB s_LN hT hq hC (i := 11) (d := 6) (by decide) 2 _ (by decide) (by decide) (by decide), show sbR c_LN 11 6 = WL.getD 10 [] by decide +kernel]
      by_cases h2 : KW B n q = 10
      · rw [if_pos ((KW_iff (by decide)).mp h2), if_pos h2]
      · rw [if_neg (fun e => h2 ((KW_iff (by decide)).mpr e)), if_neg h2]
        rw [wof_w hn hB s_LN hT hq hC (i := 18) (d := 4) (by decide) 3 _ (by decide) (by decide) (by decide), show sbR c_LN 18 4 = WL.getD 12 [] by decide +kernel]
        by_cases h3 : KW B n q = 12
        · rw [if_pos ((KW_iff (by decide)).mp h3), if_pos h3]
        · rw [if_neg (fun e => h3 ((KW_iff (by decide)).mpr e)), if_neg h3]
          rw [wof_w hn hB s_LN hT hq hC (i := 23) (d := 5) (by decide) 4 _ (by decide) (by decide) (by decide), show sbR c_LN 23 5 = WL.getD 13 [] by decide +kernel]
          by_cases h4 : KW B n q = 13
          · rw [if_pos ((KW_iff (by decide)).mp h4), if_pos h4]
          · rw [if_neg (fun e => h4 ((KW_iff (by decide)).mpr e)), if_neg h4]
            rw [fX6_wordOf_7, l_LN, if_pos (by decide)]
def wf_GV (v : Nat) : Int32 := if v = 0 then I 0 else if v = 1 then I 1 else if v = 2 then I 2 else if v = 4 then I 3 else if v = 3 then I 4 else if v = 5 then I 5 else -1
theorem wf_GV_ok (hn : n ≤ 700) (hB : ∀ i, i < n → B i < 256) {M : Mem} (hT : TX B n M) {q : Nat} (hq : q ≤ n) (hC : CTg B n q (M.2.1 31)) : fX6_wordOf 31 0 M = some (wf_GV (KW B n q)) := by
  unfold fX6_wordOf wf_GV
  show fX6_wordOf_7 M (((((((4971 + 1) + 1 + 3) + 1 + 3) + 1 + 4) + 1 + 3) + 1 + 5) + 1 + 4) 31 0 (I 0) (I 0) (I 0) = _
  rw [wof_w hn hB s_GV hT hq hC (i := 0) (d := 4) (by decide) 0 _ (by decide) (by decide) (by decide), show sbR c_GV 0 4 = WL.getD 0 [] by decide +kernel]
  by_cases h0 : KW B n q = 0
  · rw [if_pos ((KW_iff (by decide)).mp h0), if_pos h0]
  · rw [if_neg (fun e => h0 ((KW_iff (by decide)).mpr e)), if_neg h0]
    rw [wof_w hn hB s_GV hT hq hC (i := 5) (d := 5) (by decide) 1 _ (by decide) (by decide) (by decide), show sbR c_GV 5 5 = WL.getD 1 [] by decide +kernel]
    by_cases h1 : KW B n q = 1
    · rw [if_pos ((KW_iff (by decide)).mp h1), if_pos h1]
    · rw [if_neg (fun e => h1 ((KW_iff (by decide)).mpr e)), if_neg h1]
      rw [wof_w hn hB s_GV hT hq hC (i := 11) (d := 3) (by decide) 2 _ (by decide) (by decide) (by decide), show sbR c_GV 11 3 = WL.getD 2 [] by decide +kernel]
      by_cases h2 : KW B n q = 2
      · rw [if_pos ((KW_iff (by decide)).mp h2), if_pos h2]
      · rw [if_neg (fun e => h2 ((KW_iff (by decide)).mpr e)), if_neg h2]
        rw [wof_w hn hB s_GV hT hq hC (i := 15) (d := 4) (by decide) 3 _ (by decide) (by decide) (by decide), show sbR c_GV 15 4 = WL.getD 4 [] by decide +kernel]
        by_cases h3 : KW B n q = 4
        · rw [if_pos ((KW_iff (by decide)).mp h3), if_pos h3]
        · rw [if_neg (fun e => h3 ((KW_iff (by decide)).mpr e)), if_neg h3]
          rw [wof_w hn hB s_GV hT hq hC (i := 20) (d := 3) (by decide) 4 _ (by decide) (by decide) (by decide), show sbR c_GV 20 3 = WL.getD 3 [] by decide +kernel]
          by_cases h4 : KW B n q = 3
          · rw [if_pos ((KW_iff (by decide)).mp h4), if_pos h4]
          · rw [if_neg (fun e => h4 ((KW_iff (by decide)).mpr e)), if_neg h4]
            rw [wof_w hn hB s_GV hT hq hC (i := 24) (d := 3) (by decide) 5 _ (by decide) (by decide) (by decide), show sbR c_GV 24 3 = WL.getD 5 [] by decide +kernel]
            by_cases h5 : KW B n q = 5
            · rw [if_pos ((KW_iff (by decide)).mp h5), if_pos h5]
            · rw [if_neg (fun e => h5 ((KW_iff (by decide)).mpr e)), if_neg h5]
              rw [fX6_wordOf_7, l_GV, if_pos (by decide)]
def wf_FV (v : Nat) : Int32 := if v = 6 then I 0 else if v = 7 then I 1 else if v = 8 then I 2 else if v = 4 then I 3 else if v = 5 then I 4 else -1
theorem wf_FV_ok (hn : n ≤ 700) (hB : ∀ i, i < n → B i < 256) {M : Mem} (hT : TX B n M) {q : Nat} (hq : q ≤ n) (hC : CTg B n q (M.2.1 31)) : fX6_wordOf 31 8 M = some (wf_FV (KW B n q)) := by
  unfold fX6_wordOf wf_FV
  show fX6_wordOf_7 M ((((((4975 + 1) + 1 + 3) + 1 + 4) + 1 + 4) + 1 + 5) + 1 + 3) 31 8 (I 0) (I 0) (I 0) = _
  rw [wof_w hn hB s_FV hT hq hC (i := 0) (d := 3) (by decide) 0 _ (by decide) (by decide) (by decide), show sbR c_FV 0 3 = WL.getD 6 [] by decide +kernel]
  by_cases h0 : KW B n q = 6
  · rw [if_pos ((KW_iff (by decide)).mp h0), if_pos h0]
  · rw [if_neg (fun e => h0 ((KW_iff (by decide)).mpr e)), if_neg h0]
    rw [wof_w hn hB s_FV hT hq hC (i := 4) (d := 5) (by decide) 1 _ (by decide) (by decide) (by decide), show sbR c_FV 4 5 = WL.getD 7 [] by decide +kernel]
    by_cases h1 : KW B n q = 7
    · rw [if_pos ((KW_iff (by decide)).mp h1), if_pos h1]
    · rw [if_neg (fun e => h1 ((KW_iff (by decide)).mpr e)), if_neg h1]
      rw [wof_w hn hB s_FV hT hq hC (i := 10) (d := 4) (by decide) 2 _ (by decide) (by decide) (by decide), show sbR c_FV 10 4 = WL.getD 8 [] by decide +kernel]
      by_cases h2 : KW B n q = 8
      · rw [if_pos ((KW_iff (by decide)).mp h2), if_pos h2]
      · rw [if_neg (fun e => h2 ((KW_iff (by decide)).mpr e)), if_neg h2]
        rw [wof_w hn hB s_FV hT hq hC (i := 15) (d := 4) (by decide) 3 _ (by decide) (by decide) (by decide), show sbR c_FV 15 4 = WL.getD 4 [] by decide +kernel]
        by_cases h3 : KW B n q = 4
        · rw [if_pos ((KW_iff (by decide)).mp h3), if_pos h3]
        · rw [if_neg (fun e => h3 ((KW_iff (by decide)).mpr e)), if_neg h3]
          rw [wof_w hn hB s_FV hT hq hC (i := 20) (d := 3) (by decide) 4 _ (by decide) (by decide) (by decide), show sbR c_FV 20 3 = WL.getD 5 [] by decide +kernel]
          by_cases h4 : KW B n q = 5
          · rw [if_pos ((KW_iff (by decide)).mp h4), if_pos h4]
          · rw [if_neg (fun e => h4 ((KW_iff (by decide)).mpr e)), if_neg h4]
            rw [fX6_wordOf_7, l_FV, if_pos (by decide)]
end Wo
