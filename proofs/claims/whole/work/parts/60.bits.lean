/-! THE CLASS: sets of places as bits -/
def mb (l : Int64) (x : Nat) : Bool := l.toBitVec.getLsbD x
theorem mb_ge {l : Int64} {x : Nat} (h : 64 ≤ x) : mb l x = false := BitVec.getLsbD_of_ge _ _ h
theorem mb_ext {a b : Int64} (h : ∀ x, x < 64 → mb a x = mb b x) : a = b := by
  rw [← Int64.toBitVec_inj]
  exact BitVec.eq_of_getLsbD_eq (fun i hi => h i hi)
theorem mb_and (a b : Int64) (x : Nat) : mb (a &&& b) x = (mb a x && mb b x) := BitVec.getLsbD_and
theorem mb_or (a b : Int64) (x : Nat) : mb (a ||| b) x = (mb a x || mb b x) := BitVec.getLsbD_or
theorem m1_bits : (-1 : Int64).toBitVec = BitVec.allOnes 64 := by decide +kernel
theorem mb_not {a : Int64} {x : Nat} (hx : x < 64) : mb (a ^^^ (-1 : Int64)) x = !mb a x := by
  unfold mb
  rw [Int64.toBitVec_xor, BitVec.getLsbD_xor, m1_bits, BitVec.getLsbD_allOnes, decide_eq_true hx]
  simp
theorem mb_0 (x : Nat) : mb 0 x = false := by
  unfold mb
  rw [show (0 : Int64).toBitVec = 0#64 from rfl]
  exact BitVec.getLsbD_zero
theorem bit_bv : ∀ k : Fin 64, (fX10_bit (I k.1)).toBitVec = BitVec.twoPow 64 k.1 := by decide +kernel
theorem mb_bit {k : Nat} (hk : k < 64) (x : Nat) : mb (fX10_bit (I k)) x = decide (x = k) := by
  unfold mb
  rw [bit_bv ⟨k, hk⟩, BitVec.getLsbD_twoPow, decide_eq_true hk]
  simp [eq_comm]
theorem and_bit0 {a : Int64} {k : Nat} (hk : k < 64) : (a &&& fX10_bit (I k) = 0) = (mb a k = false) := by
  apply propext
  constructor
  · intro h
    have := congrArg (fun l => mb l k) h
    simp only [mb_and, mb_bit hk, mb_0, decide_true, Bool.and_true] at this
    exact this
  · intro h
    apply mb_ext
    intro x _
    rw [mb_and, mb_bit hk, mb_0]
    by_cases e : x = k
    · subst e; rw [h]; rfl
    · simp [e]
theorem eq0_iff {a : Int64} : (a = 0) = (∀ x, mb a x = false) := by
  apply propext
  constructor
  · rintro rfl x; exact mb_0 x
  · intro h
    exact mb_ext (fun x _ => by rw [h x, mb_0])
theorem ne0_iff {a : Int64} : ¬ a = 0 ↔ ∃ x, mb a x = true := by
  rw [eq0_iff]
  constructor
  · intro h
    by_cases q : ∃ x, mb a x = true
    · exact q
    · exact absurd (fun x => by
        cases hx : mb a x
        · rfl
        · exact absurd ⟨x, hx⟩ q) h
  · rintro ⟨x, hx⟩ h
    rw [h x] at hx
    cases hx
theorem shl1 (v : Int64) (x : Nat) : mb (v <<< ((1 : Int32).toInt64 &&& 63)) x = (decide (x < 64) && !decide (x < 1) && mb v (x - 1)) := by
  unfold mb
  rw [Int64.toBitVec_shiftLeft, show ((1 : Int32).toInt64 &&& 63).toBitVec.smod (64 : BitVec 64) = 1#64 by decide +kernel, BitVec.getLsbD_shiftLeft']
  rfl
theorem shl8 (v : Int64) (x : Nat) : mb (v <<< ((8 : Int32).toInt64 &&& 63)) x = (decide (x < 64) && !decide (x < 8) && mb v (x - 8)) := by
  unfold mb
  rw [Int64.toBitVec_shiftLeft, show ((8 : Int32).toInt64 &&& 63).toBitVec.smod (64 : BitVec 64) = 8#64 by decide +kernel, BitVec.getLsbD_shiftLeft']
  rfl
theorem shr1 (v : Int64) (x : Nat) : mb ((v.toUInt64 >>> ((1 : Int32).toInt64.toUInt64 &&& Int64.toUInt64 63)).toInt64) x = mb v (1 + x) := by
  show (v.toUInt64 >>> ((1 : Int32).toInt64.toUInt64 &&& Int64.toUInt64 63)).toBitVec.getLsbD x = _
  rw [UInt64.toBitVec_shiftRight, show ((1 : Int32).toInt64.toUInt64 &&& Int64.toUInt64 63).toBitVec % (64 : BitVec 64) = 1#64 by decide +kernel, BitVec.ushiftRight_eq', BitVec.getLsbD_ushiftRight]
  rfl
theorem shr8 (v : Int64) (x : Nat) : mb ((v.toUInt64 >>> ((8 : Int32).toInt64.toUInt64 &&& Int64.toUInt64 63)).toInt64) x = mb v (8 + x) := by
  show (v.toUInt64 >>> ((8 : Int32).toInt64.toUInt64 &&& Int64.toUInt64 63)).toBitVec.getLsbD x = _
  rw [UInt64.toBitVec_shiftRight, show ((8 : Int32).toInt64.toUInt64 &&& Int64.toUInt64 63).toBitVec % (64 : BitVec 64) = 8#64 by decide +kernel, BitVec.ushiftRight_eq', BitVec.getLsbD_ushiftRight]
  rfl
theorem msk1 : ∀ x : Fin 48, mb (-1103823438082 : Int64) x.1 = decide (x.1 % 8 ≠ 0) := by decide +kernel
theorem msk2 : ∀ x : Fin 48, mb (-141289400074369 : Int64) x.1 = decide (x.1 % 8 ≠ 7) := by decide +kernel
theorem mb_beside {g : Nat} {v : Int64} {μ : Mem} {x : Nat} (hx : x < 48) : mb (fX5_beside g v μ) x = ((((!decide (x < 1) && mb v (x - 1) && decide (x % 8 ≠ 0)) || (mb v (1 + x) && decide (x % 8 ≠ 7)) || (!decide (x < 8) && (mb v (x - 8) && mb (μ.2.2.1 g 2) (x - 8)))) || (mb v (8 + x) && mb (μ.2.2.1 g 2) x)) && mb (μ.2.2.1 g 0) x) := by
  unfold fX5_beside
  have h64 : decide (x < 64) = true := decide_eq_true (by omega)
  simp only [mb_and, mb_or, shl1, shl8, shr1, shr8, msk1 ⟨x, hx⟩, msk2 ⟨x, hx⟩, h64, Bool.true_and]
/-- the ground at g shows the row's places -/
def GD (C : Cel) (r : Row) (g : Nat) (μ : Mem) : Prop := (∀ x, mb (μ.2.2.1 g 0) x = there C x) ∧ (∀ x, mb (μ.2.2.1 g 1) x = wh C r x) ∧ (∀ x, mb (μ.2.2.1 g 2) x = stl r x)
theorem beside_iff {C : Cel} {r : Row} {g : Nat} {μ : Mem} (hC : C.ok) (hs : StOK C r) (h : GD C r g μ) {v : Int64} (hv : ∀ x, mb v x = true → there C x = true) (y : Nat) : mb (fX5_beside g v μ) y = true ↔ there C y = true ∧ ∃ x, mb v x = true ∧ adj C r x y = true := by
  by_cases hy : y < 48
  · rw [mb_beside hy, h.1 y, h.2.2 y, h.2.2 (y - 8)]
    simp only [Bool.and_eq_true, Bool.or_eq_true, Bool.not_eq_true', decide_eq_false_iff_not, decide_eq_true_eq, Nat.not_lt]
    constructor
    · rintro ⟨h1, hyt⟩
      refine ⟨hyt, ?_⟩
      have t0 := there_iff.mp hyt
      have t1 := hC.2.2 _ t0.1
      rcases h1 with ((h2 | h2) | h2) | h2
      · refine ⟨y - 1, h2.1.2, adj_iff.mpr (Or.inl ⟨by omega, ?_⟩)⟩
        have e1 : (y - 1) / 8 = y / 8 := by omega
        rw [e1]
        omega
      · refine ⟨1 + y, h2.1, adj_iff.mpr (Or.inr (Or.inl ⟨by omega, ?_⟩))⟩
        have t2 := there_iff.mp (hv _ h2.1)
        have e1 : (1 + y) / 8 = y / 8 := by omega
        rw [e1] at t2
        omega
      · exact ⟨y - 8, h2.2.1, adj_iff.mpr (Or.inr (Or.inr (Or.inl ⟨by omega, h2.2.2⟩)))⟩
      · exact ⟨8 + y, h2.1, adj_iff.mpr (Or.inr (Or.inr (Or.inr ⟨by omega, h2.2⟩)))⟩
    · rintro ⟨hyt, x, hx, ha⟩
      refine ⟨?_, hyt⟩
      have hxt := hv x hx
      have t0 := there_iff.mp hxt
      have t1 := hC.2.2 _ t0.1
      have hx48 := there_lt hC hxt
      rcases adj_iff.mp ha with ⟨rfl, h2⟩ | ⟨rfl, h2⟩ | ⟨rfl, h2⟩ | ⟨rfl, h2⟩
      · refine Or.inl (Or.inl (Or.inl ⟨⟨by omega, ?_⟩, by omega⟩))
        rw [Nat.add_sub_cancel]; exact hx
      · refine Or.inl (Or.inl (Or.inr ⟨?_, ?_⟩))
        · rw [Nat.add_comm]; exact hx
        · have := hC.2.2 (y / 8) (by omega)
          omega
      · refine Or.inl (Or.inr ⟨by omega, ?_⟩)
        rw [Nat.add_sub_cancel]
        exact ⟨hx, h2⟩
      · refine Or.inr ⟨?_, h2⟩
        rw [Nat.add_comm]; exact hx
  · have hnt : ¬ there C y = true := fun q => hy (there_lt hC q)
    constructor
    · intro q
      exfalso
      unfold fX5_beside at q
      rw [mb_and, h.1 y, Bool.and_eq_true] at q
      exact hnt q.2
    · rintro ⟨q, _⟩
      exact absurd q hnt
theorem Wb_none {C : Cel} {r : Row} : Wb C r none = wh C r := by
  funext x
  unfold Wb
  simp
theorem wh_there {C : Cel} {r : Row} : ∀ x, wh C r x = true → there C x = true := fun x h => (wh_iff.mp h).1
/-- how far a set is: the layer of those that are so far -/
def Lay (C : Cel) (r : Row) (to : Nat) (l : Int64) (k : Nat) : Prop := ∀ y, mb l y = true ↔ IsD (adj C r) (wh C r) to y k
theorem lay_next {C : Cel} {r : Row} {g : Nat} {μ : Mem} (hC : C.ok) (hs : StOK C r) (h : GD C r g μ) {to : Nat} (hto : there C to = true) {l known : Int64} {k : Nat} (hl : Lay C r to l k) (hk : ∀ y, mb known y = true ↔ ∃ i, i ≤ k ∧ IsD (adj C r) (wh C r) to y i) :
    Lay C r to (fX5_beside g (l &&& μ.2.2.1 g 1) μ &&& (known ^^^ (-1 : Int64))) (k + 1) := by
  intro y
  have hv : ∀ x, mb (l &&& μ.2.2.1 g 1) x = true → there C x = true := by
    intro x hx
    rw [mb_and, Bool.and_eq_true, h.2.1 x] at hx
    exact wh_there x hx.2
  rw [mb_and, Bool.and_eq_true, beside_iff hC hs h hv y]
  constructor
  · rintro ⟨⟨hy, x, hx, ha⟩, hn⟩
    rw [mb_not (by have := there_lt hC hy; omega)] at hn
    rw [mb_and, Bool.and_eq_true, h.2.1 x] at hx
    have hx2 := (hl x).mp hx.1
    refine ⟨⟨x, by rw [adj_symm]; exact ha, hx.2, hx2.1⟩, ?_⟩
    intro j hj hr
    obtain ⟨m, hm, hd⟩ := IsD.of hr
    have : mb known y = true := (hk y).mpr ⟨m, by omega, hd⟩
    rw [this] at hn
    cases hn
  · intro hd
    obtain ⟨x, ha, hw, hx⟩ := hd.step
    have hy := rch_there hC hs wh_there hto hd.1
    refine ⟨⟨hy, x, ?_, by rw [adj_symm]; exact ha⟩, ?_⟩
    · rw [mb_and, Bool.and_eq_true, h.2.1 x]
      exact ⟨(hl x).mpr hx, hw⟩
    · rw [mb_not (by have := there_lt hC hy; omega)]
      cases hq : mb known y
      · rfl
      · obtain ⟨i, hi, h2⟩ := (hk y).mp hq
        have := h2.uniq hd
        omega
