/-! LINES: all of them -/
section Lp
variable {B : Nat → Nat} {n q : Nat} {μ0 μ ν0 ν : Mem} {k : Nat} {C : Cel} {G Fd : List Itm} {pc : Nat → Int32} {r : Row}
theorem kd259 (hB : ∀ i, i < n → B i < 256) {p : Nat} (hp : p ≤ n) : kdI B n p = 259 ↔ tkS B n p = 0 := by
  unfold kdI
  by_cases h0 : tkS B n p = 0
  · rw [if_pos h0]; exact ⟨fun _ => h0, fun _ => rfl⟩
  · have hp' := (tkE_gt h0).2
    have hb := hB p hp'
    rw [if_neg h0]
    refine ⟨fun z => ?_, fun z => absurd z h0⟩
    split at z
    · exact absurd z (by decide)
    · split at z
      · exact absurd z (by decide)
      · split at z
        · exact absurd ((I_inj (m := 259) (by omega) (by omega)).mp z) (by omega)
        · exact absurd z (by decide)
/-- the reference's loop from where it ends -/
theorem c107_end (h : RLs B n ν0 k C G Fd r ν) (h0 : tkS B n (Pq B n k) = 0) (m : Nat) : fX11_cellar_107 (m + 1) 492 ν = fX11_cellar_107 1 492 ν := by
  have h14 : ν.2.1 492 14 = 0 := by rw [h.1.2.1.2.2.1, h0]; rfl
  rw [fX11_cellar_107, fX11_cellar_107]
  simp only [if_neg (goodL h.2.1), if_pos h14]
theorem c107_f {w : Int32} {p : Nat} (hw : w ≠ 0) (h : RFl B n ν0 w p ν) (m : Nat) : fX11_cellar_107 (m + 1) 492 ν = fX11_cellar_107 1 492 ν := by
  rw [fX11_cellar_107, fX11_cellar_107]
  simp only [if_pos (h.good hw)]
def LOUT (B : Nat → Nat) (n q : Nat) (μ0 ν0 : Mem) (k : Nat) (C : Cel) (G Fd : List Itm) (r : Row) (x : Option (Int32 × Mem)) : Prop := ∃ w μ', x = some (w, μ') ∧ ((w = 0 ∧ ∃ j C' G' Fd' pc' r', CLs B n q μ0 j C' G' Fd' pc' r' μ' ∧ tkS B n (Pq B n j) = 0 ∧ ∀ ν, RLs B n ν0 k C G Fd r ν → ∀ m, n - k < m → ∃ ν', fX11_cellar_107 m 492 ν = fX11_cellar_107 1 492 ν' ∧ RLs B n ν0 j C' G' Fd' r' ν') ∨ (w ≠ 0 ∧ ∃ p, CFl B n q μ0 w p μ' ∧ ∀ ν, RLs B n ν0 k C G Fd r ν → ∀ m, n - k < m → ∃ ν', fX11_cellar_107 m 492 ν = fX11_cellar_107 1 492 ν' ∧ RFl B n ν0 w p ν'))
theorem lines_ok (hn : n ≤ 700) (hB : ∀ i, i < n → B i < 256) (hq : q = 3 ∨ q = 17) : ∀ f k i C G Fd pc r μ m, n - k ≤ f → f + 1 < m → i ≤ k → CLs B n q μ0 k C G Fd pc r μ → LOUT B n q μ0 ν0 k C G Fd r (fX6_read_49 m 31 (I i) μ) := by
  intro f
  induction f with
  | zero =>
    intro k i C G Fd pc r μ m h1 h2 h3 h
    obtain ⟨m, rfl⟩ : ∃ z, m = z + 1 := ⟨m - 1, by omega⟩
    have hkn := h.2.2.2.2.2
    have h0 : tkS B n (Pq B n k) = 0 := by
      by_cases z : tkS B n (Pq B n k) = 0
      · exact z
      · have := (S_k _ z).2; omega
    have e6 : μ.2.1 31 6 = 259 := by rw [h.1.2.2.1.2.2.2.1]; exact (kd259 hB (Pq_le _)).mpr h0
    refine ⟨0, μ, ?_, Or.inl ⟨rfl, k, C, G, Fd, pc, r, h, h0, fun ν hν m hm => ⟨ν, ?_, hν⟩⟩⟩
    · rw [fX6_read_49]
      by_cases hi : I i < (700 : Int32)
      · rw [if_pos hi, if_pos h.2.1, if_pos e6, h.2.1]
      · rw [if_neg hi, h.2.1]
    · obtain ⟨m, rfl⟩ : ∃ z, m = z + 1 := ⟨m - 1, by omega⟩
      exact c107_end hν h0 m
  | succ f ih =>
    intro k i C G Fd pc r μ m h1 h2 h3 h
    obtain ⟨m, rfl⟩ : ∃ z, m = z + 1 := ⟨m - 1, by omega⟩
    have hkn := h.2.2.2.2.2
    have k6 := h.1.2.2.1.2.2.2.1
    by_cases h0 : tkS B n (Pq B n k) = 0
    · have e6 : μ.2.1 31 6 = 259 := by rw [k6]; exact (kd259 hB (Pq_le _)).mpr h0
      refine ⟨0, μ, ?_, Or.inl ⟨rfl, k, C, G, Fd, pc, r, h, h0, fun ν hν m hm => ⟨ν, ?_, hν⟩⟩⟩
      · rw [fX6_read_49]
        by_cases hi : I i < (700 : Int32)
        · rw [if_pos hi, if_pos h.2.1, if_pos e6, h.2.1]
        · rw [if_neg hi, h.2.1]
      · obtain ⟨m, rfl⟩ : ∃ z, m = z + 1 := ⟨m - 1, by omega⟩
        exact c107_end hν h0 m
    · have hk1 := (S_k _ h0).2
      have e6 : ¬ μ.2.1 31 6 = 259 := by rw [k6]; exact fun z => h0 ((kd259 hB (Pq_le _)).mp z)
      have e14 : ∀ ν, RLs B n ν0 k C G Fd r ν → ¬ ν.2.1 492 14 = 0 := by
        intro ν hν
        rw [hν.1.2.1.2.2.1]
        have : tkS B n (Pq B n k) < 5 := by
          unfold tkS
          split
          · omega
          · split
            · omega
            · split
              · omega
              · split <;> omega
        exact fun z => h0 ((I_inj (m := 0) (by omega) (by omega)).mp z)
      obtain ⟨μ', e1, O⟩ := line_ok (ν0 := ν0) hn hB hq h h0
      rw [fX6_read_49, if_pos (show I i < (700 : Int32) by rw [show (700 : Int32) = I 700 from rfl, I_lt (by omega) (by omega)]; omega), if_pos h.2.1, if_neg e6, e1, bs, show I i + (1 : Int32) = I (i + 1) from I_add i 1]
      rcases O with ⟨j, C', G', Fd', pc', r', y1, y2, y3⟩ | ⟨w, p, z1, z2⟩
      · obtain ⟨w, μ2, x1, x2⟩ := ih j (i + 1) C' G' Fd' pc' r' μ' m (by omega) (by omega) (by omega) y2
        refine ⟨w, μ2, x1, ?_⟩
        rcases x2 with ⟨x3, j', C2, G2, F2, p2, r2, x4, x5, x6⟩ | ⟨x3, p, x4, x5⟩
        · refine Or.inl ⟨x3, j', C2, G2, F2, p2, r2, x4, x5, fun ν hν m hm => ?_⟩
          obtain ⟨m, rfl⟩ : ∃ z, m = z + 1 := ⟨m - 1, by omega⟩
          obtain ⟨ν', u1, u2⟩ := y3 ν hν
          obtain ⟨ν2, v1, v2⟩ := x6 ν' u2 m (by omega)
          refine ⟨ν2, ?_, v2⟩
          rw [fX11_cellar_107, if_neg (goodL hν.2.1), if_neg (e14 ν hν), show fX11_line 492 ν = some ν' from u1, bs, v1]
        · refine Or.inr ⟨x3, p, x4, fun ν hν m hm => ?_⟩
          obtain ⟨m, rfl⟩ : ∃ z, m = z + 1 := ⟨m - 1, by omega⟩
          obtain ⟨ν', u1, u2⟩ := y3 ν hν
          obtain ⟨ν2, v1, v2⟩ := x5 ν' u2 m (by omega)
          refine ⟨ν2, ?_, v2⟩
          rw [fX11_cellar_107, if_neg (goodL hν.2.1), if_neg (e14 ν hν), show fX11_line 492 ν = some ν' from u1, bs, v1]
      · obtain ⟨m, rfl⟩ : ∃ z, m = z + 1 := ⟨m - 1, by omega⟩
        refine ⟨w, μ', ?_, Or.inr ⟨z1.1, p, z1, fun ν hν m hm => ?_⟩⟩
        · rw [fX6_read_49]
          by_cases hi : I (i + 1) < (700 : Int32)
          · rw [if_pos hi, if_neg (by rw [z1.2.2.1]; exact z1.1), z1.2.2.1]
          · rw [if_neg hi, z1.2.2.1]
        · obtain ⟨m, rfl⟩ : ∃ z, m = z + 1 := ⟨m - 1, by omega⟩
          obtain ⟨ν', u1, u2⟩ := z2 ν hν
          obtain ⟨m, rfl⟩ : ∃ z, m = z + 1 := ⟨m - 1, by omega⟩
          refine ⟨ν', ?_, u2⟩
          rw [fX11_cellar_107, if_neg (goodL hν.2.1), if_neg (e14 ν hν), show fX11_line 492 ν = some ν' from u1, bs, c107_f z1.1 u2]
end Lp
