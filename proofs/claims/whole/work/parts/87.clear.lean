/-! CALLS: clear, ink -/
section Cl
variable {C : Cel} {G Fd : List Itm} {pc : Nat → Int32} {k : Nat} {r : Row} {μ : Mem}
noncomputable def Qcl (C : Cel) (G Fd : List Itm) (r : Row) (x d : Nat) : Bool := decide (dN C G Fd dk0 r d (1 + x) = 0)
def codeX (C : Cel) (a : Int32) : Int32 := match plc C a with
  | none => 1
  | some _ => 0
theorem codeX_ne (a : Int32) : codeX C a ≠ 2 := by unfold codeX; split <;> decide
noncomputable def valX (C : Cel) (a : Int32) (f : Nat → Int32) : Int32 := match plc C a with
  | none => 0
  | some x => f x
theorem c_clear_l (hI : INV C G Fd pc k r μ) {x : Nat} (hx : x < 48) : ∀ (f e : Nat) (ν : Mem) (n : Nat), f + e = 61 → f < n → CR C G Fd pc dk0 r k μ e ν → ∃ ξ, fX10_clear_23 n 0 (I x) (I e) ν = some (.inl (sr (Qcl C G Fd r x) f e), ξ) ∧ FrB LC L2C μ ξ := by
  have hC := hI.2.1
  have hr := hI.2.2.2.2.2.2.2.2.1
  intro f
  induction f with
  | zero =>
    intro e ν n hf hn hR
    obtain ⟨n, rfl⟩ : ∃ m, n = m + 1 := ⟨n - 1, by omega⟩
    obtain rfl : e = 61 := by omega
    rw [fX10_clear_23, if_pos (by decide)]
    exact ⟨ν, rfl, hR.fq⟩
  | succ f ih =>
    intro e ν n hf hn hR
    obtain ⟨n, rfl⟩ : ∃ m, n = m + 1 := ⟨n - 1, by omega⟩
    have hG := hR.1.gr hI.1
    have v1 : ν.2.1 457 x = dN C G Fd dk0 r e (1 + x) := hR.2.1.2.2.2.2.2.1.2.2.2.1 x hx
    rw [fX10_clear_23, if_neg (show ¬ (60 : Int32) < I e by rw [l_ltI (by omega) (by decide)]; omega), g_0_14 hG, bs, g_455_0 hG, bs, hG.ink a456, bs, ld_457 hx, bs, v1]
    unfold sr
    by_cases h : dN C G Fd dk0 r e (1 + x) = 0
    · rw [if_pos h, if_pos (show Qcl C G Fd r x e = true from decide_eq_true h)]
      exact ⟨ν, rfl, hR.fq⟩
    · rw [if_neg h, if_neg (show ¬ Qcl C G Fd r x e = true from fun t => h (of_decide_eq_true t))]
      obtain ⟨ξ, e3, h3⟩ := hR.pass hC hr.1 hr.2.1 (lt := 1) rfl
      rw [bs, e3, bs, I_addl]
      exact ih (e + 1) ξ n (by omega) (by omega) h3
theorem c_clear (hI : INV C G Fd pc k r μ) (a : Int32) : CQ (fX10_clear 0 a μ) μ (codeX C a) (valX C a (fun x => sr (Qcl C G Fd r x) 61 0)) := by
  have hC := hI.2.1
  unfold fX10_clear codeX valX
  rw [inside_ok hI, bs]
  cases hp : plc C a with
  | none =>
    exact ⟨μ, FrB.refl _ _ μ, Or.inr (Or.inl ⟨rfl, rfl⟩)⟩
  | some x =>
    have hx := there_lt hC (plc_there hC hp)
    simp only
    obtain ⟨M, e, hM⟩ := hI.beg dk0
    rw [g_0_14 hI.1, bs, hI.cel, bs, g_0_7 hI.1, bs, e, bs]
    obtain ⟨ξ, e2, h3⟩ := c_clear_l hI hx 61 0 M fuel (by omega) (by unfold fuel; omega) hM
    exact ⟨ξ, h3, Or.inl ⟨rfl, e2⟩⟩
theorem r_clear_l (hC : C.ok) (hr : RowOK C r) {x : Nat} (hx : x < 48) {μ0 : Mem} (hd : μ0.2.1 492 45 = 0) : ∀ (f e : Nat) (ν : Mem) (n : Nat), f + e = 61 → f < n → RD 79 μ0 ν → RR C G Fd dk0 r e ν → ∃ ξ, fX11_clear_24 n 492 (I x) (I e) ν = some (sr (Qcl C G Fd r x) f e, ξ) ∧ RD 79 μ0 ξ := by
  intro f
  induction f with
  | zero =>
    intro e ν n hf hn hD hR
    obtain ⟨n, rfl⟩ : ∃ m, n = m + 1 := ⟨n - 1, by omega⟩
    obtain rfl : e = 61 := by omega
    rw [fX11_clear_24, if_pos (by decide)]
    exact ⟨ν, rfl, hD⟩
  | succ f ih =>
    intro e ν n hf hn hD hR
    obtain ⟨n, rfl⟩ : ∃ m, n = m + 1 := ⟨n - 1, by omega⟩
    have hG := hR.1.1
    rw [fX11_clear_24, if_neg (show ¬ (60 : Int32) < I e by rw [l_ltI (by omega) (by decide)]; omega), show fX11_isWhite 492 (79 : Int32) (I x) ν = _ from white_ok hG (b := 79) (by omega) hx, bs, hR.2.2.2 (1 + x) (by omega)]
    unfold sr
    by_cases h : dN C G Fd dk0 r e (1 + x) = 0
    · rw [if_pos h, if_neg (by decide), if_pos (show Qcl C G Fd r x e = true from decide_eq_true h)]
      exact ⟨ν, rfl, hD⟩
    · rw [if_neg h, if_pos rfl, if_neg (show ¬ Qcl C G Fd r x e = true from fun t => h (of_decide_eq_true t))]
      obtain ⟨ξ, e3, h3, h4, _⟩ := hR.day hr (by rw [hD.f4.2.2, hd]; rfl)
      rw [e3, bs, I_addl]
      exact ih (e + 1) ξ n (by omega) (by omega) (hD.trans h3) h4
theorem r_clear (hI : INV C G Fd pc k r μ) (a : Int32) : RQ (fX11_clear 492 a μ) μ (codeX C a) (valX C a (fun x => sr (Qcl C G Fd r x) 61 0)) := by
  have hC := hI.2.1
  obtain ⟨t1, t2, t3, t4⟩ := thr0 μ
  have hR0 := t1.rc hI.2.2.2.2.2.2.1
  unfold fX11_clear codeX valX
  rw [bs, sI_C, placeOf_ok hR0 t2, bs]
  cases hp : plc C a with
  | none =>
    simp only [if_true]
    exact RQ.no (by decide) t1 t3 t4
  | some x =>
    have hx := there_lt hC (plc_there hC hp)
    simp only
    rw [if_neg (I_m1 (by omega))]
    obtain ⟨M, e, m1, m2⟩ := tried hI dk0 t1 t3
    rw [e, bs]
    obtain ⟨ξ, e2, h3⟩ := r_clear_l hC hI.2.2.2.2.2.2.2.2.1.1 hx (μ0 := thr μ 0) (by rw [t4]; exact hI.dk) 61 0 M fuel (by omega) (by unfold fuel; omega) m1 m2
    rw [show (0 : Int32) = I 0 from rfl, e2]
    exact RQ.yes t1 t2 t3 t4 h3
theorem qq_clear (hI : INV C G Fd pc k r μ) (a : Int32) : QQ C G Fd pc k r (fun μ => fL_clear 0 a 518 μ) (fun ν => fX11_clear 492 a ν) μ := q_clear hI a (c_clear hI a) (codeX_ne a) (fun ν h => r_clear h a)
/-- a query of the reference that changes nothing more -/
theorem RQ.same {μ ν : Mem} {val : Int32} (t1 : FR μ ν) (t2 : ν.2.1 492 0 = 0) (t3 : ν.2.1 492 41 = μ.2.1 492 41) (t4 : ν.2.1 492 45 = μ.2.1 492 45) : RQ (some (val, ν)) μ 0 val := ⟨val, ν, rfl, t1, t3, t4, t2, fun _ => rfl⟩
theorem INV.row (hI : INV C G Fd pc k r μ) {j : Nat} (hj : j < 79) {ν : Mem} (h : FR μ ν) : ν.2.1 502 j = r j := by
  rw [h.2.2.2.2 j hj, ← hI.2.2.2.2.2.2.2.2.2.2.1 j hj]
  show _ = μ.2.1 502 (0 + j)
  rw [Nat.zero_add]
theorem qq_ink (hI : INV C G Fd pc k r μ) (a : Int32) : QQ C G Fd pc k r (fun μ => fL_ink 0 a 518 μ) (fun ν => fX11_ink 492 a ν) μ := by
  have hC := hI.2.1
  refine q_ink hI a (code := codeX C a) (val := valX C a (fun x => r (1 + x))) ?_ (codeX_ne a) ?_
  · unfold fX10_ink codeX valX
    have hS := hI.2.2.2.2.2.2.2.2.2.1
    have a33 : 33 ∈ stA := by decide
    rw [g_0_7 hI.1, bs, hI.1.ink a33, bs, inside_ok hI, bs]
    cases hp : plc C a with
    | none => exact ⟨μ, FrB.refl _ _ μ, Or.inr (Or.inl ⟨rfl, rfl⟩)⟩
    | some x =>
      have hx := there_lt hC (plc_there hC hp)
      simp only
      rw [ld_34 hx, bs, show μ.2.1 34 x = r (1 + x) from hS.2.2.2.1 x hx]
      exact ⟨μ, FrB.refl _ _ μ, Or.inl ⟨rfl, rfl⟩⟩
  · intro ν hν
    obtain ⟨t1, t2, t3, t4⟩ := thr0 ν
    have hR0 := t1.rc hν.2.2.2.2.2.2.1
    unfold fX11_ink codeX valX
    rw [bs, sI_C, placeOf_ok hR0 t2, bs]
    cases hp : plc C a with
    | none =>
      simp only [if_true]
      exact RQ.no (by decide) t1 t3 t4
    | some x =>
      have hx := there_lt hC (plc_there hC hp)
      simp only
      rw [if_neg (I_m1 (by omega)), g_492_34 hR0.1, bs, l_addI, ld_502 (by omega), bs, hν.row (by omega) t1]
      exact RQ.same t1 t2 t3 t4
end Cl
