/-! THE REFERENCE: places -/
/-- its cellar is this -/
def RC (C : Cel) (μ : Mem) : Prop := Gr μ ∧ C.ok ∧ μ.2.1 492 1 = I C.D ∧ μ.2.1 492 2 = I C.P ∧ ∀ d, d < C.D → μ.2.1 493 d = I (C.z d)
/-- its row at b -/
def rwb (μ : Mem) (b : Nat) : Row := fun k => μ.2.1 502 (b + k)
theorem white_ok {μ : Mem} (h : Gr μ) {b x : Nat} (hb : b ≤ 79) (hx : x < 48) : fX11_isWhite 492 (I b) (I x) μ = some (if rwb μ b (1 + x) = 0 then 1 else 0) := by
  unfold fX11_isWhite rwb
  simp (disch := omega) only [g_492_34 h, Option.bind_some, I_addl, I_add, ld_502, Nat.add_assoc]
  split <;> rfl
theorem isThere_ok {C : Cel} {μ : Mem} (h : RC C μ) {x : Nat} (hx : x < 48) : fX11_isThere 492 (I x) μ = some (if there C x = true then 1 else 0) := by
  obtain ⟨hG, hC, e1, e2, e3⟩ := h
  have hD := hC.1
  unfold fX11_isThere
  rw [if_neg (I_neg (by omega))]
  simp (disch := omega) only [e1, I_divl, I_lt, I_mod, I_md, g_492_5 hG, Option.bind_some]
  by_cases q : x / 8 < C.D
  · have := hC.2.2 _ q
    rw [if_pos q, ld_493 (by omega), Option.bind_some, e3 _ q]
    simp (disch := omega) only [I_lt]
    by_cases q2 : x % 8 < C.z (x / 8)
    · rw [if_pos q2, if_pos (there_iff.mpr ⟨q, q2⟩)]
    · rw [if_neg q2, if_neg (fun t => q2 (there_iff.mp t).2)]
  · rw [if_neg q, if_neg (fun t => q (there_iff.mp t).1)]
theorem beside_ok {C : Cel} {μ : Mem} (h : RC C μ) {b x w : Nat} (hb : b ≤ 79) (hx : there C x = true) (hw : w < 4) : fX11_beside 492 (I b) (I x) (I w) μ = some (enc (nbr C (rwb μ b) x w)) := by
  obtain ⟨hG, hC, e1, e2, e3⟩ := h
  have hD := hC.1
  have hx48 := there_lt hC hx
  have h0 := there_iff.mp hx
  have h1 := hC.2.2 _ h0.1
  have hw4 : w = 0 ∨ w = 1 ∨ w = 2 ∨ w = 3 := by omega
  unfold fX11_beside
  rcases hw4 with rfl | rfl | rfl | rfl
  · rw [if_pos (by decide)]
    simp (disch := omega) only [I_mod, I_md, I_eql]
    rw [nbr_0]
    by_cases q : x % 8 = 0
    · rw [if_pos q, if_pos q]; rfl
    · rw [if_neg q, if_neg q, I_subl (by omega)]; rfl
  · rw [if_neg (by decide), if_pos (by decide)]
    simp (disch := omega) only [I_mod, I_md, I_divl, I_addl, g_492_5 hG, Option.bind_some, ld_493, e3 _ h0.1, I_inj]
    rw [nbr_1]
    by_cases q : x % 8 + 1 = C.z (x / 8)
    · rw [if_pos q, if_pos q]; rfl
    · rw [if_neg q, if_neg q]; rfl
  · rw [if_neg (by decide), if_neg (by decide), if_pos (by decide)]
    simp (disch := omega) only [I_mod, I_md, I_divl, I_addl, l_ltI, g_492_34 hG, Option.bind_some]
    rw [nbr_2]
    by_cases q : 0 < x / 8
    · simp (disch := omega) only [q, if_true, I_add, I_subl, ld_502, Option.bind_some, tb_sh, true_and]
      have e4 : tb (μ.2.1 502 (b + 49 + x / 8 - 1)) (x % 8) = stl (rwb μ b) (x - 8) := by
        unfold stl rwb
        rw [decide_eq_true (show x - 8 < 48 by omega), Bool.true_and]
        have a1 : (x - 8) % 8 = x % 8 := by omega
        have a2 : b + (49 + (x - 8) / 8) = b + 49 + x / 8 - 1 := by omega
        rw [a1, a2]
      rw [e4]
      by_cases q2 : stl (rwb μ b) (x - 8) = true
      · rw [if_pos q2, if_pos q2]; rfl
      · rw [if_neg q2, if_neg q2]; rfl
    · rw [if_neg q, if_neg (fun t => q t.1)]; rfl
  · rw [if_neg (by decide), if_neg (by decide), if_neg (by decide)]
    simp (disch := omega) only [I_mod, I_md, I_divl, I_addl, e1, I_lt, g_492_34 hG, Option.bind_some]
    rw [nbr_3]
    by_cases q : x / 8 + 1 < C.D
    · simp (disch := omega) only [q, if_true, I_add, ld_502, Option.bind_some, tb_sh, true_and]
      have e4 : tb (μ.2.1 502 (b + 49 + x / 8)) (x % 8) = stl (rwb μ b) x := by
        unfold stl rwb
        rw [decide_eq_true hx48, Bool.true_and, Nat.add_assoc]
      rw [e4]
      by_cases q2 : stl (rwb μ b) x = true
      · rw [if_pos q2, if_pos q2]; rfl
      · rw [if_neg q2, if_neg q2]; rfl
    · rw [if_neg q, if_neg (fun t => q t.1)]; rfl
/-- how many of the first j are v -/
def cntI (g : Nat → Int32) (v : Int32) : Nat → Int32
  | 0 => 0
  | j + 1 => cntI g v j + if g j = v then 1 else 0
theorem cntI_s (g : Nat → Int32) (v : Int32) (j : Nat) : cntI g v (j + 1) = cntI g v j + if g j = v then 1 else 0 := rfl
theorem standAt_ok {C : Cel} {μ : Mem} (h : RC C μ) {b : Nat} (hb : b ≤ 79) (v : Int32) : fX11_standAt 492 (I b) v μ = some (cntI (fun p => rwb μ b (55 + p)) v C.P) := by
  obtain ⟨hG, hC, e1, e2, e3⟩ := h
  have hP := hC.2.1
  unfold fX11_standAt
  refine loop_eq (fun n (s : Int32 × Int32) => fX11_standAt_5 μ n 492 (I b) v s.1 s.2) C.P (fun j => (cntI (fun p => rwb μ b (55 + p)) v j, I j)) _ ?_ ?_ C.P fuel 0 rfl (by unfold fuel; omega)
  · intro n j hj
    show fX11_standAt_5 μ (n + 1) 492 (I b) v (cntI (fun p => rwb μ b (55 + p)) v j) (I j) = _
    rw [fX11_standAt_5]
    simp (disch := omega) only [e2, I_lt, hj, if_true, g_492_34 hG, Option.bind_some, I_addl, I_add, ld_502, Nat.add_assoc]
    show _ = fX11_standAt_5 μ n 492 (I b) v (cntI (fun p => rwb μ b (55 + p)) v (j + 1)) (I (j + 1))
    rw [cntI_s]
    show (if rwb μ b (55 + j) = v then _ else _) = _
    split
    · rfl
    · rfl
  · intro n
    show fX11_standAt_5 μ (n + 1) 492 (I b) v (cntI (fun p => rwb μ b (55 + p)) v C.P) (I C.P) = _
    rw [fX11_standAt_5]
    simp (disch := omega) only [e2, I_lt, Nat.lt_irrefl, if_false]
/-- the row's white places -/
def wh (C : Cel) (r : Row) (x : Nat) : Bool := there C x && decide (r (1 + x) = 0)
theorem wh_iff {C : Cel} {r : Row} {x : Nat} : wh C r x = true ↔ there C x = true ∧ r (1 + x) = 0 := by unfold wh; simp
