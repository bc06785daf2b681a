/-! THE CLASS: frames, a State that shows a row, a Cellar that shows a text -/
def FrI (L L2 : List Nat) (μ ν : Mem) : Prop := ν.1 = μ.1 ∧ ν.2.2.2 = μ.2.2.2 ∧ (∀ c, c ∉ L → ν.2.1 c = μ.2.1 c) ∧ (∀ c, c ∉ L2 → ν.2.2.1 c = μ.2.2.1 c)
theorem FrI.refl (L L2 : List Nat) (μ : Mem) : FrI L L2 μ μ := ⟨rfl, rfl, fun _ _ => rfl, fun _ _ => rfl⟩
theorem FrI.trans {L L2 : List Nat} {μ ν ξ : Mem} (h : FrI L L2 μ ν) (h' : FrI L L2 ν ξ) : FrI L L2 μ ξ := ⟨h'.1.trans h.1, h'.2.1.trans h.2.1, fun c hc => (h'.2.2.1 c hc).trans (h.2.2.1 c hc), fun c hc => (h'.2.2.2 c hc).trans (h.2.2.2 c hc)⟩
theorem FrI.mono {L L2 K K2 : List Nat} {μ ν : Mem} (h : FrI L L2 μ ν) (h1 : ∀ c ∈ L, c ∈ K) (h2 : ∀ c ∈ L2, c ∈ K2) : FrI K K2 μ ν := ⟨h.1, h.2.1, fun c hc => h.2.2.1 c (fun q => hc (h1 c q)), fun c hc => h.2.2.2 c (fun q => hc (h2 c q))⟩
theorem FrI.c {L L2 : List Nat} (μ : Mem) {a : Nat} (g : Row) (h : a ∈ L) : FrI L L2 μ (sC μ a g) := ⟨rfl, rfl, fun c hc => sC_n μ g (fun e => hc (e ▸ h)), fun _ _ => rfl⟩
theorem sLC_n (μ : Mem) {a b : Nat} (g : Nat → Int64) (h : b ≠ a) : (sLC μ a g).2.2.1 b = μ.2.2.1 b := by rw [sLC_l, if_neg h]
theorem FrI.l {L L2 : List Nat} (μ : Mem) {a : Nat} (g : Nat → Int64) (h : a ∈ L2) : FrI L L2 μ (sLC μ a g) := ⟨rfl, rfl, fun _ _ => rfl, fun c hc => sLC_n μ g (fun e => hc (e ▸ h))⟩
theorem FrI.gr {L L2 : List Nat} {μ ν : Mem} (h : FrI L L2 μ ν) (hG : Gr μ) : Gr ν := hG.r h.1 h.2.1
theorem FrI.g {L L2 : List Nat} {μ ν : Mem} (h : FrI L L2 μ ν) (a f t : Nat) : gR ν a f t = gR μ a f t := by
  unfold gR
  rw [h.2.1]
/-- ink stands only on places that are there -/
def InkOK (C : Cel) (r : Row) : Prop := ∀ x, x < 48 → there C x = false → r (1 + x) = 0
/-- the State at a shows the row -/
def SH (C : Cel) (r : Row) (a : Nat) (μ : Mem) : Prop := μ.2.1 a 0 = r 0 ∧ (∀ x, mb (μ.2.2.1 a 1) x = wh C r x) ∧ (∀ x, mb (μ.2.2.1 a 2) x = stl r x) ∧ (∀ x, x < 48 → μ.2.1 (a + 1) x = r (1 + x)) ∧ (∀ p, p < 6 → μ.2.1 (a + 2) p = if p < C.P then r (55 + p) else -1) ∧ (∀ p, p < 6 → μ.2.1 (a + 3) p = if p < C.P then r (61 + p) else -1) ∧ (∀ p, p < 6 → μ.2.1 (a + 4) p = if p < C.P then r (67 + p) else 0)
theorem SH.fr {C : Cel} {r : Row} {a : Nat} {μ ν : Mem} (h : SH C r a μ) (h0 : ν.2.1 a = μ.2.1 a) (hl : ν.2.2.1 a = μ.2.2.1 a) (h1 : ν.2.1 (a + 1) = μ.2.1 (a + 1)) (h2 : ν.2.1 (a + 2) = μ.2.1 (a + 2)) (h3 : ν.2.1 (a + 3) = μ.2.1 (a + 3)) (h4 : ν.2.1 (a + 4) = μ.2.1 (a + 4)) : SH C r a ν := by
  unfold SH
  rw [h0, hl, h1, h2, h3, h4]
  exact h
/-- the Cellar at k shows the text: deeds, people, sizes, paces, rules -/
def CE (C : Cel) (G Fd : List Itm) (pc : Nat → Int32) (k : Nat) (μ : Mem) : Prop := μ.2.1 k 0 = I C.D ∧ μ.2.1 k 1 = I C.P ∧ (∀ x, mb (μ.2.2.1 k 2) x = there C x) ∧ (∀ d, d < 6 → μ.2.1 (k + 1) d = if d < C.D then I (C.z d) else 0) ∧ (∀ p, p < C.P → μ.2.1 (k + 2) p = pc p) ∧ μ.2.1 (k + 3) 1 = I G.length ∧ Rit (μ.2.1 (k + 4)) 0 G ∧ μ.2.1 (k + 6) 1 = I Fd.length ∧ Rit (μ.2.1 (k + 7)) 0 Fd ∧ Cok 6 G ∧ Cok 5 Fd
theorem CE.fr {C : Cel} {G Fd : List Itm} {pc : Nat → Int32} {k : Nat} {μ ν : Mem} (h : CE C G Fd pc k μ) (h0 : ν.2.1 k = μ.2.1 k) (hl : ν.2.2.1 k = μ.2.2.1 k) (h1 : ν.2.1 (k + 1) = μ.2.1 (k + 1)) (h2 : ν.2.1 (k + 2) = μ.2.1 (k + 2)) (h3 : ν.2.1 (k + 3) = μ.2.1 (k + 3)) (h4 : ν.2.1 (k + 4) = μ.2.1 (k + 4)) (h6 : ν.2.1 (k + 6) = μ.2.1 (k + 6)) (h7 : ν.2.1 (k + 7) = μ.2.1 (k + 7)) : CE C G Fd pc k ν := by
  unfold CE
  rw [h0, hl, h1, h2, h3, h4, h6, h7]
  exact h
theorem cel_g {μ : Mem} (hG : Gr μ) {k : Nat} (hk : k = 3 ∨ k = 17) : gR μ k 3 0 = some (k + 1) ∧ gR μ k 4 0 = some (k + 2) ∧ gR μ k 5 17 = some (k + 3) ∧ gR μ k 6 17 = some (k + 6) ∧ gR μ k 7 19 = some (k + 9) ∧ gR μ (k + 3) 0 0 = some (k + 4) ∧ gR μ (k + 3) 2 0 = some (k + 5) ∧ gR μ (k + 6) 0 0 = some (k + 7) ∧ gR μ (k + 6) 2 0 = some (k + 8) := by
  rcases hk with rfl | rfl
  · exact ⟨g_3_3 hG, g_3_4 hG, g_3_5 hG, g_3_6 hG, g_3_7 hG, g_6_0 hG, g_6_2 hG, g_9_0 hG, g_9_2 hG⟩
  · exact ⟨g_17_3 hG, g_17_4 hG, g_17_5 hG, g_17_6 hG, g_17_7 hG, g_20_0 hG, g_20_2 hG, g_23_0 hG, g_23_2 hG⟩
theorem cel_k {k : Nat} (hk : k = 3 ∨ k = 17) : kd (k + 1) = (0, 6) ∧ kd (k + 2) = (0, 6) ∧ kd (k + 4) = (0, 700) ∧ kd (k + 5) = (0, 64) ∧ kd (k + 7) = (0, 700) ∧ kd (k + 8) = (0, 64) := by
  rcases hk with rfl | rfl
  · exact ⟨kd_4, kd_5, kd_7, kd_8, kd_10, kd_11⟩
  · exact ⟨kd_18, kd_19, kd_21, kd_22, kd_24, kd_25⟩
theorem crowd_I {μ : Mem} (h : Gr μ) {a : Nat} (ha : a ∈ stA) {v : Int32} (hv : v ≠ -1) : fX9_crowd a v μ = some (cntI (μ.2.1 (a + 2)) v 6) := by
  have : ∀ j, cntAt μ a v j = cntI (μ.2.1 (a + 2)) v j := by
    intro j
    induction j with
    | zero => rfl
    | succ j ih => unfold cntAt; rw [ih, cntI_s]
  rw [crowd_ok h ha hv, this 6]
/-- those who are not there don't count -/
theorem cntI_6 {C : Cel} (hC : C.ok) {g : Nat → Int32} {f : Nat → Int32} {v : Int32} (hv : v ≠ -1) (h : ∀ p, p < 6 → g p = if p < C.P then f p else -1) : cntI g v 6 = cntI f v C.P := by
  have hP := hC.2.1
  have key : ∀ i, C.P + i ≤ 6 → cntI g v (C.P + i) = cntI f v C.P := by
    intro i
    induction i with
    | zero =>
      intro _
      exact cntI_congr C.P (fun p hp => by rw [h p (by omega), if_pos hp])
    | succ i ih =>
      intro hi
      have hg : g (C.P + i) = -1 := by rw [h _ (by omega), if_neg (by omega)]
      rw [← Nat.add_assoc, cntI_s, ih (by omega), hg, if_neg (fun q : (-1 : Int32) = v => hv q.symm), Int32.add_zero]
  have := key (6 - C.P) (by omega)
  rw [show C.P + (6 - C.P) = 6 by omega] at this
  exact this
theorem crowd_C {C : Cel} {r : Row} {μ : Mem} (hG : Gr μ) (hC : C.ok) {a : Nat} (ha : a ∈ stA) (hS : SH C r a μ) {v : Int32} (hv : v ≠ -1) : fX9_crowd a v μ = some (cntI (fun q => r (55 + q)) v C.P) := by
  rw [crowd_I hG ha hv, cntI_6 hC hv hS.2.2.2.2.1]
theorem others_C {C : Cel} {r : Row} {μ : Mem} (hG : Gr μ) (hC : C.ok) {a : Nat} (ha : a ∈ stA) (hS : SH C r a μ) {p : Nat} (hp : p < C.P) (hv : r (55 + p) ≠ -1) : fX9_others a (I p) μ = some (oth C r p) := by
  have hP := hC.2.1
  unfold fX9_others
  rw [hG.at ha, bs, ldI_I (st_at a ha).2 (by omega) (by omega), bs, hS.2.2.2.2.1 p (by omega), if_pos hp, crowd_C hG hC ha hS hv, bs]
  rfl
