/-! reading after writing -/
theorem upd2_e {α : Type} (f : Nat → Nat → α) (a k : Nat) (x : α) (b j : Nat) : upd2 f a k x b j = if b = a ∧ j = k then x else f b j := by
  unfold upd2
  by_cases h1 : b = a <;> by_cases h2 : j = k <;> simp [h1, h2]
theorem sI_1 (μ : Mem) (a k : Nat) (x : Int32) : (sI μ a k x).1 = μ.1 := rfl
theorem sI_i (μ : Mem) (a k : Nat) (x : Int32) (b j : Nat) : (sI μ a k x).2.1 b j = if b = a ∧ j = k then x else μ.2.1 b j := upd2_e _ _ _ _ _ _
theorem sI_l (μ : Mem) (a k : Nat) (x : Int32) : (sI μ a k x).2.2.1 = μ.2.2.1 := rfl
theorem sI_r (μ : Mem) (a k : Nat) (x : Int32) : (sI μ a k x).2.2.2 = μ.2.2.2 := rfl
theorem sL_1 (μ : Mem) (a k : Nat) (x : Int64) : (sL μ a k x).1 = μ.1 := rfl
theorem sL_i (μ : Mem) (a k : Nat) (x : Int64) : (sL μ a k x).2.1 = μ.2.1 := rfl
theorem sL_l (μ : Mem) (a k : Nat) (x : Int64) (b j : Nat) : (sL μ a k x).2.2.1 b j = if b = a ∧ j = k then x else μ.2.2.1 b j := upd2_e _ _ _ _ _ _
theorem sL_r (μ : Mem) (a k : Nat) (x : Int64) : (sL μ a k x).2.2.2 = μ.2.2.2 := rfl
theorem sR_1 (μ : Mem) (a k : Nat) (x : Option Nat) : (sR μ a k x).1 = μ.1 := rfl
theorem sR_i (μ : Mem) (a k : Nat) (x : Option Nat) : (sR μ a k x).2.1 = μ.2.1 := rfl
theorem sR_l (μ : Mem) (a k : Nat) (x : Option Nat) : (sR μ a k x).2.2.1 = μ.2.2.1 := rfl
theorem sR_r (μ : Mem) (a k : Nat) (x : Option Nat) (b j : Nat) : (sR μ a k x).2.2.2 b j = if b = a ∧ j = k then x else μ.2.2.2 b j := upd2_e _ _ _ _ _ _
theorem sC_1 (μ : Mem) (a : Nat) (g : Nat → Int32) : (sC μ a g).1 = μ.1 := rfl
theorem sC_i (μ : Mem) (a : Nat) (g : Nat → Int32) (b j : Nat) : (sC μ a g).2.1 b j = if b = a then g j else μ.2.1 b j := rfl
theorem sC_l (μ : Mem) (a : Nat) (g : Nat → Int32) : (sC μ a g).2.2.1 = μ.2.2.1 := rfl
theorem sC_r (μ : Mem) (a : Nat) (g : Nat → Int32) : (sC μ a g).2.2.2 = μ.2.2.2 := rfl
/-- the references that never change -/
def gfix : List (Nat × Nat × Nat) := grefs.filter (fun e => !(decide (e.1 = 0 ∧ (e.2.1 = 4 ∨ e.2.1 = 5)) || decide (e.1 = 31) || decide (e.1 = 455 ∧ e.2.1 = 7)))
/-- the graph of the world -/
def Gr (μ : Mem) : Prop := μ.1 = NN ∧ ∀ e ∈ gfix, μ.2.2.2 e.1 e.2.1 = some e.2.2
theorem Gr.r {μ ν : Mem} (h : Gr μ) (h1 : ν.1 = μ.1) (h2 : ν.2.2.2 = μ.2.2.2) : Gr ν := ⟨h1.trans h.1, fun e he => by rw [h2]; exact h.2 e he⟩
theorem Gr.sI {μ : Mem} (h : Gr μ) (a k : Nat) (x : Int32) : Gr (sI μ a k x) := h.r rfl rfl
theorem Gr.sL {μ : Mem} (h : Gr μ) (a k : Nat) (x : Int64) : Gr (sL μ a k x) := h.r rfl rfl
theorem Gr.sC {μ : Mem} (h : Gr μ) (a : Nat) (g : Nat → Int32) : Gr (sC μ a g) := h.r rfl rfl
