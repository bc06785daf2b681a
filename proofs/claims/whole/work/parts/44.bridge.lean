/-! FROM THE WALK TO THE CLAIM -/
def R_law : String := "MarginWaysLaw"
def lw_P (b : Addr) (xs : List Int32) (args : Array Value) (s : State) : Prop := args = #[.ref b] ∧ s.IntsAt b xs ∧ xs.length ≤ 3072 ∧ (Jvm.Cond.and given_1 narrow_1).before args s = true
def lw_Q (_ : Array Value) (s : State) (o : Outcome) (t : State) : Prop := o = .returned (some (.int 1)) ∧ Framed s o t [] 601024 7293034
def lw_Z (below : List Frame) (a : Array Value) (s : State) : State → Prop := fun t => ∃ o, t.status = .running ∧ Ended t below o ∧ lw_Q a s o t
theorem same_new {s t : State} {L : List Loc} {k n : Nat} (h : s.sameButNew t L k n) (hL : ∀ q ∈ L, s.heap.size ≤ q.base) : s.sameButNew t [] k n :=
  ⟨h.1, h.2.1, h.2.2.1, h.2.2.2.1, h.2.2.2.2.1, fun a c hc => by
    obtain ⟨c', h1, h2, h3, h4⟩ := h.2.2.2.2.2 a c hc
    refine ⟨c', h1, h2, h3, fun i _ => h4 i (fun hm => ?_)⟩
    have g1 := hL _ hm
    have g2 := (Array.getElem?_eq_some_iff.mp hc).1
    exact absurd g2 (Nat.not_lt.mpr g1)⟩
/-- nothing made yet -/
def mem0 : Mem := (0, fun _ _ => 0, fun _ _ => 0, fun _ _ => none)
theorem HW0 {ω : Wd} : HW ω mem0 ω.s0.heap := ⟨fun k q h => by simp [wcs, mem0] at h, fun _ => rfl, Nat.le_refl _⟩
theorem law_W {p : Program} {e : Env} {m : MethodId} {below : List Frame} {meth : Method} {c : Code} {l : Launch} {ω : Wd} {d : Nat} (F : Fix ω l mL_law d p room_1 ω.s0 m meth c 601024 7293034)
    (kk : J ω l mL_law d 0 [(0, .ref 30000)] [] mem0 601024 7293034 (fun o _ => o = .inl (some (.int 1)))) :
    W p l e room_1 ω.s0 m #[Value.ref ω.b] below meth c ω.s0.heap [] 0 0 (lw_Z below #[Value.ref ω.b] ω.s0) (entryFrame m ([Value.ref ω.b] : List Value).toArray 7) := by
  have hl := lv_entry [Value.ref ω.b] (n := 7) (Nat.le_of_ble_eq_true rfl)
  rw [lg_entry_eq]
  generalize (lg_sl [Value.ref ω.b] ++ List.replicate (7 - (lg_sl [Value.ref ω.b]).length) Slot.unset).toArray = ls at hl ⊢
  have K := kk p e room_1 ω.s0 m #[Value.ref ω.b] below meth c ω.s0.heap [] 0 0 601024 7293034 ls F HW0 va_S.rf hl (Nat.le_of_eq (Nat.zero_add _)) (Nat.le_of_eq (Nat.zero_add _))
  intro T hT X
  obtain ⟨t, a1, o, b1, b2, b3⟩ := K T hT X
  refine ⟨t, a1, o, b1, b2, ?_⟩
  rcases b3 with ⟨⟨⟨v, ν, rfl, hp, -⟩, -⟩, L, hF, hL⟩ | ⟨q, rfl, hx⟩
  · cases hp
    exact ⟨rfl, hF.1, hF.2.1, same_new hF.2.2 hL⟩
  · obtain ⟨E, ce, L, ⟨⟨i, ν, -, hp, -⟩, -⟩, -⟩ := hx
    cases hp
