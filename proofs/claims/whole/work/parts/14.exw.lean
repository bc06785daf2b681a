/-! RULES of J: throwing, catching, static methods with a table of their own -/
theorem Fix.wF {ω : Wd} {l : Launch} {Y : Mt} {d : Nat} {p : Program} {R : Room} {s : State} {m : MethodId} {meth : Method} {c : Code} {mc ms : Nat} {args : Array Value} (F : Fix ω l Y d p R s m meth c mc ms) {w : Cond} (h : w ∈ lw_tbl) (hg : (w.onTables && w.keepsFace) = true) : w.before args s = true := by
  simp only [Bool.and_eq_true] at hg
  have h1 := Cond.before_shiftedFace (State.Shifted.of_warmed F.2.1.1) w hg.2 (F.1.1 w h)
  rw [Cond.onTables_vm (A' := args) (U' := s) s.vm w hg.1] at h1
  exact h1
abbrev exNames : List String := ["java/lang/RuntimeException", "java/lang/Exception"]
def nsAt : List Cond := (nsAtoms RX10 405).filter vx_no
theorem at0_ok : (nsAt.all (fun w => decide (w ∈ lw_tbl) && (w.onTables && w.keepsFace))) = true := by decide +kernel
theorem at1_ok : ((vx_atS RX10 121 "java/lang/IllegalArgumentException" exNames).all (fun w => decide (w ∈ lw_tbl) && (w.onTables && w.keepsFace))) = true := by decide +kernel
theorem ot1_ok : ∀ w ∈ Cond.classLink RX10 117 "java/lang/IllegalArgumentException" :: Cond.initialized "java/lang/IllegalArgumentException" :: vx_atS RX10 121 "java/lang/IllegalArgumentException" exNames, vx_ot w = true := by decide +kernel
theorem exw0 : Cond.classLink RX10 401 nsN ∈ lw_tbl ∧ Cond.initialized nsN ∈ lw_tbl := by decide +kernel
theorem exw1 : Cond.classLink RX10 117 "java/lang/IllegalArgumentException" ∈ lw_tbl ∧ Cond.initialized "java/lang/IllegalArgumentException" ∈ lw_tbl := by decide +kernel
theorem at_key : ∀ (L : List Cond), (L.all (fun w => decide (w ∈ lw_tbl) && (w.onTables && w.keepsFace))) = true → ∀ w ∈ L, w ∈ lw_tbl ∧ (w.onTables && w.keepsFace) = true := fun L h w hw => by
  have h1 := List.all_eq_true.mp h w hw
  rw [Bool.and_eq_true] at h1
  exact ⟨of_decide_eq_true h1.1, h1.2⟩
