/-! PRINTED (wip/gen/wrap.py): the law's catching of the queries -/
theorem QQ.mk2 {C : Cel} {G Fd : List Itm} {pc : Nat → Int32} {k : Nat} {r : Row} {fc fr : Mem → Option (Int32 × Mem)} {μ : Mem} {x : Option ((Int32 ⊕ Nat) × Mem)} {code val : Int32} (hI : INV C G Fd pc k r μ) (hc : CQ x μ code val) (hne : code ≠ 2)
    (hf : ∀ v ν, x = some (.inl v, ν) → fc μ = some (0, sLC ν 518 (up (ν.2.2.1 518) 0 v.toInt64))) (hf1 : ∀ ν, x = some (.inr 0, ν) → fc μ = some (1, ν))
    (hr : ∀ ν, INV C G Fd pc k r ν → RQ (fr ν) ν code val) : QQ C G Fd pc k r fc fr μ := by
  refine QQ.mk1 hI hc hf hf1 ?_ hr
  intro ν e
  obtain ⟨ν', _, h2⟩ := hc
  rcases h2 with ⟨_, e'⟩ | ⟨_, e'⟩ | ⟨q, _⟩
  · rw [e] at e'; cases e'
  · rw [e] at e'; cases e'
  · exact absurd q hne
theorem q_count {C : Cel} {G Fd : List Itm} {pc : Nat → Int32} {k : Nat} {r : Row} {μ : Mem} (hI : INV C G Fd pc k r μ) (a : Int32) {code val : Int32} (hc : CQ (fX10_count 0 a μ) μ code val) (hne : code ≠ 2) (hr : ∀ ν, INV C G Fd pc k r ν → RQ (fX11_count 492 a ν) ν code val) : QQ C G Fd pc k r (fun μ => fL_count 0 a 518 μ) (fun ν => fX11_count 492 a ν) μ := by
  refine QQ.mk2 hI hc hne ?_ ?_ hr
  · intro v ν e
    show fL_count 0 a 518 μ = _
    unfold fL_count
    rw [e, bs]
    simp only
    rw [show stL ν 518 (0 : Int32) v.toInt64 = _ from stL_I (n := 0) kd518 (by omega) (by omega), bs]
  · intro ν e
    show fL_count 0 a 518 μ = _
    unfold fL_count
    rw [e, bs]
    rfl
theorem q_deed {C : Cel} {G Fd : List Itm} {pc : Nat → Int32} {k : Nat} {r : Row} {μ : Mem} (hI : INV C G Fd pc k r μ) (a b : Int32) {code val : Int32} (hc : CQ ((fX10_deed 0 a b μ).map fun v => (v, μ)) μ code val) (hne : code ≠ 2) (hr : ∀ ν, INV C G Fd pc k r ν → RQ (fX11_deed 492 a b ν) ν code val) : QQ C G Fd pc k r (fun μ => fL_deed 0 a b 518 μ) (fun ν => fX11_deed 492 a b ν) μ := by
  refine QQ.mk2 hI hc hne ?_ ?_ hr
  · intro v ν e
    cases hx : fX10_deed 0 a b μ with
    | none => rw [hx] at e; cases e
    | some s =>
      rw [hx] at e
      simp only [Option.map_some, Option.some.injEq, Prod.mk.injEq] at e
      obtain ⟨rfl, rfl⟩ := e
      show fL_deed 0 a b 518 μ = _
      unfold fL_deed
      rw [hx, bs]
      simp only
      rw [show stL μ 518 (0 : Int32) v.toInt64 = _ from stL_I (n := 0) kd518 (by omega) (by omega), bs]
  · intro ν e
    cases hx : fX10_deed 0 a b μ with
    | none => rw [hx] at e; cases e
    | some s =>
      rw [hx] at e
      simp only [Option.map_some, Option.some.injEq, Prod.mk.injEq] at e
      obtain ⟨rfl, rfl⟩ := e
      show fL_deed 0 a b 518 μ = _
      unfold fL_deed
      rw [hx, bs]
      rfl
theorem q_person {C : Cel} {G Fd : List Itm} {pc : Nat → Int32} {k : Nat} {r : Row} {μ : Mem} (hI : INV C G Fd pc k r μ) (a b : Int32) {code val : Int32} (hc : CQ (fX10_person 0 a b μ) μ code val) (hne : code ≠ 2) (hr : ∀ ν, INV C G Fd pc k r ν → RQ (fX11_person 492 a b ν) ν code val) : QQ C G Fd pc k r (fun μ => fL_person 0 a b 518 μ) (fun ν => fX11_person 492 a b ν) μ := by
  refine QQ.mk2 hI hc hne ?_ ?_ hr
  · intro v ν e
    show fL_person 0 a b 518 μ = _
    unfold fL_person
    rw [e, bs]
    simp only
    rw [show stL ν 518 (0 : Int32) v.toInt64 = _ from stL_I (n := 0) kd518 (by omega) (by omega), bs]
  · intro ν e
    show fL_person 0 a b 518 μ = _
    unfold fL_person
    rw [e, bs]
    rfl
theorem q_ink {C : Cel} {G Fd : List Itm} {pc : Nat → Int32} {k : Nat} {r : Row} {μ : Mem} (hI : INV C G Fd pc k r μ) (a : Int32) {code val : Int32} (hc : CQ ((fX10_ink 0 a μ).map fun v => (v, μ)) μ code val) (hne : code ≠ 2) (hr : ∀ ν, INV C G Fd pc k r ν → RQ (fX11_ink 492 a ν) ν code val) : QQ C G Fd pc k r (fun μ => fL_ink 0 a 518 μ) (fun ν => fX11_ink 492 a ν) μ := by
  refine QQ.mk2 hI hc hne ?_ ?_ hr
  · intro v ν e
    cases hx : fX10_ink 0 a μ with
    | none => rw [hx] at e; cases e
    | some s =>
      rw [hx] at e
      simp only [Option.map_some, Option.some.injEq, Prod.mk.injEq] at e
      obtain ⟨rfl, rfl⟩ := e
      show fL_ink 0 a 518 μ = _
      unfold fL_ink
      rw [hx, bs]
      simp only
      rw [show stL μ 518 (0 : Int32) v.toInt64 = _ from stL_I (n := 0) kd518 (by omega) (by omega), bs]
  · intro ν e
    cases hx : fX10_ink 0 a μ with
    | none => rw [hx] at e; cases e
    | some s =>
      rw [hx] at e
      simp only [Option.map_some, Option.some.injEq, Prod.mk.injEq] at e
      obtain ⟨rfl, rfl⟩ := e
      show fL_ink 0 a 518 μ = _
      unfold fL_ink
      rw [hx, bs]
      rfl
theorem q_then {C : Cel} {G Fd : List Itm} {pc : Nat → Int32} {k : Nat} {r : Row} {μ : Mem} (hI : INV C G Fd pc k r μ) (a b c : Int32) {code val : Int32} (hc : CQ (fX10_then 0 a b c μ) μ code val) (hr : ∀ ν, INV C G Fd pc k r ν → RQ (fX11_then 492 a b c ν) ν code val) : QQ C G Fd pc k r (fun μ => fL_then 0 a b c 518 μ) (fun ν => fX11_then 492 a b c ν) μ := by
  refine QQ.mk1 hI hc ?_ ?_ ?_ hr
  · intro v ν e
    show fL_then 0 a b c 518 μ = _
    unfold fL_then
    rw [e, bs]
    simp only
    rw [show stL ν 518 (0 : Int32) v.toInt64 = _ from stL_I (n := 0) kd518 (by omega) (by omega), bs]
  · intro ν e
    show fL_then 0 a b c 518 μ = _
    unfold fL_then
    rw [e, bs]
    rfl
  · intro ν e
    show fL_then 0 a b c 518 μ = _
    unfold fL_then
    rw [e, bs]
    rfl
theorem q_comes {C : Cel} {G Fd : List Itm} {pc : Nat → Int32} {k : Nat} {r : Row} {μ : Mem} (hI : INV C G Fd pc k r μ) (a : Int32) {code val : Int32} (hc : CQ (fX10_comes 0 a μ) μ code val) (hne : code ≠ 2) (hr : ∀ ν, INV C G Fd pc k r ν → RQ (fX11_comes 492 a ν) ν code val) : QQ C G Fd pc k r (fun μ => fL_comes 0 a 518 μ) (fun ν => fX11_comes 492 a ν) μ := by
  refine QQ.mk2 hI hc hne ?_ ?_ hr
  · intro v ν e
    show fL_comes 0 a 518 μ = _
    unfold fL_comes
    rw [e, bs]
    simp only
    rw [show stL ν 518 (0 : Int32) v.toInt64 = _ from stL_I (n := 0) kd518 (by omega) (by omega), bs]
  · intro ν e
    show fL_comes 0 a 518 μ = _
    unfold fL_comes
    rw [e, bs]
    rfl
theorem q_meet {C : Cel} {G Fd : List Itm} {pc : Nat → Int32} {k : Nat} {r : Row} {μ : Mem} (hI : INV C G Fd pc k r μ) (a b : Int32) {code val : Int32} (hc : CQ (fX10_meet 0 a b μ) μ code val) (hne : code ≠ 2) (hr : ∀ ν, INV C G Fd pc k r ν → RQ (fX11_meet 492 a b ν) ν code val) : QQ C G Fd pc k r (fun μ => fL_meet 0 a b 518 μ) (fun ν => fX11_meet 492 a b ν) μ := by
  refine QQ.mk2 hI hc hne ?_ ?_ hr
  · intro v ν e
    show fL_meet 0 a b 518 μ = _
    unfold fL_meet
    rw [e, bs]
    simp only
    rw [show stL ν 518 (0 : Int32) v.toInt64 = _ from stL_I (n := 0) kd518 (by omega) (by omega), bs]
  · intro ν e
    show fL_meet 0 a b 518 μ = _
    unfold fL_meet
    rw [e, bs]
    rfl
theorem q_later {C : Cel} {G Fd : List Itm} {pc : Nat → Int32} {k : Nat} {r : Row} {μ : Mem} (hI : INV C G Fd pc k r μ) (a b : Int32) {code val : Int32} (hc : CQ (fX10_later 0 a b μ) μ code val) (hr : ∀ ν, INV C G Fd pc k r ν → RQ (fX11_later 492 a b ν) ν code val) : QQ C G Fd pc k r (fun μ => fL_later 0 a b 518 μ) (fun ν => fX11_later 492 a b ν) μ := by
  refine QQ.mk1 hI hc ?_ ?_ ?_ hr
  · intro v ν e
    show fL_later 0 a b 518 μ = _
    unfold fL_later
    rw [e, bs]
    simp only
    rw [show stL ν 518 (0 : Int32) v.toInt64 = _ from stL_I (n := 0) kd518 (by omega) (by omega), bs]
  · intro ν e
    show fL_later 0 a b 518 μ = _
    unfold fL_later
    rw [e, bs]
    rfl
  · intro ν e
    show fL_later 0 a b 518 μ = _
    unfold fL_later
    rw [e, bs]
    rfl
theorem q_clear {C : Cel} {G Fd : List Itm} {pc : Nat → Int32} {k : Nat} {r : Row} {μ : Mem} (hI : INV C G Fd pc k r μ) (a : Int32) {code val : Int32} (hc : CQ (fX10_clear 0 a μ) μ code val) (hne : code ≠ 2) (hr : ∀ ν, INV C G Fd pc k r ν → RQ (fX11_clear 492 a ν) ν code val) : QQ C G Fd pc k r (fun μ => fL_clear 0 a 518 μ) (fun ν => fX11_clear 492 a ν) μ := by
  refine QQ.mk2 hI hc hne ?_ ?_ hr
  · intro v ν e
    show fL_clear 0 a 518 μ = _
    unfold fL_clear
    rw [e, bs]
    simp only
    rw [show stL ν 518 (0 : Int32) v.toInt64 = _ from stL_I (n := 0) kd518 (by omega) (by omega), bs]
  · intro ν e
    show fL_clear 0 a 518 μ = _
    unfold fL_clear
    rw [e, bs]
    rfl
theorem q_way {C : Cel} {G Fd : List Itm} {pc : Nat → Int32} {k : Nat} {r : Row} {μ : Mem} (hI : INV C G Fd pc k r μ) (a b c : Int32) {code val : Int32} (hc : CQ (fX10_way 0 a b c μ) μ code val) (hne : code ≠ 2) (hr : ∀ ν, INV C G Fd pc k r ν → RQ (fX11_way 492 a b c ν) ν code val) : QQ C G Fd pc k r (fun μ => fL_way 0 a b c 518 μ) (fun ν => fX11_way 492 a b c ν) μ := by
  refine QQ.mk2 hI hc hne ?_ ?_ hr
  · intro v ν e
    show fL_way 0 a b c 518 μ = _
    unfold fL_way
    rw [e, bs]
    simp only
    rw [show stL ν 518 (0 : Int32) v.toInt64 = _ from stL_I (n := 0) kd518 (by omega) (by omega), bs]
  · intro ν e
    show fL_way 0 a b c 518 μ = _
    unfold fL_way
    rw [e, bs]
    rfl
theorem q_reached {C : Cel} {G Fd : List Itm} {pc : Nat → Int32} {k : Nat} {r : Row} {μ : Mem} (hI : INV C G Fd pc k r μ) (a b : Int32) {code val : Int32} (hc : CQ (fX10_reached 0 a b μ) μ code val) (hne : code ≠ 2) (hr : ∀ ν, INV C G Fd pc k r ν → RQ (fX11_reached 492 a b ν) ν code val) : QQ C G Fd pc k r (fun μ => fL_reached 0 a b 518 μ) (fun ν => fX11_reached 492 a b ν) μ := by
  refine QQ.mk2 hI hc hne ?_ ?_ hr
  · intro v ν e
    show fL_reached 0 a b 518 μ = _
    unfold fL_reached
    rw [e, bs]
    simp only
    rw [show stL ν 518 (0 : Int32) v.toInt64 = _ from stL_I (n := 0) kd518 (by omega) (by omega), bs]
  · intro ν e
    show fL_reached 0 a b 518 μ = _
    unfold fL_reached
    rw [e, bs]
    rfl
theorem q_farthest {C : Cel} {G Fd : List Itm} {pc : Nat → Int32} {k : Nat} {r : Row} {μ : Mem} (hI : INV C G Fd pc k r μ) (a b : Int32) {code val : Int32} (hc : CQ (fX10_farthest 0 a b μ) μ code val) (hne : code ≠ 2) (hr : ∀ ν, INV C G Fd pc k r ν → RQ (fX11_farthest 492 a b ν) ν code val) : QQ C G Fd pc k r (fun μ => fL_farthest 0 a b 518 μ) (fun ν => fX11_farthest 492 a b ν) μ := by
  refine QQ.mk2 hI hc hne ?_ ?_ hr
  · intro v ν e
    show fL_farthest 0 a b 518 μ = _
    unfold fL_farthest
    rw [e, bs]
    simp only
    rw [show stL ν 518 (0 : Int32) v.toInt64 = _ from stL_I (n := 0) kd518 (by omega) (by omega), bs]
  · intro ν e
    show fL_farthest 0 a b 518 μ = _
    unfold fL_farthest
    rw [e, bs]
    rfl
theorem q_gather {C : Cel} {G Fd : List Itm} {pc : Nat → Int32} {k : Nat} {r : Row} {μ : Mem} (hI : INV C G Fd pc k r μ) (a : Int32) {code val : Int32} (hc : CQ (fX10_gather 0 a μ) μ code val) (hne : code ≠ 2) (hr : ∀ ν, INV C G Fd pc k r ν → RQ (fX11_gather 492 a ν) ν code val) : QQ C G Fd pc k r (fun μ => fL_gather 0 a 518 μ) (fun ν => fX11_gather 492 a ν) μ := by
  refine QQ.mk2 hI hc hne ?_ ?_ hr
  · intro v ν e
    show fL_gather 0 a 518 μ = _
    unfold fL_gather
    rw [e, bs]
    simp only
    rw [show stL ν 518 (0 : Int32) v.toInt64 = _ from stL_I (n := 0) kd518 (by omega) (by omega), bs]
  · intro ν e
    show fL_gather 0 a 518 μ = _
    unfold fL_gather
    rw [e, bs]
    rfl
theorem q_errands {C : Cel} {G Fd : List Itm} {pc : Nat → Int32} {k : Nat} {r : Row} {μ : Mem} (hI : INV C G Fd pc k r μ) (a : Int32) {code val : Int32} (hc : CQ (fX10_errands 0 a μ) μ code val) (hne : code ≠ 2) (hr : ∀ ν, INV C G Fd pc k r ν → RQ (fX11_errands 492 a ν) ν code val) : QQ C G Fd pc k r (fun μ => fL_errands 0 a 518 μ) (fun ν => fX11_errands 492 a ν) μ := by
  refine QQ.mk2 hI hc hne ?_ ?_ hr
  · intro v ν e
    show fL_errands 0 a 518 μ = _
    unfold fL_errands
    rw [e, bs]
    simp only
    rw [show stL ν 518 (0 : Int32) v.toInt64 = _ from stL_I (n := 0) kd518 (by omega) (by omega), bs]
  · intro ν e
    show fL_errands 0 a 518 μ = _
    unfold fL_errands
    rw [e, bs]
    rfl
theorem q_errand {C : Cel} {G Fd : List Itm} {pc : Nat → Int32} {k : Nat} {r : Row} {μ : Mem} (hI : INV C G Fd pc k r μ) (a : Int32) {code val : Int32} (hc : CQ (fX10_errand 0 a μ) μ code val) (hne : code ≠ 2) (hr : ∀ ν, INV C G Fd pc k r ν → RQ (fX11_errand 492 a ν) ν code val) : QQ C G Fd pc k r (fun μ => fL_errand 0 a 518 μ) (fun ν => fX11_errand 492 a ν) μ := by
  refine QQ.mk2 hI hc hne ?_ ?_ hr
  · intro v ν e
    show fL_errand 0 a 518 μ = _
    unfold fL_errand
    rw [e, bs]
    simp only
    rw [show stL ν 518 (0 : Int32) v.toInt64 = _ from stL_I (n := 0) kd518 (by omega) (by omega), bs]
  · intro ν e
    show fL_errand 0 a 518 μ = _
    unfold fL_errand
    rw [e, bs]
    rfl
theorem q_quick {C : Cel} {G Fd : List Itm} {pc : Nat → Int32} {k : Nat} {r : Row} {μ : Mem} (hI : INV C G Fd pc k r μ) (a : Int32) {code val : Int32} (hc : CQ (fX10_quick 0 a μ) μ code val) (hne : code ≠ 2) (hr : ∀ ν, INV C G Fd pc k r ν → RQ (fX11_quick 492 a ν) ν code val) : QQ C G Fd pc k r (fun μ => fL_quick 0 a 518 μ) (fun ν => fX11_quick 492 a ν) μ := by
  refine QQ.mk2 hI hc hne ?_ ?_ hr
  · intro v ν e
    show fL_quick 0 a 518 μ = _
    unfold fL_quick
    rw [e, bs]
    simp only
    rw [show stL ν 518 (0 : Int32) v.toInt64 = _ from stL_I (n := 0) kd518 (by omega) (by omega), bs]
  · intro ν e
    show fL_quick 0 a 518 μ = _
    unfold fL_quick
    rw [e, bs]
    rfl
theorem q_look {C : Cel} {G Fd : List Itm} {pc : Nat → Int32} {k : Nat} {r : Row} {μ : Mem} (hI : INV C G Fd pc k r μ) (a : Int32) {code val : Int32} (hc : CQ (fX10_look 0 a μ) μ code val) (hne : code ≠ 2) (hr : ∀ ν, INV C G Fd pc k r ν → RQ (fX11_look 492 a ν) ν code val) : QQ C G Fd pc k r (fun μ => fL_look 0 a 518 μ) (fun ν => fX11_look 492 a ν) μ := by
  refine QQ.mk2 hI hc hne ?_ ?_ hr
  · intro v ν e
    show fL_look 0 a 518 μ = _
    unfold fL_look
    rw [e, bs]
    simp only
    rw [show stL ν 518 (0 : Int32) v.toInt64 = _ from stL_I (n := 0) kd518 (by omega) (by omega), bs]
  · intro ν e
    show fL_look 0 a 518 μ = _
    unfold fL_look
    rw [e, bs]
    rfl
theorem q_candles {C : Cel} {G Fd : List Itm} {pc : Nat → Int32} {k : Nat} {r : Row} {μ : Mem} (hI : INV C G Fd pc k r μ) (a b c : Int32) {code val : Int32} (hc : CQ (fX10_candles 0 a b c μ) μ code val) (hr : ∀ ν, INV C G Fd pc k r ν → RQ (fX11_candles 492 a b c ν) ν code val) : QQ C G Fd pc k r (fun μ => fL_candles 0 a b c 518 μ) (fun ν => fX11_candles 492 a b c ν) μ := by
  refine QQ.mk1 hI hc ?_ ?_ ?_ hr
  · intro v ν e
    show fL_candles 0 a b c 518 μ = _
    unfold fL_candles
    rw [e, bs]
    simp only
    rw [show stL ν 518 (0 : Int32) v.toInt64 = _ from stL_I (n := 0) kd518 (by omega) (by omega), bs]
  · intro ν e
    show fL_candles 0 a b c 518 μ = _
    unfold fL_candles
    rw [e, bs]
    rfl
  · intro ν e
    show fL_candles 0 a b c 518 μ = _
    unfold fL_candles
    rw [e, bs]
    rfl
theorem q_game {C : Cel} {G Fd : List Itm} {pc : Nat → Int32} {k : Nat} {r : Row} {μ : Mem} (hI : INV C G Fd pc k r μ) (a b c : Int32) {code val : Int32} (hc : CQ (fX10_game 0 a b c μ) μ code val) (hr : ∀ ν, INV C G Fd pc k r ν → RQ (fX11_game 492 a b c ν) ν code val) : QQ C G Fd pc k r (fun μ => fL_game 0 a b c 518 μ) (fun ν => fX11_game 492 a b c ν) μ := by
  refine QQ.mk1 hI hc ?_ ?_ ?_ hr
  · intro v ν e
    show fL_game 0 a b c 518 μ = _
    unfold fL_game
    rw [e, bs]
    simp only
    rw [show stL ν 518 (0 : Int32) v.toInt64 = _ from stL_I (n := 0) kd518 (by omega) (by omega), bs]
  · intro ν e
    show fL_game 0 a b c 518 μ = _
    unfold fL_game
    rw [e, bs]
    rfl
  · intro ν e
    show fL_game 0 a b c 518 μ = _
    unfold fL_game
    rw [e, bs]
    rfl
theorem q_years {C : Cel} {G Fd : List Itm} {pc : Nat → Int32} {k : Nat} {r : Row} {μ : Mem} (hI : INV C G Fd pc k r μ) (a b c : Int32) {code val : Int32} (hc : CQ (fX10_years 0 a b c μ) μ code val) (hr : ∀ ν, INV C G Fd pc k r ν → RQ (fX11_years 492 a b c ν) ν code val) : QQ C G Fd pc k r (fun μ => fL_years 0 a b c 518 μ) (fun ν => fX11_years 492 a b c ν) μ := by
  refine QQ.mk1 hI hc ?_ ?_ ?_ hr
  · intro v ν e
    show fL_years 0 a b c 518 μ = _
    unfold fL_years
    rw [e, bs]
    simp only
    rw [show stL ν 518 (0 : Int32) v.toInt64 = _ from stL_I (n := 0) kd518 (by omega) (by omega), bs]
  · intro ν e
    show fL_years 0 a b c 518 μ = _
    unfold fL_years
    rw [e, bs]
    rfl
  · intro ν e
    show fL_years 0 a b c 518 μ = _
    unfold fL_years
    rw [e, bs]
    rfl
theorem q_ahead {C : Cel} {G Fd : List Itm} {pc : Nat → Int32} {k : Nat} {r : Row} {μ : Mem} (hI : INV C G Fd pc k r μ) (a b : Int32) {code val : Int32} (hc : CQ (fX10_ahead 0 a b μ) μ code val) (hr : ∀ ν, INV C G Fd pc k r ν → RQ (fX11_ahead 492 a b ν) ν code val) : QQ C G Fd pc k r (fun μ => fL_ahead 0 a b 518 μ) (fun ν => fX11_ahead 492 a b ν) μ := by
  refine QQ.mk1 hI hc ?_ ?_ ?_ hr
  · intro v ν e
    show fL_ahead 0 a b 518 μ = _
    unfold fL_ahead
    rw [e, bs]
    simp only
    rw [show stL ν 518 (0 : Int32) v.toInt64 = _ from stL_I (n := 0) kd518 (by omega) (by omega), bs]
  · intro ν e
    show fL_ahead 0 a b 518 μ = _
    unfold fL_ahead
    rw [e, bs]
    rfl
  · intro ν e
    show fL_ahead 0 a b 518 μ = _
    unfold fL_ahead
    rw [e, bs]
    rfl
theorem q_ways {C : Cel} {G Fd : List Itm} {pc : Nat → Int32} {k : Nat} {r : Row} {μ : Mem} (hI : INV C G Fd pc k r μ) (a b : Int32) {code val : Int32} (hc : CQ (fX10_ways 0 a b μ) μ code val) (hne : code ≠ 2) (hr : ∀ ν, INV C G Fd pc k r ν → RQ (fX11_ways 492 a b ν) ν code val) : QQ C G Fd pc k r (fun μ => fL_ways 0 a b 518 μ) (fun ν => fX11_ways 492 a b ν) μ := by
  refine QQ.mk2 hI hc hne ?_ ?_ hr
  · intro v ν e
    show fL_ways 0 a b 518 μ = _
    unfold fL_ways
    rw [e, bs]
    simp only
    rw [show stL ν 518 (0 : Int32) v.toInt64 = _ from stL_I (n := 0) kd518 (by omega) (by omega), bs]
  · intro ν e
    show fL_ways 0 a b 518 μ = _
    unfold fL_ways
    rw [e, bs]
    rfl
theorem q_near {C : Cel} {G Fd : List Itm} {pc : Nat → Int32} {k : Nat} {r : Row} {μ : Mem} (hI : INV C G Fd pc k r μ) (a : Int32) {code val : Int32} (hc : CQ (fX10_near 0 a μ) μ code val) (hne : code ≠ 2) (hr : ∀ ν, INV C G Fd pc k r ν → RQ (fX11_near 492 a ν) ν code val) : QQ C G Fd pc k r (fun μ => fL_near 0 a 518 μ) (fun ν => fX11_near 492 a ν) μ := by
  refine QQ.mk2 hI hc hne ?_ ?_ hr
  · intro v ν e
    show fL_near 0 a 518 μ = _
    unfold fL_near
    rw [e, bs]
    simp only
    rw [show stL ν 518 (0 : Int32) v.toInt64 = _ from stL_I (n := 0) kd518 (by omega) (by omega), bs]
  · intro ν e
    show fL_near 0 a 518 μ = _
    unfold fL_near
    rw [e, bs]
    rfl
theorem q_gone {C : Cel} {G Fd : List Itm} {pc : Nat → Int32} {k : Nat} {r : Row} {μ : Mem} (hI : INV C G Fd pc k r μ) (a b : Int32) {code val : Int32} (hc : CQ (fX10_gone 0 a b μ) μ code val) (hr : ∀ ν, INV C G Fd pc k r ν → RQ (fX11_gone 492 a b ν) ν code val) : QQ C G Fd pc k r (fun μ => fL_gone 0 a b 518 μ) (fun ν => fX11_gone 492 a b ν) μ := by
  refine QQ.mk1 hI hc ?_ ?_ ?_ hr
  · intro v ν e
    show fL_gone 0 a b 518 μ = _
    unfold fL_gone
    rw [e, bs]
    simp only
    rw [show stL ν 518 (0 : Int32) v.toInt64 = _ from stL_I (n := 0) kd518 (by omega) (by omega), bs]
  · intro ν e
    show fL_gone 0 a b 518 μ = _
    unfold fL_gone
    rw [e, bs]
    rfl
  · intro ν e
    show fL_gone 0 a b 518 μ = _
    unfold fL_gone
    rw [e, bs]
    rfl
