/-! A DAY: the picture -/
theorem stl_congr {r r' : Row} (h : ∀ k, 49 ≤ k → k < 55 → r k = r' k) : stl r = stl r' := by
  funext x
  unfold stl
  by_cases hx : x < 48
  · rw [h (49 + x / 8) (by omega) (by omega)]
  · rw [decide_eq_false hx]; rfl
theorem adj_congr {C : Cel} {r r' : Row} (h : ∀ k, 49 ≤ k → k < 55 → r k = r' k) : adj C r = adj C r' := by
  funext x y
  unfold adj
  rw [stl_congr h]
theorem wh_congr {C : Cel} {r r' : Row} (hC : C.ok) (h : ∀ k, 1 ≤ k → k < 49 → r k = r' k) : wh C r = wh C r' := by
  funext x
  unfold wh
  by_cases hx : there C x = true
  · have := there_lt hC hx
    rw [h (1 + x) (by omega) (by omega)]
  · have : there C x = false := by cases q : there C x; rfl; exact absurd q hx
    rw [this]; rfl
theorem StOK_congr {C : Cel} {r r' : Row} (h : ∀ k, 49 ≤ k → k < 55 → r k = r' k) (hs : StOK C r) : StOK C r' := by
  intro x hx
  rw [← stl_congr h] at hx
  exact hs x hx
theorem isStep_congr {C : Cel} {r r' : Row} (hC : C.ok) (h : ∀ k, 1 ≤ k → k < 55 → r k = r' k) : isStep C r = isStep C r' := by
  funext to x y
  unfold isStep
  rw [adj_congr (fun k h1 h2 => h k (by omega) h2), wh_congr hC (fun k h1 h2 => h k h1 (by omega))]
/-- the values of goes, of fades -/
def gvals (C : Cel) (r : Row) (p m d w : Nat) : Int32 := match w with
  | 0 => r (73 + p)
  | 1 => I m
  | 2 => I d
  | 3 => cntI (fun q => r (55 + q)) (r (55 + p)) C.P - 1
  | 4 => r (67 + p)
  | _ => r 0
def fvals (C : Cel) (r : Row) (x w : Nat) : Int32 := match w with
  | 0 => r (1 + x)
  | 1 => I (x % 8)
  | 2 => I (x / 8)
  | 3 => cntI (fun q => r (55 + q)) (I x) C.P
  | _ => r 0
noncomputable def goOn (C : Cel) (G : List Itm) (r : Row) (p m d : Nat) : Bool := G.isEmpty || decide (0 < evV (gvals C r p m d) G)
noncomputable def fadeBy (C : Cel) (Fd : List Itm) (r : Row) (x : Nat) : Int32 := if Fd.isEmpty = true then (if r 0 - r 0 / 5 * 5 = 4 then 1 else 0) else evV (fvals C r x) Fd
def bnd0 (v hi : Int32) : Int32 := if v < 0 then 0 else if hi < v then hi else v
/-- one walks: how far it still is, where, how many steps -/
noncomputable def wlk (C : Cel) (G : List Itm) (to p : Nat) (r : Row) : Nat → Nat → Nat → Nat × Nat
  | 0, x, m => (x, m)
  | d + 1, x, m => if (decide (I m < r (73 + p)) && goOn C G (up r (55 + p) (I x)) p m (d + 1)) = true then wlk C G to p r d (fst48 (isStep C r to x)) (m + 1) else (x, m)
noncomputable def wres (C : Cel) (G : List Itm) (dark : Bool) (r : Row) (p to x : Nat) : Nat × Nat := if dark = true then (x, 0) else if dst (adj C r) (wh C r) to x = 9999 then (x, 0) else wlk C G to p r (dst (adj C r) (wh C r) to x) x 0
/-- one person's walk: the row, how many steps, whether he came -/
noncomputable def walk1 (C : Cel) (G : List Itm) (dark : Bool) (p : Nat) (r : Row) : Row × Nat × Bool :=
  if r (61 + p) = -1 then (r, 0, false)
  else if (wres C G dark r p (ix (r (61 + p))) (ix (r (55 + p)))).1 = ix (r (61 + p)) then (up (up r (55 + p) (I (wres C G dark r p (ix (r (61 + p))) (ix (r (55 + p)))).1)) (61 + p) (-1), (wres C G dark r p (ix (r (61 + p))) (ix (r (55 + p)))).2, true)
  else (up r (55 + p) (I (wres C G dark r p (ix (r (61 + p))) (ix (r (55 + p)))).1), (wres C G dark r p (ix (r (61 + p))) (ix (r (55 + p)))).2, false)
/-- all walk, the first j -/
noncomputable def walkA (C : Cel) (G : List Itm) (dark : Bool) (r : Row) : Nat → Row × (Nat → Nat) × (Nat → Bool)
  | 0 => (r, fun _ => 0, fun _ => false)
  | j + 1 => ((walk1 C G dark j (walkA C G dark r j).1).1, up (walkA C G dark r j).2.1 j (walk1 C G dark j (walkA C G dark r j).1).2.1, up (walkA C G dark r j).2.2 j (walk1 C G dark j (walkA C G dark r j).1).2.2)
/-- with how many others one is -/
def oth (C : Cel) (r : Row) (p : Nat) : Int32 := cntI (fun q => r (55 + q)) (r (55 + p)) C.P - 1
def greetR (C : Cel) (r : Row) (j : Nat) : Row := fun k => if 67 ≤ k ∧ k < 67 + j then (if (9999 : Int32) < r k + oth C r (k - 67) then 9999 else r k + oth C r (k - 67)) else r k
noncomputable def fadeR (C : Cel) (Fd : List Itm) (r : Row) (j : Nat) : Row := fun k => if (1 ≤ k ∧ k < 1 + j) ∧ there C (k - 1) = true ∧ 0 < r k then r k - bnd0 (fadeBy C Fd r (k - 1)) (r k) else r k
noncomputable def dayR (C : Cel) (G Fd : List Itm) (dark : Bool) (r : Row) : Row :=
  let r2 := fadeR C Fd (greetR C (walkA C G dark r C.P).1 C.P) 48
  up r2 0 (r2 0 + 1)
/-- the rows are good: people stand on places, are sent to places, stiles are right -/
def RowOK (C : Cel) (r : Row) : Prop := StOK C r ∧ (∀ p, p < C.P → ∃ x, r (55 + p) = I x ∧ there C x = true) ∧ (∀ p, p < C.P → r (61 + p) = -1 ∨ ∃ x, r (61 + p) = I x ∧ there C x = true)
theorem wlk_there {C : Cel} {G : List Itm} {to p : Nat} {r : Row} (hC : C.ok) (hs : StOK C r) (hto : there C to = true) : ∀ (d x m : Nat), there C x = true → dst (adj C r) (wh C r) to x = d → d ≠ 9999 → there C (wlk C G to p r d x m).1 = true := by
  intro d
  induction d with
  | zero => intro x m hx _ _; exact hx
  | succ d ih =>
    intro x m hx hd hn
    unfold wlk
    split
    · have hne : ∃ y, isStep C r to x y = true := by
        rcases dst_wh hC hs hto x with q | ⟨_, q⟩
        · rw [q.1] at hd; exact absurd hd.symm hn
        · rw [hd] at q
          obtain ⟨y, ha, hw, hy⟩ := q.step
          refine ⟨y, ?_⟩
          unfold isStep
          rw [ha, hw, dst_of hy, hd]
          simp
      obtain ⟨y, hy⟩ := hne
      obtain ⟨m', hm', h1, h2⟩ := least (p := fun j => isStep C r to x j = true) y hy
      have hst := h1
      unfold isStep at h1
      rw [Bool.and_eq_true, Bool.and_eq_true] at h1
      have ht := wh_there m' h1.1.2
      rw [fst48_of (there_lt hC ht) hst (fun j hj => by cases q : isStep C r to x j; rfl; exact absurd q (h2 j hj))]
      have he := of_decide_eq_true h1.2
      rw [hd] at he
      have hlt : d + 1 < 48 := by
        rcases dst_wh hC hs hto x with q | q
        · exact absurd (hd.symm.trans q.1) hn
        · rw [← hd]; exact q.1
      exact ih m' (m + 1) ht (by omega) (by omega)
    · exact hx
theorem wres_there {C : Cel} {G : List Itm} {dark : Bool} {r : Row} {p to x : Nat} (hC : C.ok) (hs : StOK C r) (hto : there C to = true) (hx : there C x = true) : there C (wres C G dark r p to x).1 = true := by
  unfold wres
  split
  · exact hx
  · split
    · exact hx
    · rename_i h
      exact wlk_there hC hs hto _ x 0 hx rfl h
theorem ix_of {x : Nat} (h : x < 48) : ix (I x) = x := ix_I (by omega)
theorem walk1_ok {C : Cel} {G : List Itm} {dark : Bool} {p : Nat} {r : Row} (hC : C.ok) (hp : p < C.P) (h : RowOK C r) : RowOK C (walk1 C G dark p r).1 := by
  obtain ⟨hs, ha, ht⟩ := h
  have hP := hC.2.1
  unfold walk1
  split
  · exact ⟨hs, ha, ht⟩
  · rename_i hn
    obtain ⟨x, hx1, hx2⟩ := ha p hp
    obtain ⟨to, ht1, ht2⟩ : ∃ x, r (61 + p) = I x ∧ there C x = true := by
      rcases ht p hp with q | q
      · exact absurd q hn
      · exact q
    rw [hx1, ht1, ix_of (there_lt hC hx2), ix_of (there_lt hC ht2)]
    have hw := wres_there (G := G) (dark := dark) (p := p) hC hs ht2 hx2
    have base : RowOK C (up r (55 + p) (I (wres C G dark r p to x).1)) := by
      refine ⟨StOK_congr (fun k h1 h2 => by rw [up_n _ _ (by omega)]) hs, ?_, ?_⟩
      · intro q hq
        by_cases e : q = p
        · subst e; exact ⟨_, up_s _ _ _, hw⟩
        · rw [up_n _ _ (by omega)]; exact ha q hq
      · intro q hq
        rw [up_n _ _ (by omega)]; exact ht q hq
    split
    · show RowOK C (up (up r (55 + p) (I (wres C G dark r p to x).1)) (61 + p) (-1))
      refine ⟨StOK_congr (fun k h1 h2 => (up_n _ _ (by omega)).symm) base.1, ?_, ?_⟩
      · intro q hq
        rw [up_n _ _ (by omega)]; exact base.2.1 q hq
      · intro q hq
        by_cases e : q = p
        · subst e; exact Or.inl (up_s _ _ _)
        · rw [up_n _ _ (by omega)]; exact base.2.2 q hq
    · exact base
theorem walkA_ok {C : Cel} {G : List Itm} {dark : Bool} {r : Row} (hC : C.ok) (h : RowOK C r) : ∀ j, j ≤ C.P → RowOK C (walkA C G dark r j).1 := by
  intro j
  induction j with
  | zero => intro _; exact h
  | succ j ih => intro hj; exact walk1_ok hC (by omega) (ih (by omega))
theorem RowOK.congr {C : Cel} {r r' : Row} (h : RowOK C r) (h1 : ∀ k, 49 ≤ k → k < 67 → r k = r' k) (hC : C.ok) : RowOK C r' := by
  have hP := hC.2.1
  refine ⟨StOK_congr (fun k a b => h1 k a (by omega)) h.1, ?_, ?_⟩
  · intro p hp; rw [← h1 (55 + p) (by omega) (by omega)]; exact h.2.1 p hp
  · intro p hp; rw [← h1 (61 + p) (by omega) (by omega)]; exact h.2.2 p hp
theorem dayR_ok {C : Cel} {G Fd : List Itm} {dark : Bool} {r : Row} (hC : C.ok) (h : RowOK C r) : RowOK C (dayR C G Fd dark r) := by
  refine (walkA_ok (G := G) (dark := dark) hC h C.P (Nat.le_refl _)).congr ?_ hC
  intro k h1 h2
  show (walkA C G dark r C.P).1 k = up (fadeR C Fd (greetR C (walkA C G dark r C.P).1 C.P) 48) 0 _ k
  rw [up_n _ _ (by omega)]
  unfold fadeR
  rw [if_neg (by omega)]
  unfold greetR
  rw [if_neg (by omega)]
