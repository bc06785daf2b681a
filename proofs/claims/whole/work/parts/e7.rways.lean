/-! WAYS: the reference -/
section Rw
variable {C : Cel} {G Fd : List Itm} {pc : Nat → Int32} {k : Nat} {r : Row} {μ : Mem}
theorem nbr_inj {R : Row} {s w w' y : Nat} (hw : w < 4) (hw' : w' < 4) (h : nbr C R s w = some y) (h' : nbr C R s w' = some y) : w = w' := by
  have f : ∀ w, w < 4 → nbr C R s w = some y → (w = 0 ∧ y + 1 = s) ∨ (w = 1 ∧ y = s + 1) ∨ (w = 2 ∧ y + 8 = s) ∨ (w = 3 ∧ y = s + 8) := by
    intro w hw h
    rcases w with _ | _ | _ | _ | w
    · rw [nbr_0] at h
      split at h
      · cases h
      · have := Option.some.inj h; omega
    · rw [nbr_1] at h
      split at h
      · cases h
      · have := Option.some.inj h; omega
    · rw [nbr_2] at h
      split at h
      · have := Option.some.inj h; omega
      · cases h
    · rw [nbr_3] at h
      split at h
      · have := Option.some.inj h; omega
      · cases h
    · omega
  have a := f w hw h
  have b := f w' hw' h'
  omega
def hitB (C : Cel) (R : Row) (s : Nat) : Nat → Nat → Bool
  | 0, _ => false
  | w + 1, y => hitB C R s w y || decide (nbr C R s w = some y)
theorem hit_iff {R : Row} {s : Nat} : ∀ w y, hitB C R s w y = true ↔ ∃ w', w' < w ∧ nbr C R s w' = some y := by
  intro w
  induction w with
  | zero => intro y; exact ⟨(fun h => by cases h), (fun ⟨w', h, _⟩ => by omega)⟩
  | succ w ih =>
    intro y
    show (hitB C R s w y || decide (nbr C R s w = some y)) = true ↔ _
    rw [Bool.or_eq_true, ih, decide_eq_true_eq]
    constructor
    · rintro (⟨w', a, b⟩ | b)
      · exact ⟨w', by omega, b⟩
      · exact ⟨w, by omega, b⟩
    · rintro ⟨w', a, b⟩
      by_cases e : w' = w
      · exact Or.inr (e ▸ b)
      · exact Or.inl ⟨w', by omega, b⟩
/-- what the reference has while it counts -/
def WR (C : Cel) (r R : Row) (to : Nat) (N : Mem) : Prop := Gr N ∧ (∀ s, there C s = true → ∀ y, adj C r s y = true ↔ ∃ w, w < 4 ∧ nbr C R s w = some y) ∧ (∀ P s w, there C s = true → w < 4 → fX11_beside 492 (0 : Int32) (I s) (I w) (sC N 509 P) = some (enc (nbr C R s w))) ∧ (∀ P y, there C y = true → fX11_isWhite 492 (0 : Int32) (I y) (sC N 509 P) = some (if wh C r y = true then 1 else 0)) ∧ (∀ y, there C y = true → N.2.1 506 y = I (dR C r to y)) ∧ ∀ y, dR C r to y < 48 ∨ dR C r to y = 9999
theorem WR.gr {R : Row} {to : Nat} {N : Mem} (h : WR C r R to N) : Gr N := h.1
theorem WR.nb {R : Row} {to : Nat} {N : Mem} (h : WR C r R to N) : ∀ s, there C s = true → ∀ y, adj C r s y = true ↔ ∃ w, w < 4 ∧ nbr C R s w = some y := h.2.1
theorem WR.be {R : Row} {to : Nat} {N : Mem} (h : WR C r R to N) : ∀ P s w, there C s = true → w < 4 → fX11_beside 492 (0 : Int32) (I s) (I w) (sC N 509 P) = some (enc (nbr C R s w)) := h.2.2.1
theorem WR.wt {R : Row} {to : Nat} {N : Mem} (h : WR C r R to N) : ∀ P y, there C y = true → fX11_isWhite 492 (0 : Int32) (I y) (sC N 509 P) = some (if wh C r y = true then 1 else 0) := h.2.2.2.1
theorem WR.di {R : Row} {to : Nat} {N : Mem} (h : WR C r R to N) : ∀ y, there C y = true → N.2.1 506 y = I (dR C r to y) := h.2.2.2.2.1
theorem WR.le {R : Row} {to : Nat} {N : Mem} (h : WR C r R to N) : ∀ y, dR C r to y < 48 ∨ dR C r to y = 9999 := h.2.2.2.2.2
variable {R : Row} {to x : Nat} {N : Mem}
theorem pT_there (hx : there C x = true) : ∀ i y, pT C r to x i y ≠ 0 → there C y = true := by
  intro i
  induction i with
  | zero =>
    intro y h
    by_cases e : y = x
    · rw [e]; exact hx
    · exact absurd (show (if y = x then 1 else 0) = 0 by rw [if_neg e]) h
  | succ i ih =>
    intro y h
    by_cases q : wh C r y = true ∧ dR C r to y + (i + 1) = dR C r to x
    · exact (wh_iff.mp q.1).1
    · rw [pT_not q] at h
      exact ih y h
abbrev tgt (C : Cel) (r : Row) (to x i y : Nat) : Prop := wh C r y = true ∧ dR C r to y + (i + 1) = dR C r to x
/-- one place gives what it has to its neighbours of the next level -/
theorem v108 (hC : C.ok) (hs : StOK C r) (H : WR C r R to N) {i e s : Nat} (hss : there C s = true) (he : e + (i + 1) = dR C r to x) (hd : dR C r to x < 48) (hl : dR C r to s + i = dR C r to x) (hp : 0 < pT C r to x i s) {A : Nat → Nat} (hA : A s = pT C r to x i s) (K : Nat → Int32 → Int32 → Int32 → Mem → Option (Int32 × Mem)) :
    ∀ f w m P, w + f = 4 → f < m → (∀ y, y < 48 → P y = I (A y + if tgt C r to x i y ∧ hitB C R s w y = true then pT C r to x i s else 0)) → ∃ P', fX11_ways_108 K m 492 (I to) (I (e + 1)) (I s) (I w) (sC N 509 P) = K 492 (I to) (I (e + 1)) (I (s + 1)) (sC N 509 P') ∧ ∀ y, y < 48 → P' y = I (A y + if tgt C r to x i y ∧ adj C r s y = true then pT C r to x i s else 0) := by
  have hs48 := there_lt hC hss
  intro f
  induction f with
  | zero =>
    intro w m P h1 h2 hP
    obtain ⟨m, rfl⟩ : ∃ z, m = z + 1 := ⟨m - 1, by omega⟩
    refine ⟨P, ?_, fun y hy => ?_⟩
    · rw [fX11_ways_108, if_neg (show ¬ I w < (4 : Int32) by rw [show w = 4 by omega]; decide), show I s + (1 : Int32) = I (s + 1) from I_add s 1]
    · rw [hP y hy, show w = 4 by omega]
      have : (hitB C R s 4 y = true) = (adj C r s y = true) := propext ((hit_iff 4 y).trans (H.nb s hss y).symm)
      simp only [this]
  | succ f ih =>
    intro w m P h1 h2 hP
    obtain ⟨m, rfl⟩ : ∃ z, m = z + 1 := ⟨m - 1, by omega⟩
    have hG := H.gr.sC 509 P
    have hPs : P s = I (pT C r to x i s) := by
      rw [hP s hs48, if_neg (fun q => by have := q.1.2; omega), hA, Nat.add_zero]
    have hlt := pT_lt (C := C) (r := r) to x i s
    rw [fX11_ways_108, if_pos (show I w < (4 : Int32) by rw [show (4 : Int32) = I 4 from rfl, I_lt (by omega) (by omega)]; omega), g_492_46 hG, bs, ld_509 hs48, bs, sC_s, hPs, if_pos (show (0 : Int32) < I (pT C r to x i s) by rw [show (0 : Int32) = I 0 from rfl, I_lt (by omega) (by omega)]; exact hp), g_492_39 hG, bs, ld_506 hs48, bs, sC_n _ _ (by decide : (506 : Nat) ≠ 509), H.di s hss, if_pos (show I (dR C r to s) = I (e + 1) by rw [show dR C r to s = e + 1 by omega]), H.be P s w hss (by omega), bs, show I w + (1 : Int32) = I (w + 1) from I_add w 1]
    have same : (∀ y, nbr C R s w = some y → ¬ tgt C r to x i y) → ∀ y, y < 48 → P y = I (A y + if tgt C r to x i y ∧ hitB C R s (w + 1) y = true then pT C r to x i s else 0) := by
      intro hn y hy
      rw [hP y hy]
      have : (tgt C r to x i y ∧ hitB C R s w y = true) = (tgt C r to x i y ∧ hitB C R s (w + 1) y = true) := by
        apply propext
        show _ ↔ (_ ∧ (hitB C R s w y || decide (nbr C R s w = some y)) = true)
        rw [Bool.or_eq_true, decide_eq_true_eq]
        constructor
        · rintro ⟨a, b⟩; exact ⟨a, Or.inl b⟩
        · rintro ⟨a, b | b⟩
          · exact ⟨a, b⟩
          · exact absurd a (hn y b)
      simp only [this]
    cases hnb : nbr C R s w with
    | none =>
      rw [if_pos (show enc none = (-1 : Int32) from rfl)]
      exact ih (w + 1) m P (by omega) (by omega) (same (fun y h => by rw [hnb] at h; cases h))
    | some y0 =>
      have hay : adj C r s y0 = true := (H.nb s hss y0).mpr ⟨w, by omega, hnb⟩
      have hty := adj_there hC hs hss hay
      have hy48 := there_lt hC hty
      rw [show enc (some y0) = I y0 from rfl]
      rw [if_neg (I_m1 (by omega))]
      show ∃ P', ((fX11_isWhite 492 (0 : Int32) (I y0) (sC N 509 P)).bind _) = _ ∧ _
      rw [H.wt P y0 hty, bs]
      by_cases hwy : wh C r y0 = true
      · rw [if_pos hwy, if_neg (show ¬ (1 : Int32) = 0 by decide), bs]
        show ∃ P', ((ldI (sC N 509 P) 506 (I y0)).bind _) = _ ∧ _
        rw [ld_506 hy48, bs, sC_n _ _ (by decide : (506 : Nat) ≠ 509), H.di y0 hty, show I (e + 1) - (1 : Int32) = I e from I_sub (n := e + 1) (m := 1) (by omega)]
        by_cases hdy : dR C r to y0 = e
        · have ht : tgt C r to x i y0 := ⟨hwy, by omega⟩
          have hnot : ¬ hitB C R s w y0 = true := by
            rw [hit_iff]
            rintro ⟨w', a, b⟩
            have := nbr_inj (by omega) (by omega) hnb b
            omega
          rw [if_pos (by rw [hdy]), bs]
          show ∃ P', ((ldI (sC N 509 P) 509 (I y0)).bind _) = _ ∧ _
          rw [ld_509 hy48, bs, bs]
          show ∃ P', ((ldI (sC N 509 P) 509 (I s)).bind _) = _ ∧ _
          rw [ld_509 hs48, bs, sC_s, hPs, hP y0 hy48, if_neg (fun q => hnot q.2), Nat.add_zero, I_add, st_509 hy48, bs, sC_s, sC_C]
          refine ih (w + 1) m _ (by omega) (by omega) (fun y hy => ?_)
          by_cases hyy : y = y0
          · subst hyy
            rw [up_s, if_pos ⟨ht, (hit_iff _ _).mpr ⟨w, by omega, hnb⟩⟩]
          · rw [up_n _ _ hyy, hP y hy]
            have : (tgt C r to x i y ∧ hitB C R s w y = true) = (tgt C r to x i y ∧ hitB C R s (w + 1) y = true) := by
              apply propext
              show _ ↔ (_ ∧ (hitB C R s w y || decide (nbr C R s w = some y)) = true)
              rw [Bool.or_eq_true, decide_eq_true_eq, hnb]
              constructor
              · rintro ⟨a, b⟩; exact ⟨a, Or.inl b⟩
              · rintro ⟨a, b | b⟩
                · exact ⟨a, b⟩
                · exact absurd (Option.some.inj b).symm hyy
            simp only [this]
        · rw [if_neg (fun z => hdy ((I_inj (by rcases H.le y0 with q | q <;> omega) (by omega)).mp z))]
          exact ih (w + 1) m P (by omega) (by omega) (same (fun y h => by rw [hnb] at h; cases h; exact fun q => hdy (by have := q.2; omega)))
      · rw [if_neg hwy, if_pos rfl]
        exact ih (w + 1) m P (by omega) (by omega) (same (fun y h => by rw [hnb] at h; cases h; exact fun q => hwy q.1))
noncomputable abbrev gG (C : Cel) (r : Row) (to x i y : Nat) : Nat → Nat := fun z => if adj C r z y = true ∧ dR C r to z + i = dR C r to x then pT C r to x i z else 0
theorem v98 (hC : C.ok) (hs : StOK C r) (hx : there C x = true) (H : WR C r R to N) {i e : Nat} (he : e + (i + 1) = dR C r to x) (hd : dR C r to x < 48) (K : Nat → Int32 → Int32 → Mem → Option (Int32 × Mem)) :
    ∀ f s m P, s + f = 48 → f < m → (∀ y, y < 48 → P y = I (pT C r to x i y + if tgt C r to x i y then sMn (gG C r to x i y) s else 0)) → ∃ P', fX11_ways_98 K m 492 (I to) (I (e + 1)) (I s) (sC N 509 P) = K 492 (I to) (I (e + 1) + (-1)) (sC N 509 P') ∧ ∀ y, y < 48 → P' y = I (pT C r to x (i + 1) y) := by
  intro f
  induction f with
  | zero =>
    intro s m P h1 h2 hP
    obtain ⟨m, rfl⟩ : ∃ z, m = z + 1 := ⟨m - 1, by omega⟩
    refine ⟨P, ?_, fun y hy => ?_⟩
    · rw [fX11_ways_98, if_neg (show ¬ I s < (48 : Int32) by rw [show s = 48 by omega]; decide)]
    · rw [hP y hy, show s = 48 by omega]
      by_cases q : tgt C r to x i y
      · rw [if_pos q, pT_lo to x i y (by have := q.2; omega), Nat.zero_add, pT_is q]
      · rw [if_neg q, pT_not q, Nat.add_zero]
  | succ f ih =>
    intro s m P h1 h2 hP
    obtain ⟨m, rfl⟩ : ∃ z, m = z + 1 := ⟨m - 1, by omega⟩
    have hs48 : s < 48 := by omega
    rw [fX11_ways_98, if_pos (show I s < (48 : Int32) by rw [show (48 : Int32) = I 48 from rfl, I_lt (by omega) (by omega)]; omega)]
    by_cases hl : dR C r to s + i = dR C r to x ∧ 0 < pT C r to x i s
    · have hss := pT_there (r := r) (to := to) hx i s (by have := hl.2; omega)
      obtain ⟨P', u1, u2⟩ := v108 hC hs H hss he hd hl.1 hl.2 (A := fun y => pT C r to x i y + if tgt C r to x i y then sMn (gG C r to x i y) s else 0) (by show pT C r to x i s + (if tgt C r to x i s then sMn (gG C r to x i s) s else 0) = _; rw [if_neg (fun q => by have := q.2; omega), Nat.add_zero]) (fX11_ways_98 K m) 4 0 fuel P (by omega) (by unfold fuel; omega) (fun y hy => by rw [if_neg (show ¬ (tgt C r to x i y ∧ hitB C R s 0 y = true) from fun q => absurd (show false = true from q.2) (by decide)), Nat.add_zero]; exact hP y hy)
      obtain ⟨P2, v1, v2⟩ := ih (s + 1) m P' (by omega) (by omega) (fun y hy => by
        rw [u2 y hy]
        by_cases q : tgt C r to x i y
        · rw [if_pos q, if_pos q]
          show _ = I (_ + (sMn (gG C r to x i y) s + gG C r to x i y s))
          by_cases a : adj C r s y = true
          · rw [if_pos ⟨q, a⟩, show gG C r to x i y s = pT C r to x i s from if_pos ⟨a, hl.1⟩, Nat.add_assoc]
          · rw [if_neg (fun z => a z.2), show gG C r to x i y s = 0 from if_neg (fun z => a z.1)]
            rfl
        · rw [if_neg q, if_neg (fun z => q z.1), if_neg q])
      exact ⟨P2, u1.trans v1, v2⟩
    · have hg0 : ∀ y, gG C r to x i y s = 0 := by
        intro y
        show (if _ then _ else _) = 0
        split
        · rename_i q
          have := q.2
          omega
        · rfl
      obtain ⟨P2, v1, v2⟩ := ih (s + 1) m P (by omega) (by omega) (fun y hy => by
        rw [hP y hy]
        by_cases q : tgt C r to x i y
        · rw [if_pos q, if_pos q]
          show _ = I (_ + (sMn (gG C r to x i y) s + gG C r to x i y s))
          rw [hg0 y, Nat.add_zero]
        · rw [if_neg q, if_neg q])
      refine ⟨P2, Eq.trans ?_ v1, v2⟩
      have hG := H.gr.sC 509 P
      rw [show fuel = 4999 + 1 from rfl, fX11_ways_108, if_pos (by decide), g_492_46 hG, bs, ld_509 hs48, bs, sC_s, show I s + (1 : Int32) = I (s + 1) from I_add s 1]
      by_cases hps : (0 : Int32) < P s
      · have hss : there C s = true := by
          by_cases hts : there C s = true
          · exact hts
          · have z1 : pT C r to x i s = 0 := by
              by_cases z : pT C r to x i s = 0
              · exact z
              · exact absurd (pT_there (r := r) (to := to) hx i s z) hts
            rw [hP s hs48, z1, if_neg (fun q => hts (wh_iff.mp q.1).1)] at hps
            exact absurd hps (by decide)
        rw [if_pos hps, g_492_39 hG, bs, ld_506 hs48, bs, sC_n _ _ (by decide : (506 : Nat) ≠ 509), H.di s hss, if_neg]
        intro z
        have hz : dR C r to s = e + 1 := (I_inj (by rcases H.le s with q | q <;> omega) (by omega)).mp z
        have z1 : pT C r to x i s = 0 := by omega
        rw [hP s hs48, z1, if_neg (fun q => by have := q.2; omega)] at hps
        exact absurd hps (by decide)
      · rw [if_neg hps]
theorem v90 (hC : C.ok) (hs : StOK C r) (hx : there C x = true) (hto : there C to = true) (H : WR C r R to N) (hd : dR C r to x < 48) :
    ∀ f i m P, i + f = dR C r to x → f < m → (∀ y, y < 48 → P y = I (pT C r to x i y)) → ∃ P', fX11_ways_90 m 492 (I to) (I f) (sC N 509 P) = some (I (pT C r to x (dR C r to x) to), sC N 509 P') := by
  have hto48 := there_lt hC hto
  intro f
  induction f with
  | zero =>
    intro i m P h1 h2 hP
    obtain ⟨m, rfl⟩ : ∃ z, m = z + 1 := ⟨m - 1, by omega⟩
    refine ⟨P, ?_⟩
    rw [fX11_ways_90, if_neg (by decide), g_492_46 (H.gr.sC _ _), bs, ld_509 hto48, bs, sC_s, hP to hto48, show i = dR C r to x by omega]
  | succ f ih =>
    intro i m P h1 h2 hP
    obtain ⟨m, rfl⟩ : ∃ z, m = z + 1 := ⟨m - 1, by omega⟩
    rw [fX11_ways_90, if_pos (show (0 : Int32) < I (f + 1) by rw [show (0 : Int32) = I 0 from rfl, I_lt (by omega) (by omega)]; omega)]
    obtain ⟨P', u1, u2⟩ := v98 hC hs hx H (i := i) (e := f) (by omega) hd (fX11_ways_90 m) 48 0 fuel P (by omega) (by unfold fuel; omega) (fun y hy => by
      rw [hP y hy]
      show _ = I (_ + if _ then 0 else 0)
      rw [ite_self, Nat.add_zero])
    obtain ⟨P2, v1⟩ := ih (i + 1) m P' (by omega) (by omega) u2
    refine ⟨P2, Eq.trans u1 ?_⟩
    rw [show I (f + 1) + (-1 : Int32) = I f from (Int32.sub_eq_add_neg (I (f + 1)) 1).symm.trans (I_sub (n := f + 1) (m := 1) (by omega))]
    exact v1
theorem v51 (H : WR C r R to N) (hx : there C x = true) (hx48 : x < 48) : ∀ f s m P, s + f = 48 → f < m → (∀ y, y < s → P y = I (if y = x then 1 else 0)) → ∃ P', fX11_ways_51 m 492 (I x) (I to) (I s) (sC N 509 P) = fX11_ways_90 fuel 492 (I to) (I (dR C r to x)) (sC N 509 P') ∧ ∀ y, y < 48 → P' y = I (if y = x then 1 else 0) := by
  intro f
  induction f with
  | zero =>
    intro s m P h1 h2 hP
    obtain ⟨m, rfl⟩ : ∃ z, m = z + 1 := ⟨m - 1, by omega⟩
    refine ⟨P, ?_, fun y hy => hP y (by omega)⟩
    rw [fX11_ways_51, if_neg (show ¬ I s < (48 : Int32) by rw [show s = 48 by omega]; decide), g_492_39 (H.gr.sC _ _), bs, ld_506 hx48, bs, sC_n _ _ (by decide : (506 : Nat) ≠ 509), H.di x hx]
  | succ f ih =>
    intro s m P h1 h2 hP
    obtain ⟨m, rfl⟩ : ∃ z, m = z + 1 := ⟨m - 1, by omega⟩
    rw [fX11_ways_51, if_pos (show I s < (48 : Int32) by rw [show (48 : Int32) = I 48 from rfl, I_lt (by omega) (by omega)]; omega), g_492_46 (H.gr.sC _ _), bs, show I s + (1 : Int32) = I (s + 1) from I_add s 1]
    by_cases e : s = x
    · rw [if_pos (by rw [e]), st_509 (by omega), bs, sC_s, sC_C]
      refine ih (s + 1) m _ (by omega) (by omega) (fun y hy => ?_)
      by_cases q : y = s
      · rw [q, up_s, if_pos e]; rfl
      · rw [up_n _ _ q]; exact hP y (by omega)
    · rw [if_neg (fun z => e ((I_inj (by omega) (by omega)).mp z)), st_509 (by omega), bs, sC_s, sC_C]
      refine ih (s + 1) m _ (by omega) (by omega) (fun y hy => ?_)
      by_cases q : y = s
      · rw [q, up_s, if_neg e]; rfl
      · rw [up_n _ _ q]; exact hP y (by omega)
theorem r_ways (hI : INV C G Fd pc k r μ) (a b : Int32) : RQ (fX11_ways 492 a b μ) μ (codeXX C a b true) (valXX C a b (fun x y => waysV C r x y)) := by
  have hC := hI.2.1
  have hs := hI.2.2.2.2.2.2.2.2.1.1.1
  obtain ⟨t1, t2, t3, t4⟩ := thr0 μ
  have hR0 := t1.rc hI.2.2.2.2.2.2.1
  unfold fX11_ways codeXX valXX
  rw [bs, sI_C, placeOf_ok hR0 t2, bs]
  cases hp : plc C a with
  | none =>
    simp only [if_true]
    exact RQ.no (by decide) t1 t3 t4
  | some x =>
    have hx := plc_there hC hp
    have hx48 := there_lt hC hx
    simp only
    rw [if_neg (I_m1 (by omega)), placeOf_ok hR0 t2, bs]
    cases hq : plc C b with
    | none =>
      simp only [if_true]
      exact RQ.no (by decide) t1 t3 t4
    | some to =>
      have hto := plc_there hC hq
      have hto48 := there_lt hC hto
      simp only
      rw [if_neg (I_m1 (by omega))]
      obtain ⟨F, Q, e, f1, f2, f3⟩ := howFar_ok hI t1 t3 hx hto
      rw [e, bs]
      simp only [if_true]
      unfold waysV
      rcases dR_le hI hto x with q | q
      · rw [if_pos (show I (dR C r to x) < (9999 : Int32) by rw [I_ltl (by omega) (by decide)]; omega), if_neg (show ¬ dR C r to x = 9999 by omega)]
        have hF : ∀ P, FR μ (sC (mFQ (thr μ 0) F Q) 509 P) := fun P => (t1.trans f1).trans (FR.c P (by decide) (by decide) (by decide))
        have he := hI.e79 (t1.trans f1)
        have hrw : ∀ P, rwb (sC (mFQ (thr μ 0) F Q) 509 P) 0 = rwb (mFQ (thr μ 0) F Q) 0 := fun P => by unfold rwb; rw [sC_n _ _ (by decide)]
        have hsR : StOK C (rwb (mFQ (thr μ 0) F Q) 0) := StOK_congr (fun k _ hk => (he k (by omega)).symm) hs
        have H : WR C r (rwb (mFQ (thr μ 0) F Q) 0) to (mFQ (thr μ 0) F Q) := by
          refine ⟨((t1.trans f1).rc hI.2.2.2.2.2.2.1).1, fun s hss y => ?_, fun P s w hss hw => ?_, fun P y hy => ?_, fun y hy => ?_, dR_le hI hto⟩
          · rw [← adj_congr (C := C) (fun k _ hk => he k (by omega))]
            exact nbr_adj hC hsR hss
          · have := beside_ok ((hF P).rc hI.2.2.2.2.2.2.1) (b := 0) (by omega) hss hw
            rw [hrw P] at this
            exact this
          · have := white_ok (μ := sC (mFQ (thr μ 0) F Q) 509 P) ((hF P).rc hI.2.2.2.2.2.2.1).1 (b := 0) (x := y) (by omega) (there_lt hC hy)
            rw [hrw P] at this
            refine Eq.trans this ?_
            have hy48 := there_lt hC hy
            have : (rwb (mFQ (thr μ 0) F Q) 0 (1 + y) = 0) = (wh C r y = true) := by
              rw [he (1 + y) (by omega)]
              exact propext ⟨fun z => wh_iff.mpr ⟨hy, z⟩, fun z => (wh_iff.mp z).2⟩
            simp only [this]
          · exact f3 y hy
        have hN : sC (mFQ (thr μ 0) F Q) 509 ((mFQ (thr μ 0) F Q).2.1 509) = mFQ (thr μ 0) F Q := sC_same _ _
        obtain ⟨P1, u1, u2⟩ := v51 H hx hx48 48 0 fuel ((mFQ (thr μ 0) F Q).2.1 509) (by omega) (by unfold fuel; omega) (fun y hy => absurd hy (Nat.not_lt_zero y))
        rw [hN] at u1
        obtain ⟨P2, v1⟩ := v90 hC hs hx hto H q (dR C r to x) 0 fuel P1 (by omega) (by unfold fuel; omega) u2
        rw [show fX11_ways_51 fuel 492 (I x) (I to) (0 : Int32) (mFQ (thr μ 0) F Q) = _ from u1, v1]
        exact RQ.fr t1 t2 t3 t4 (f1.trans (FR.c P2 (by decide) (by decide) (by decide))) (by rw [sC_n _ _ (by decide), f2])
      · rw [if_pos q, q, if_neg (by decide)]
        exact RQ.fr t1 t2 t3 t4 f1 f2
theorem qq_ways (hI : INV C G Fd pc k r μ) (a b : Int32) : QQ C G Fd pc k r (fun μ => fL_ways 0 a b 518 μ) (fun ν => fX11_ways 492 a b ν) μ := q_ways hI a b (c_ways hI a b) (codeXX_ne a b true) (fun ν hν => r_ways hν a b)
end Rw
