/-! EXPRESSIONS: nots, tests, and, or -/
section Ex
variable {B : Nat → Nat} {n k0 fi la : Nat} {ν0 : Mem} {a vs : Nat} {μ0 μ : Mem} {nv : Nat} {vm : Nat → Nat} {wf : Nat → Int32} {k : Nat} {L : List Itm} {rec : Nat → Int32 → Mem → Option Mem}
theorem nots_add (hr : RLa a) (hn : n ≤ 700) {c : Nat} (hc : c ≤ 6) : ∀ f d L μ m, d + f = c → f < m → CX B n a vs μ0 k L μ → L.length + f ≤ k → ∃ μ', fX6_readNot_113 rec m 31 (I c) (I d) μ = some μ' ∧ CX B n a vs μ0 k (L ++ List.replicate f (itm 3)) μ' := by
  intro f
  induction f with
  | zero =>
    intro d L μ m h1 h2 hC h3
    obtain ⟨m, rfl⟩ : ∃ q, m = q + 1 := ⟨m - 1, by omega⟩
    refine ⟨μ, ?_, by rw [List.replicate_zero, List.append_nil]; exact hC⟩
    rw [fX6_readNot_113, if_neg (by rw [I_lt (by omega) (by omega)]; omega)]
  | succ f ih =>
    intro d L μ m h1 h2 hC h3
    obtain ⟨m, rfl⟩ : ∃ q, m = q + 1 := ⟨m - 1, by omega⟩
    obtain ⟨μ1, e1, C1⟩ := hC.add hr hn (itm 3) (by omega) (x := -10) rfl
    obtain ⟨μ2, e2, C2⟩ := ih (d + 1) (L ++ [itm 3]) μ1 m (by omega) (by omega) C1 (by rw [List.length_append]; show L.length + 1 + f ≤ k; omega)
    refine ⟨μ2, ?_, by rw [List.append_assoc] at C2; exact C2⟩
    rw [fX6_readNot_113, if_pos (by rw [I_lt (by omega) (by omega)]; omega), hC.1.2.2.2.1, bs, e1, bs, I_addl]
    exact e2
theorem nots_f (hr : RLa a) {c : Nat} (hc : c ≤ 6) {w : Int32} {p : Nat} : ∀ f d μ m, d + f = c → f < m → CFt B n a vs μ0 w p μ → ∃ μ', fX6_readNot_113 rec m 31 (I c) (I d) μ = some μ' ∧ CFt B n a vs μ0 w p μ' := by
  intro f
  induction f with
  | zero =>
    intro d μ m h1 h2 hC
    obtain ⟨m, rfl⟩ : ∃ q, m = q + 1 := ⟨m - 1, by omega⟩
    refine ⟨μ, ?_, hC⟩
    rw [fX6_readNot_113, if_neg (by rw [I_lt (by omega) (by omega)]; omega)]
  | succ f ih =>
    intro d μ m h1 h2 hC
    obtain ⟨m, rfl⟩ : ∃ q, m = q + 1 := ⟨m - 1, by omega⟩
    obtain ⟨μ1, e1, C1⟩ := hC.add hr (-10)
    obtain ⟨μ2, e2, C2⟩ := ih (d + 1) μ1 m (by omega) (by omega) C1
    refine ⟨μ2, ?_, C2⟩
    rw [fX6_readNot_113, if_pos (by rw [I_lt (by omega) (by omega)]; omega), hC.r, bs, e1, bs, I_addl]
    exact e2
theorem Hok_nots : ∀ f h, 1 ≤ h → Hok (List.replicate f (itm 3)) h h := by
  intro f
  induction f with
  | zero => intro h _; rfl
  | succ f ih => intro h h1; exact ⟨h1, ih h h1⟩
theorem fl_nots (vm : Nat → Nat) : ∀ f, fl vm (List.replicate f (itm 3)) = (List.replicate f 3).map I := by
  intro f
  induction f with
  | zero => rfl
  | succ f ih =>
    rw [List.replicate_succ, List.replicate_succ, List.map_cons, show fl vm (itm 3 :: List.replicate f (itm 3)) = fl vm [itm 3] ++ fl vm (List.replicate f (itm 3)) from by rw [← fl_app]; rfl, fl_one, ih]
    rfl
theorem b_nots {s c : Nat} (h3 : 3 < s) {base : List Nat} (hb : bcond 3 base) : bcond s (List.replicate c 3 ++ base) := by
  intro x l q
  cases c with
  | zero =>
    rw [List.replicate_zero, List.nil_append] at q
    rcases hb x l q with r | r
    · exact Or.inl r
    · exact Or.inr ⟨r.1, by omega⟩
  | succ c =>
    rw [List.replicate_succ, List.cons_append] at q
    injection q with q1 q2
    rw [← q1]
    exact Or.inr ⟨by decide, by show 3 < s; exact h3⟩
theorem p_nots {c : Nat} {p : List Nat} (hp : pcond 3 p) : pcond 3 (p ++ List.replicate c 3) := by
  intro x hx
  rcases List.mem_append.mp hx with h | h
  · exact hp x h
  · rw [(List.mem_replicate.mp h).2]; decide
theorem iok_nots {f : Nat} : ∀ t ∈ List.replicate f (itm 3), iok nv t := by
  intro t ht
  rw [(List.mem_replicate.mp ht).2]
  exact iok_itm nv (by decide) (by decide)
def N3 (B : Nat → Nat) (n d j : Nat) (ts : Nat → Bool) : Prop := (opA B n j = none ∧ opM B n j = none ∧ True) ∧ (sg B n j 60 = true ∨ sg B n j 61 = true → ts d = true)
theorem not_cmp (hn : n ≤ 700) (hB : ∀ i, i < n → B i < 256) (hr : RLa a) (hV : VOK B n vs fi la nv vm wf) {w : Nat} (hw : w < 6) (hrec : HRc B n fi la a vs μ0 nv vm (w + 1) rec) {i c j : Nat} {Y : List Itm} {ST : Nat → Mem → Option Mem → List Int32 → List Nat → (Nat → Bool) → Prop} (hc : c ≤ 6) (hL : L.length ≤ i) (hj : i + c < j) (hC : CX B n a vs μ0 j (L ++ Y) μ) (y3 : Y.length ≤ j - (i + c)) (y4 : ∀ t ∈ Y, iok nv t) (y5 : Hgt (hbp w + 1 + 1) Y)
    (y6 : ∀ k0 ν0 A xs base ts, bcond 3 base → ST k0 ν0 A xs base ts → ∃ xs' p ts', AtL B n k0 fi la ν0 A j xs' (p ++ (List.replicate c 3 ++ base)) (w + 1) ts' ∧ xs' ++ p.map I = xs ++ fl vm Y ∧ pcond 5 p ∧ (∀ d, d < w + 2 → ts' d = ts d) ∧ ts' (w + 1) = false)
    {ac : Nat} (hac : ac = 6 ∨ ac = 7) (hS : tkS B n (Pq B n j) ≠ 0)
    (hl : ∀ k0 ν0 A xs p base ts, AtL B n k0 fi la ν0 A j xs (p ++ base) (w + 1) ts → ts (w + 1) = false → pcond 4 p → bcond 4 base → AtP B n k0 fi la ν0 A (j + 1) (xs ++ p.map I) (ac :: base) (w + 1) (up ts (w + 1) true) 0) :
    OUT B n fi la a vs μ0 nv vm 3 (hbp w + 1 + 1 + 1) (w + 1) (w + 1) i L ST (N3 B n (w + 1)) ((fX6_advance 31 μ).bind fun μ6 => (fX6_readSum rec 31 (I w) μ6).bind fun μ10 => (gR μ10 31 9 17).bind fun a13 => (fX7_add a13 (ecl (itm ac)) μ10).bind fun μ17 => fX6_readNot_113 rec fuel 31 (I c) (0 : Int32) μ17) := by
  obtain ⟨μ6, e6, C6⟩ := hC.adv hn hB hr hS
  rw [e6, bs]
  obtain ⟨μ10, e10, O⟩ := sum_ok hn hB hr hV hw hrec C6 (c := 0) (by decide) (mn := 0) (Or.inl rfl)
  rw [e10, bs]
  have st2 : stg ac = 4 := by rcases hac with rfl | rfl <;> rfl
  have hb2 : ∀ base, bcond 5 (ac :: base) := by
    intro base x l q
    injection q with q1 q2
    rw [← q1]
    exact Or.inr ⟨by omega, by omega⟩
  have go : ∀ k0 ν0 A xs base ts, bcond 3 base → ST k0 ν0 A xs base ts → ∃ (xs' : List Int32) (p : List Nat) (ts' : Nat → Bool), AtN B n k0 fi la ν0 A (j + 1) (xs' ++ p.map I) (ac :: (List.replicate c 3 ++ base)) (w + 1) (up ts' (w + 1) true) 0 0 ∧ xs' ++ p.map I = xs ++ fl vm Y ∧ ∀ d, d < w + 2 → ts' d = ts d := by
    intro k0 ν0 A xs base ts b1 b2
    obtain ⟨xs', p, ts', q1, q2, q3, q4, q5⟩ := y6 k0 ν0 A xs base ts b1 b2
    exact ⟨xs', p, ts', p_n (hl k0 ν0 A xs' p _ ts' q1 q5 (fun x hx => ⟨(q3 x hx).1, by have := (q3 x hx).2; omega⟩) (b_nots (by decide) b1)), q2, q4⟩
  rcases O with ⟨j2, Z, z1, z2, z3, z4, z5, z6⟩ | ⟨w', pp, z1, z2⟩
  · obtain ⟨μ17, e17, C17⟩ := z2.add hr hn (itm ac) (by rw [List.length_append, List.length_append]; omega) rfl
    obtain ⟨μ', e', C'⟩ := nots_add (rec := rec) hr hn hc c 0 (L ++ Y ++ Z ++ [itm ac]) μ17 fuel (by omega) (by unfold fuel; omega) C17 (by simp only [List.length_append, List.length_cons, List.length_nil]; omega)
    rw [z2.1.2.2.2.1, bs, e17, bs, show fX6_readNot_113 rec fuel 31 (I c) (0 : Int32) μ17 = _ from e']
    refine ⟨μ', rfl, Or.inl ⟨j2, Y ++ Z ++ [itm ac] ++ List.replicate c (itm 3), by omega, ?_, ?_, ?_, ?_, ?_⟩⟩
    · have : L ++ Y ++ Z ++ [itm ac] ++ List.replicate c (itm 3) = L ++ (Y ++ Z ++ [itm ac] ++ List.replicate c (itm 3)) := by simp
      rw [← this]
      exact C'
    · simp only [List.length_append, List.length_cons, List.length_nil, List.length_replicate]; omega
    · intro t ht
      rcases List.mem_append.mp ht with ht | ht
      · rcases List.mem_append.mp ht with ht | ht
        · rcases List.mem_append.mp ht with ht | ht
          · exact y4 t ht
          · exact z4 t ht
        · rw [List.mem_singleton.mp ht]; exact iok_itm nv (by omega) (by omega)
      · exact iok_nots t ht
    · intro h hh
      exact Hok_app _ _ _ (h + 1) _ (Hok_app _ _ _ (h + 2) _ (Hok_app _ _ _ (h + 1) _ (y5 h (by omega)) (z5 (h + 1) (by omega))) (Hok_bin (by omega) (by omega) h)) (Hok_nots c (h + 1) (by omega))
    · intro k0 ν0 A xs base ts b1 b2
      obtain ⟨xs', p, ts', q1, q2, q3⟩ := go k0 ν0 A xs base ts b1 b2
      obtain ⟨xs3, p3, ts3, u1, u2, u3, u4, u5⟩ := z6 k0 ν0 A _ _ _ (hb2 _) q1
      refine ⟨xs3, p3 ++ ac :: List.replicate c 3, ts3, ?_, ?_, ?_, ?_, u5, fun _ => ?_⟩
      · have : p3 ++ ac :: List.replicate c 3 ++ base = p3 ++ ac :: (List.replicate c 3 ++ base) := by simp
        rw [this]; exact u1
      · rw [List.map_append, List.map_cons, show xs3 ++ (p3.map I ++ I ac :: (List.replicate c 3).map I) = (xs3 ++ p3.map I) ++ [I ac] ++ (List.replicate c 3).map I by simp, u2, q2, fl_app, fl_app, fl_app, fl_one, cl_itm vm (by omega) (by omega), fl_nots]
        simp
      · intro x hx
        rcases List.mem_append.mp hx with hx | hx
        · have := u3 x hx; exact ⟨this.1, by omega⟩
        · rcases List.mem_cons.mp hx with hx | hx
          · rw [hx]; exact ⟨by omega, by omega⟩
          · rw [(List.mem_replicate.mp hx).2]; decide
      · intro d hd
        rw [u4 d (by omega), up_n _ _ (by omega), q3 d (by omega)]
      · rw [u4 (w + 1) (by omega), up_s]
  · obtain ⟨μ17, e17, C17⟩ := z1.add hr (ecl (itm ac))
    obtain ⟨μ', e', C'⟩ := nots_f (rec := rec) hr hc c 0 μ17 fuel (by omega) (by unfold fuel; omega) C17
    rw [z1.r, bs, e17, bs, show fX6_readNot_113 rec fuel 31 (I c) (0 : Int32) μ17 = _ from e']
    refine ⟨μ', rfl, Or.inr ⟨w', pp, C', ?_⟩⟩
    intro k0 ν0 A xs base ts b1 b2
    obtain ⟨xs', p, ts', q1, q2, q3⟩ := go k0 ν0 A xs base ts b1 b2
    exact z2 k0 ν0 A _ _ _ (hb2 _) q1
theorem not47 (hn : n ≤ 700) (hB : ∀ i, i < n → B i < 256) (hr : RLa a) (hV : VOK B n vs fi la nv vm wf) {w : Nat} (hw : w < 6) (hrec : HRc B n fi la a vs μ0 nv vm (w + 1) rec) {i c : Nat} {ST : Nat → Mem → Option Mem → List Int32 → List Nat → (Nat → Bool) → Prop} (hc : c ≤ 6) (hL : L.length ≤ i) (hC : CX B n a vs μ0 (i + c) L μ) (hmn : KW B n (Pq B n (i + c)) ≠ 16)
    (hI : ∀ k0 ν0 A xs base ts, bcond 3 base → ST k0 ν0 A xs base ts → AtN B n k0 fi la ν0 A (i + c) xs (List.replicate c 3 ++ base) (w + 1) ts c 1 ∧ ts (w + 1) = false) :
    OUT B n fi la a vs μ0 nv vm 3 (hbp w + 1 + 1 + 1) (w + 1) (w + 1) i L ST (N3 B n (w + 1)) (fX6_readNot_47 rec 31 (I w) (I c) μ) := by
  obtain ⟨μ2, e2, O⟩ := sum_ok hn hB hr hV hw hrec hC hc (mn := 1) (Or.inr hmn)
  unfold fX6_readNot_47
  rw [e2, bs]
  rcases O with ⟨j, Y, y1, y2, y3, y4, y5, y6⟩ | ⟨w', pp, z1, z2⟩
  · rw [if_pos y2.2.1]
    have y6' : ∀ k0 ν0 A xs base ts, bcond 3 base → ST k0 ν0 A xs base ts → ∃ xs' p ts', AtL B n k0 fi la ν0 A j xs' (p ++ (List.replicate c 3 ++ base)) (w + 1) ts' ∧ xs' ++ p.map I = xs ++ fl vm Y ∧ pcond 5 p ∧ (∀ d, d < w + 2 → ts' d = ts d) ∧ ts' (w + 1) = false := by
      intro k0 ν0 A xs base ts b1 b2
      obtain ⟨h1, h2⟩ := hI k0 ν0 A xs base ts b1 b2
      obtain ⟨xs', p, ts', q1, q2, q3, q4, q5⟩ := y6 k0 ν0 A xs _ ts (b_nots (by decide) b1) h1
      exact ⟨xs', p, ts', q1, q2, q3, q4, by rw [q4 (w + 1) (by omega)]; exact h2⟩
    by_cases c60 : sg B n j 60 = true
    · have k1 : μ2.2.1 31 6 = (60 : Int32) := (ksg hB y2.1.2.2.1 (c := 60) (by decide)).mpr c60
      rw [if_pos k1, if_pos k1]
      exact not_cmp hn hB hr hV hw hrec hc hL y1 y2 y3 y4 y5 y6' (ac := 6) (Or.inl rfl) (by rw [(sg_iff.mp c60).1]; decide) (fun k0 ν0 A xs p base ts h1 h2 h3 h4 => l_less hn hB h1 c60 h2 h3 h4)
    · have k1 : ¬ μ2.2.1 31 6 = (60 : Int32) := fun q => c60 ((ksg hB y2.1.2.2.1 (c := 60) (by decide)).mp q)
      rw [if_neg k1]
      by_cases c61 : sg B n j 61 = true
      · have k2 : μ2.2.1 31 6 = (61 : Int32) := (ksg hB y2.1.2.2.1 (c := 61) (by decide)).mpr c61
        rw [if_pos k2, if_neg k1]
        exact not_cmp hn hB hr hV hw hrec hc hL y1 y2 y3 y4 y5 y6' (ac := 7) (Or.inr rfl) (by rw [(sg_iff.mp c61).1]; decide) (fun k0 ν0 A xs p base ts h1 h2 h3 h4 => l_same hn hB h1 c61 h2 h3 h4)
      · rw [if_neg (show ¬ μ2.2.1 31 6 = (61 : Int32) from fun q => c61 ((ksg hB y2.1.2.2.1 (c := 61) (by decide)).mp q))]
        obtain ⟨μ', e', C'⟩ := nots_add (rec := rec) hr hn hc c 0 (L ++ Y) μ2 fuel (by omega) (by unfold fuel; omega) y2 (by rw [List.length_append]; omega)
        rw [show fX6_readNot_113 rec fuel 31 (I c) (0 : Int32) μ2 = _ from e']
        refine ⟨μ', rfl, Or.inl ⟨j, Y ++ List.replicate c (itm 3), by omega, by rw [← List.append_assoc]; exact C', ?_, ?_, ?_, ?_⟩⟩
        · rw [List.length_append, List.length_replicate]; omega
        · intro t ht
          rcases List.mem_append.mp ht with ht | ht
          · exact y4 t ht
          · exact iok_nots t ht
        · intro h hh
          exact Hok_app _ _ _ (h + 1) _ (y5 h (by omega)) (Hok_nots c (h + 1) (by omega))
        · intro k0 ν0 A xs base ts b1 b2
          obtain ⟨h1, h2⟩ := hI k0 ν0 A xs base ts b1 b2
          obtain ⟨xs', p, ts', q1, q2, q3, q4, q5⟩ := y6 k0 ν0 A xs _ ts (b_nots (by decide) b1) h1
          refine ⟨xs', p ++ List.replicate c 3, ts', by rw [List.append_assoc]; exact q1, ?_, p_nots (fun x hx => ⟨(q3 x hx).1, by have := (q3 x hx).2; omega⟩), fun d hd => q4 d (by omega), q5, ?_⟩
          · rw [List.map_append, ← List.append_assoc, q2, fl_app, fl_nots, List.append_assoc]
          · rintro (z | z)
            · exact absurd z c60
            · exact absurd z c61
  · rw [if_neg z1.ne]
    obtain ⟨μ', e', C'⟩ := nots_f (rec := rec) hr hc c 0 μ2 fuel (by omega) (by unfold fuel; omega) z1
    rw [show fX6_readNot_113 rec fuel 31 (I c) (0 : Int32) μ2 = _ from e']
    refine ⟨μ', rfl, Or.inr ⟨w', pp, C', ?_⟩⟩
    intro k0 ν0 A xs base ts b1 b2
    exact z2 k0 ν0 A xs _ ts (b_nots (by decide) b1) (hI k0 ν0 A xs base ts b1 b2).1
theorem not2 (hn : n ≤ 700) (hB : ∀ i, i < n → B i < 256) (hr : RLa a) (hV : VOK B n vs fi la nv vm wf) {w : Nat} (hw : w < 6) (hrec : HRc B n fi la a vs μ0 nv vm (w + 1) rec) {i : Nat} {ST : Nat → Mem → Option Mem → List Int32 → List Nat → (Nat → Bool) → Prop} (hL : L.length ≤ i) : ∀ f c μ m, c + f = 6 → f < m → CX B n a vs μ0 (i + c) L μ →
    (∀ k0 ν0 A xs base ts, bcond 3 base → ST k0 ν0 A xs base ts → AtN B n k0 fi la ν0 A (i + c) xs (List.replicate c 3 ++ base) (w + 1) ts c 1 ∧ ts (w + 1) = false) →
    OUT B n fi la a vs μ0 nv vm 3 (hbp w + 1 + 1 + 1) (w + 1) (w + 1) i L ST (N3 B n (w + 1)) (fX6_readNot_2 rec m 31 (I w) (I c) μ) := by
  intro f
  induction f with
  | zero =>
    intro c μ m h1 h2 hC hI
    obtain ⟨m, rfl⟩ : ∃ q, m = q + 1 := ⟨m - 1, by omega⟩
    obtain rfl : c = 6 := by omega
    rw [fX6_readNot_2, if_neg (by decide), if_pos (show I 6 = (6 : Int32) from rfl), is_w_not hn hB hC.1.1 (Pq_le _) hC.1.2.2.1, bs]
    by_cases hk : KW B n (Pq B n (i + 6)) = 16
    · obtain ⟨μ1, e1, F1, _⟩ := hC.refuse hr hn (w := 2) (by decide)
      rw [if_pos hk, if_neg (by decide), e1, bs]
      have es : ∀ μ, CFt B n a vs μ0 2 (i + 6) μ → fX6_readSum rec 31 (I w) μ = some μ := by
        intro μ hF
        unfold fX6_readSum fX6_readProduct fX6_readPart
        rw [if_neg hF.ne, bs, show fuel = 4999 + 1 from rfl, fX6_readProduct_7, if_pos (by decide), if_neg hF.ne, bs, fX6_readSum_7, if_pos (by decide), if_neg hF.ne]
      unfold fX6_readNot_47
      rw [es μ1 F1, bs, if_neg F1.ne]
      obtain ⟨μ', e', C'⟩ := nots_f (rec := rec) hr (c := 6) (by decide) 6 0 μ1 fuel (by omega) (by unfold fuel; omega) F1
      rw [show fX6_readNot_113 rec fuel 31 (I 6) (0 : Int32) μ1 = _ from e']
      refine ⟨μ', rfl, Or.inr ⟨2, i + 6, C', ?_⟩⟩
      intro k0 ν0 A xs base ts b1 b2
      exact n_not6 hn (hI k0 ν0 A xs base ts b1 b2).1 hk
    · rw [if_neg hk, if_pos rfl]
      exact not47 hn hB hr hV hw hrec (by decide) hL hC hk hI
  | succ f ih =>
    intro c μ m h1 h2 hC hI
    obtain ⟨m, rfl⟩ : ∃ q, m = q + 1 := ⟨m - 1, by omega⟩
    rw [fX6_readNot_2, if_pos (by rw [I_ltl (by omega) (by decide)]; show c < 6; omega), is_w_not hn hB hC.1.1 (Pq_le _) hC.1.2.2.1, bs]
    by_cases hk : KW B n (Pq B n (i + c)) = 16
    · have hS : tkS B n (Pq B n (i + c)) ≠ 0 := by rw [KW_S (by omega)]; decide
      obtain ⟨μ1, e1, C1⟩ := hC.adv hn hB hr hS
      rw [if_pos hk, if_neg (by decide), e1, bs, I_addl]
      refine ih (c + 1) μ1 m (by omega) (by omega) C1 ?_
      intro k0 ν0 A xs base ts b1 b2
      obtain ⟨q1, q2⟩ := hI k0 ν0 A xs base ts b1 b2
      refine ⟨?_, q2⟩
      rw [List.replicate_succ]
      exact n_not hn hB (by omega) q1 hk
    · rw [if_neg hk, if_pos rfl, if_neg (show ¬ I c = (6 : Int32) from fun q => by have := (I_inj (m := 6) (by omega) (by omega)).mp q; omega)]
      exact not47 hn hB hr hV hw hrec (by omega) hL hC hk hI
theorem not_ok (hn : n ≤ 700) (hB : ∀ i, i < n → B i < 256) (hr : RLa a) (hV : VOK B n vs fi la nv vm wf) {w : Nat} (hw : w < 6) (hrec : HRc B n fi la a vs μ0 nv vm (w + 1) rec) {i : Nat} (hC : CX B n a vs μ0 i L μ) :
    OUT B n fi la a vs μ0 nv vm 3 (hbp w + 1 + 1 + 1) (w + 1) (w + 1) i L (fun k0 ν0 A xs base ts => AtP B n k0 fi la ν0 A i xs base (w + 1) ts 1 ∧ ts (w + 1) = false) (N3 B n (w + 1)) (fX6_readNot rec 31 (I w) μ) := by
  unfold fX6_readNot
  exact not2 hn hB hr hV hw hrec hC.2.2.2.2.1 6 0 μ fuel rfl (by unfold fuel; omega) hC (fun k0 ν0 A xs base ts _ h => ⟨p_n h.1, h.2⟩)
def opN (B : Nat → Nat) (n k : Nat) : Option Nat := if KW B n (Pq B n k) = 14 then some 4 else none
def opO (B : Nat → Nat) (n k : Nat) : Option Nat := if KW B n (Pq B n k) = 15 then some 5 else none
theorem opN_c {k ac : Nat} (h : opN B n k = some ac) : KW B n (Pq B n k) = 14 ∧ ac = 4 := by
  unfold opN at h
  split at h
  · rename_i e; exact ⟨e, (Option.some.inj h).symm⟩
  · cases h
theorem opN_n {k : Nat} (h : opN B n k = none) : KW B n (Pq B n k) ≠ 14 := by
  unfold opN at h
  split at h
  · cases h
  · rename_i e; exact e
theorem opO_c {k ac : Nat} (h : opO B n k = some ac) : KW B n (Pq B n k) = 15 ∧ ac = 5 := by
  unfold opO at h
  split at h
  · rename_i e; exact ⟨e, (Option.some.inj h).symm⟩
  · cases h
theorem opO_n {k : Nat} (h : opO B n k = none) : KW B n (Pq B n k) ≠ 15 := by
  unfold opO at h
  split at h
  · cases h
  · rename_i e; exact e
theorem and_ok (hn : n ≤ 700) (hB : ∀ i, i < n → B i < 256) (hr : RLa a) (hV : VOK B n vs fi la nv vm wf) {w : Nat} (hw : w < 6) (hrec : HRc B n fi la a vs μ0 nv vm (w + 1) rec) {i : Nat} (hC : CX B n a vs μ0 i L μ) :
    OUT B n fi la a vs μ0 nv vm 2 (hbp w + 1 + 1 + 1 + 1) (w + 1) (w + 1) i L (fun k0 ν0 A xs base ts => AtP B n k0 fi la ν0 A i xs base (w + 1) ts 1 ∧ ts (w + 1) = false) (fun j ts => opN B n j = none ∧ N3 B n (w + 1) j ts) (fX6_readAnd rec 31 (I w) μ) := by
  unfold fX6_readAnd
  refine chain0 hn hB hr (sF := 3) (STF := fun i k0 ν0 A xs base ts => AtP B n k0 fi la ν0 A i xs base (w + 1) ts 1 ∧ ts (w + 1) = false) (opN B n) (fun μ => fX6_readNot rec 31 (I w) μ) (fun m c μ => fX6_readAnd_7 rec m 31 (I w) c μ) (by decide) hC.2.2.2.2.1 ?_ ?_ ?_ ?_ ?_ ?_ (not_ok hn hB hr hV hw hrec hC)
  · intro k ac h
    obtain ⟨e, rfl⟩ := opN_c h
    exact ⟨by decide, by decide, by decide, by rw [KW_S (by omega)]; decide⟩
  · intro i L μ hC
    exact not_ok hn hB hr hV hw hrec hC
  · intro k0 ν0 A k xs p base ts ac h h1 h2 h3
    obtain ⟨e, rfl⟩ := opN_c h
    exact ⟨up ts (w + 1) false, ⟨l_and hn hB h1 e h2 h3, up_s _ _ _⟩, fun d hd => up_n _ _ (by omega)⟩
  · intro m c k L μ hc hC h
    show fX6_readAnd_7 rec (m + 1) 31 (I w) (I c) μ = _
    rw [fX6_readAnd_7, if_pos (by rw [I_ltl (by omega) (by decide)]; exact hc), if_pos hC.2.1, is_w_and hn hB hC.1.1 (Pq_le _) hC.1.2.2.1, bs, if_neg (opN_n h), if_pos rfl]
  · intro m c k L μ ac hc hC h
    obtain ⟨e, rfl⟩ := opN_c h
    show fX6_readAnd_7 rec (m + 1) 31 (I w) (I c) μ = _
    rw [fX6_readAnd_7, if_pos (by rw [I_ltl (by omega) (by decide)]; exact hc), if_pos hC.2.1, is_w_and hn hB hC.1.1 (Pq_le _) hC.1.2.2.1, bs, if_pos e, if_neg (by decide), I_addl]
    rfl
  · intro m c w' p μ hc hF
    show fX6_readAnd_7 rec (m + 1) 31 (I w) (I c) μ = _
    rw [fX6_readAnd_7, if_neg hF.ne]
    split <;> rfl
theorem expr_ok (hn : n ≤ 700) (hB : ∀ i, i < n → B i < 256) (hr : RLa a) (hV : VOK B n vs fi la nv vm wf) {w : Nat} (hw : w < 6) (hrec : HRc B n fi la a vs μ0 nv vm (w + 1) rec) {i : Nat} (hC : CX B n a vs μ0 i L μ) :
    OUT B n fi la a vs μ0 nv vm 1 (hbp w + 5) (w + 1) (w + 1) i L (fun k0 ν0 A xs base ts => AtP B n k0 fi la ν0 A i xs base (w + 1) ts 1 ∧ ts (w + 1) = false) (fun j ts => NX B n j (ts (w + 1))) (fX6_readExpr rec 31 (I w) μ) := by
  unfold fX6_readExpr
  rw [if_pos (by rw [I_ltl (by omega) (by decide)]; exact hw)]
  have key := chain0 (fi := fi) (la := la) (nv := nv) (vm := vm) hn hB hr (sF := 2) (STF := fun i k0 ν0 A xs base ts => AtP B n k0 fi la ν0 A i xs base (w + 1) ts 1 ∧ ts (w + 1) = false) (opO B n) (fun μ => fX6_readAnd rec 31 (I w) μ) (fun m c μ => fX6_readExpr_62 rec m 31 (I w) c μ) (s := 1) (by decide) hC.2.2.2.2.1 ?_ (fun i L μ hC => and_ok hn hB hr hV hw hrec hC) ?_ ?_ ?_ ?_ (and_ok hn hB hr hV hw hrec hC)
  · refine OUT.mono key ?_ (fun _ _ _ _ _ _ h => h)
    rintro j ts ⟨h1, h2, ⟨h3, h4, _⟩, h5⟩
    exact ⟨opN_n h2, opO_n h1, h5, (opA_n h3).1, (opA_n h3).2, (opM_n h4).1, (opM_n h4).2⟩
  · intro k ac h
    obtain ⟨e, rfl⟩ := opO_c h
    exact ⟨by decide, by decide, by decide, by rw [KW_S (by omega)]; decide⟩
  · intro k0 ν0 A k xs p base ts ac h h1 h2 h3
    obtain ⟨e, rfl⟩ := opO_c h
    exact ⟨up ts (w + 1) false, ⟨l_or hn hB h1 e h2 h3, up_s _ _ _⟩, fun d hd => up_n _ _ (by omega)⟩
  · intro m c k L μ hc hC h
    show fX6_readExpr_62 rec (m + 1) 31 (I w) (I c) μ = _
    rw [fX6_readExpr_62, if_pos (by rw [I_ltl (by omega) (by decide)]; exact hc), if_pos hC.2.1, is_w_or hn hB hC.1.1 (Pq_le _) hC.1.2.2.1, bs, if_neg (opO_n h), if_pos rfl]
  · intro m c k L μ ac hc hC h
    obtain ⟨e, rfl⟩ := opO_c h
    show fX6_readExpr_62 rec (m + 1) 31 (I w) (I c) μ = _
    rw [fX6_readExpr_62, if_pos (by rw [I_ltl (by omega) (by decide)]; exact hc), if_pos hC.2.1, is_w_or hn hB hC.1.1 (Pq_le _) hC.1.2.2.1, bs, if_pos e, if_neg (by decide), I_addl]
    rfl
  · intro m c w' p μ hc hF
    show fX6_readExpr_62 rec (m + 1) 31 (I w) (I c) μ = _
    rw [fX6_readExpr_62, if_neg hF.ne]
    split <;> rfl
theorem expr6 (hn : n ≤ 700) (hB : ∀ i, i < n → B i < 256) (hr : RLa a) {i : Nat} (hC : CX B n a vs μ0 i L μ) : ∃ μ', fX6_readExpr rec 31 (I 6) μ = some μ' ∧ CFt B n a vs μ0 (if tkS B n (Pq B n i) = 2 ∨ tkS B n (Pq B n i) = 1 ∨ sg B n i 40 = true then 2 else 1) i μ' := by
  obtain ⟨μ', e, F, _⟩ := hC.refuse hr hn (w := if tkS B n (Pq B n i) = 2 ∨ tkS B n (Pq B n i) = 1 ∨ sg B n i 40 = true then 2 else 1) (by split <;> decide)
  refine ⟨μ', ?_, F⟩
  have hb := hC.1.2.2.1
  unfold fX6_readExpr
  rw [if_neg (by decide)]
  by_cases s2 : tkS B n (Pq B n i) = 2
  · rw [if_pos (Or.inl s2)] at e
    rw [if_pos ((k257 hB hb).mpr s2), if_neg (by decide), e, bs]
  · rw [if_neg (fun q => s2 ((k257 hB hb).mp q))]
    by_cases s1 : tkS B n (Pq B n i) = 1
    · rw [if_pos (Or.inr (Or.inl s1))] at e
      rw [if_pos ((kind256 hn hB hb).mpr s1), if_neg (by decide), e, bs]
    · rw [if_neg (fun q => s1 ((kind256 hn hB hb).mp q))]
      by_cases s3 : sg B n i 40 = true
      · rw [if_pos (Or.inr (Or.inr s3))] at e
        rw [if_pos (show μ.2.1 31 6 = (40 : Int32) from (ksg hB hb (c := 40) (by decide)).mpr s3), if_neg (by decide), e, bs]
      · rw [if_neg (by rintro (q | q | q); exact s2 q; exact s1 q; exact s3 q)] at e
        rw [if_neg (show ¬ μ.2.1 31 6 = (40 : Int32) from fun q => s3 ((ksg hB hb (c := 40) (by decide)).mp q)), if_pos rfl, e, bs]
/-- all levels -/
theorem rx_ok (hn : n ≤ 700) (hB : ∀ i, i < n → B i < 256) (hr : RLa a) (hV : VOK B n vs fi la nv vm wf) : ∀ d w m, d + w = 6 → d < m → HRc B n fi la a vs μ0 nv vm w (rxN m) := by
  intro d
  induction d with
  | zero =>
    intro w m h1 h2 i L μ hC
    obtain ⟨m, rfl⟩ : ∃ q, m = q + 1 := ⟨m - 1, by omega⟩
    exact ⟨fun q => by omega, fun _ => expr6 hn hB hr hC⟩
  | succ d ih =>
    intro w m h1 h2 i L μ hC
    obtain ⟨m, rfl⟩ : ∃ q, m = q + 1 := ⟨m - 1, by omega⟩
    exact ⟨fun q => expr_ok hn hB hr hV q (ih (w + 1) m (by omega) (by omega)) hC, fun q => by omega⟩
end Ex
