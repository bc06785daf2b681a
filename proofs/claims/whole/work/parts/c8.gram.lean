/-! EXPRESSIONS: the grammar -/
section Gm
variable {B : Nat → Nat} {n k0 fi la : Nat} {ν0 : Mem} {a vs : Nat} {μ0 μ : Mem} {nv : Nat} {vm : Nat → Nat} {wf : Nat → Int32} {k : Nat} {L : List Itm}
def VOK (B : Nat → Nat) (n vs fi la nv : Nat) (vm : Nat → Nat) (wf : Nat → Int32) : Prop := (∀ k μ, TX B n μ → CTg B n (Pq B n k) (μ.2.1 31) → fX6_wordOf 31 vs μ = some (wf (KW B n (Pq B n k)))) ∧ (∀ v, fi ≤ v → v ≤ la → ∃ idx, idx < nv ∧ wf v = I idx ∧ vm idx = v) ∧ (∀ v, ¬ (fi ≤ v ∧ v ≤ la) → wf v = -1) ∧ fi ≤ 16 ∧ la ≤ 16 ∧ nv ≤ 6
theorem OUT.mono {s hb tb dep i : Nat} {ST ST' : Nat → Mem → Option Mem → List Int32 → List Nat → (Nat → Bool) → Prop} {NT NT' : Nat → (Nat → Bool) → Prop} {x : Option Mem} (h : OUT B n fi la a vs μ0 nv vm s hb tb dep i L ST NT x) (h1 : ∀ j ts, NT j ts → NT' j ts) (h2 : ∀ k0 ν0 A xs base ts, ST' k0 ν0 A xs base ts → ST k0 ν0 A xs base ts) : OUT B n fi la a vs μ0 nv vm s hb tb dep i L ST' NT' x := by
  obtain ⟨μ', e, O⟩ := h
  refine ⟨μ', e, ?_⟩
  rcases O with ⟨j, X, y1, y2, y3, y4, y5, y6⟩ | ⟨w, pp, z1, z2⟩
  · refine Or.inl ⟨j, X, y1, y2, y3, y4, y5, ?_⟩
    intro k0 ν0 A xs base ts b1 b2
    obtain ⟨xs', p, ts', q1, q2, q3, q4, q5⟩ := y6 k0 ν0 A xs base ts b1 (h2 k0 ν0 A xs base ts b2)
    exact ⟨xs', p, ts', q1, q2, q3, q4, h1 _ _ q5⟩
  · exact Or.inr ⟨w, pp, z1, fun k0 ν0 A xs base ts b1 b2 => z2 k0 ν0 A xs base ts b1 (h2 k0 ν0 A xs base ts b2)⟩
/-- an item is added, and the token passed -/
theorem CX.addv (hr : RLa a) (hn : n ≤ 700) (hB : ∀ i, i < n → B i < 256) (h : CX B n a vs μ0 k L μ) (hS : tkS B n (Pq B n k) ≠ 0) (t : Itm) {x : Int32} (hx : x = ecl t) : ∃ μ1 μ2, fX7_add a x μ = some μ1 ∧ μ1.2.1 31 0 = 0 ∧ fX6_advance 31 μ1 = some μ2 ∧ CX B n a vs μ0 (k + 1) (L ++ [t]) μ2 := by
  obtain ⟨hb, h0, h1, h2, h3, h4⟩ := h
  have hk := (S_k k hS).2
  have ha : a ≠ 31 ∧ a + 1 ≠ 31 ∧ a ≠ 1 ∧ a + 1 ≠ 1 ∧ a ≠ a + 1 := by rcases hr with q | q | q | q <;> omega
  obtain ⟨g1, g2⟩ := hr.g hb.2.1
  have hb1 : CB B n a vs μ0 k (sC (sC μ (a + 1) (up (μ.2.1 (a + 1)) L.length x)) a (up (μ.2.1 a) 1 (I (L.length + 1)))) := by
    refine ⟨?_, (hb.2.1.sC _ _).sC _ _, ?_, ?_, ?_, ?_⟩
    · exact ⟨by rw [gC, gC]; exact hb.1.1, fun i hi => by rw [sC_n _ _ (by omega), sC_n _ _ (by omega)]; exact hb.1.2 i hi⟩
    · rw [sC_n _ _ (by omega), sC_n _ _ (by omega)]; exact hb.2.2.1
    · rw [gC, gC]; exact hb.2.2.2.1
    · rw [gS_C, gS_C]; exact hb.2.2.2.2.1
    · exact (hb.2.2.2.2.2.c _ (Or.inr (Or.inr rfl)) (fun e => absurd e ha.2.1)).c _ (Or.inr (Or.inl rfl)) (fun e => absurd e ha.1)
  have h31 : (sC (sC μ (a + 1) (up (μ.2.1 (a + 1)) L.length x)) a (up (μ.2.1 a) 1 (I (L.length + 1)))).2.1 31 = μ.2.1 31 := by
    rw [sC_n _ _ (by omega), sC_n _ _ (by omega)]
  obtain ⟨g, e1, e2, e3⟩ := advance_ok hn hB hb1.1 (i := ip B n (k + 1)) (ip_le _) hb1.2.2.1.1 hb1.2.2.1.2.2.1
  refine ⟨_, _, ?_, ?_, e1, hb1.c31 hr e2 (fun _ => ⟨by rw [h31]; exact h0, e3 1 (by omega)⟩), ?_, ?_, ?_, ?_, by omega⟩
  · unfold fX7_add
    rw [g1, bs, g2, h1, if_pos (show I L.length < I 700 by rw [I_lt (by omega) (by omega)]; omega), bs, stI_I g2 (by omega) (by omega), bs, bs, sI_C, sC_n _ _ ha.2.2.2.2, h1, I_addl]
  · rw [h31]; exact h0
  · rw [sC_s, e3 0 (by omega), h31]; exact h0
  · rw [sC_n _ _ ha.1, sC_s, up_s, List.length_append]; rfl
  · rw [sC_n _ _ ha.2.1, sC_n _ _ (by omega), sC_s, List.map_append]
    have := AtC_snoc x h2
    rw [List.length_map, Nat.zero_add] at this
    rw [hx] at this ⊢
    exact this
  · rw [List.length_append]; show L.length + 1 ≤ k + 1; omega
def hbp (w : Nat) : Nat := 1 + 5 * (5 - w)
/-- what an expression within others does -/
def HRc (B : Nat → Nat) (n fi la : Nat) (a vs : Nat) (μ0 : Mem) (nv : Nat) (vm : Nat → Nat) (w : Nat) (rec : Nat → Int32 → Mem → Option Mem) : Prop := ∀ i L μ, CX B n a vs μ0 i L μ →
  (w < 6 → OUT B n fi la a vs μ0 nv vm 1 (hbp w + 5) (w + 1) (w + 1) i L (fun k0 ν0 A xs base ts => AtP B n k0 fi la ν0 A i xs base (w + 1) ts 1 ∧ ts (w + 1) = false) (fun j ts => NX B n j (ts (w + 1))) (rec 31 (I w) μ)) ∧
  (w = 6 → ∃ μ', rec 31 (I 6) μ = some μ' ∧ CFt B n a vs μ0 (if tkS B n (Pq B n i) = 2 ∨ tkS B n (Pq B n i) = 1 ∨ sg B n i 40 = true then 2 else 1) i μ')
theorem pass_f {w : Int32} {p : Nat} (h : CFt B n a vs μ0 w p μ) (x : Int32) : fX6_pass 31 x μ = some μ := by
  unfold fX6_pass
  rw [if_neg h.ne]
theorem Hgt_one {b : Nat} (hb : 1 ≤ b) {t : Itm} (ht : t.1 = 0 ∨ t.1 = 1) : Hgt b [t] := by
  intro h hh
  obtain ⟨t1, t2⟩ := t
  rcases ht with e | e
  · simp only at e
    subst e
    exact ⟨show h < 64 by omega, rfl⟩
  · simp only at e
    subst e
    exact ⟨show h < 64 by omega, rfl⟩
theorem part_ok (hn : n ≤ 700) (hB : ∀ i, i < n → B i < 256) (hr : RLa a) (hV : VOK B n vs fi la nv vm wf) {w : Nat} (hw : w < 6) {rec : Nat → Int32 → Mem → Option Mem} (hrec : HRc B n fi la a vs μ0 nv vm (w + 1) rec) {i : Nat} (hC : CX B n a vs μ0 i L μ) {c : Nat} (hc : c ≤ 6) {mn : Int32} (hmn : mn = 0 ∨ KW B n (Pq B n i) ≠ 16) :
    OUT B n fi la a vs μ0 nv vm 7 (hbp w) (w + 2) (w + 1) i L (fun k0 ν0 A xs base ts => AtN B n k0 fi la ν0 A i xs base (w + 1) ts c mn) (fun _ _ => True) (fX6_readPart rec 31 (I w) μ) := by
  have hb := hC.1
  have h0 := hC.2.1
  have hp7 : pcond 7 [] := fun x hx => by cases hx
  unfold fX6_readPart
  rw [if_pos h0]
  by_cases s1 : tkS B n (Pq B n i) = 1
  · have hS : tkS B n (Pq B n i) ≠ 0 := by omega
    have hns : ¬ sg B n i 40 = true := fun q => by have := (sg_iff.mp q).1; omega
    rw [if_pos ((kind256 hn hB hb.2.2.1).mpr s1), hb.2.2.2.2.1, bs, hV.1 i μ hb.1 hb.2.2.1, bs]
    unfold fX6_readValue
    by_cases hv : fi ≤ KW B n (Pq B n i) ∧ KW B n (Pq B n i) ≤ la
    · obtain ⟨idx, v1, v2, v3⟩ := hV.2.1 _ hv.1 hv.2
      have hnv := hV.2.2.2.2.2
      obtain ⟨μ1, μ2, e1, e0, e2, C2⟩ := hC.addv hr hn hB hS (1, idx) (x := -1 - I idx) rfl
      rw [v2, if_neg (I_m1 (by omega)), hb.2.2.2.1, bs]
      unfold fX7_addValue
      rw [e1, bs, bs, e2, bs, bs]
      refine ⟨μ2, rfl, Or.inl ⟨i + 1, [(1, idx)], by omega, C2, by show 1 ≤ i + 1 - i; omega, ?_, Hgt_one (by unfold hbp; omega) (Or.inr rfl), ?_⟩⟩
      · intro t ht
        rw [List.mem_singleton.mp ht]
        exact Or.inr (Or.inl ⟨rfl, v1⟩)
      · intro k0 ν0 A xs base ts b1 b2
        have q := (n_part hn hB hV.2.2.2.1 hV.2.2.2.2.1 hc hmn b2 hns).2.2.1 ⟨s1, hv⟩
        refine ⟨_, [], ts, q, ?_, hp7, fun _ _ => rfl, trivial⟩
        rw [fl_one]
        show _ ++ [] = xs ++ [2, I (vm idx)]
        rw [List.append_nil, v3]
    · obtain ⟨μ', e1, e2, e3⟩ := hC.refuse hr hn (w := 3) (by decide)
      rw [hV.2.2.1 _ hv, if_pos rfl, e1, bs, bs]
      refine ⟨μ', rfl, Or.inr ⟨3, i, e2, ?_⟩⟩
      intro k0 ν0 A xs base ts b1 b2
      exact (n_part hn hB hV.2.2.2.1 hV.2.2.2.2.1 hc hmn b2 hns).2.2.2.1 ⟨s1, hv⟩
  · rw [if_neg (fun q => s1 ((kind256 hn hB hb.2.2.1).mp q))]
    by_cases hp : sg B n i 40 = true
    · have hS : tkS B n (Pq B n i) ≠ 0 := by rw [(sg_iff.mp hp).1]; decide
      obtain ⟨μ1, e1, C1⟩ := hC.adv hn hB hr hS
      rw [if_pos (show μ.2.1 31 6 = (40 : Int32) from (ksg hB hb.2.2.1 (c := 40) (by decide)).mpr hp), e1, bs, I_addl, show w + OfNat.ofNat 1 = w + 1 from rfl]
      by_cases hw5 : w = 5
      · subst hw5
        obtain ⟨μ2, e2, F2⟩ := (hrec (i + 1) L μ1 C1).2 rfl
        rw [e2, bs, pass_f F2, bs]
        refine ⟨μ2, rfl, Or.inr ⟨_, i + 1, F2, ?_⟩⟩
        intro k0 ν0 A xs base ts b1 b2
        exact n_deep hn hB hc hmn b2 hp
      · obtain ⟨μ2, e2, O⟩ := (hrec (i + 1) L μ1 C1).1 (by omega)
        rw [e2, bs]
        have go : ∀ k0 ν0 A xs base ts, AtN B n k0 fi la ν0 A i xs base (w + 1) ts c mn → AtP B n k0 fi la ν0 A (i + 1) xs (14 :: base) (w + 1 + 1) (up ts (w + 1 + 1) false) 1 ∧ (up ts (w + 1 + 1) false) (w + 1 + 1) = false := fun k0 ν0 A xs base ts q => ⟨n_open hn hB hc hmn q hp (by omega), up_s _ _ _⟩
        have hb14 : ∀ base, bcond 1 (14 :: base) := fun base x l q => by injection q with q1 q2; exact Or.inl q1.symm
        rcases O with ⟨j, X, y1, y2, y3, y4, y5, y6⟩ | ⟨w', pp, z1, z2⟩
        · unfold fX6_pass
          rw [if_pos y2.2.1]
          by_cases hcl : sg B n j 41 = true
          · have hSj : tkS B n (Pq B n j) ≠ 0 := by rw [(sg_iff.mp hcl).1]; decide
            obtain ⟨μ3, e3, C3⟩ := y2.adv hn hB hr hSj
            rw [if_pos (show μ2.2.1 31 6 = (41 : Int32) from (ksg hB y2.1.2.2.1 (c := 41) (by decide)).mpr hcl), e3, bs, bs]
            refine ⟨μ3, rfl, Or.inl ⟨j + 1, X, by omega, C3, by omega, y4, fun h hh => y5 h (by unfold hbp at hh ⊢; omega), ?_⟩⟩
            intro k0 ν0 A xs base ts b1 b2
            obtain ⟨xs', p, ts', q1, q2, q3, q4, q5⟩ := y6 k0 ν0 A xs (14 :: base) (up ts (w + 1 + 1) false) (hb14 base) (go k0 ν0 A xs base ts b2)
            refine ⟨xs' ++ p.map I, [], ts', l_close hn hB q1 hcl (fun x hx => (q3 x hx).1) (by omega), by rw [List.map_nil, List.append_nil]; exact q2, hp7, fun d hd => ?_, trivial⟩
            rw [q4 d hd, up_n _ _ (by omega)]
          · obtain ⟨μ3, e3, F3, _⟩ := y2.refuse hr hn (w := 1) (by decide)
            rw [if_neg (show ¬ μ2.2.1 31 6 = (41 : Int32) from fun q => hcl ((ksg hB y2.1.2.2.1 (c := 41) (by decide)).mp q)), e3, bs, bs]
            refine ⟨μ3, rfl, Or.inr ⟨1, j, F3, ?_⟩⟩
            intro k0 ν0 A xs base ts b1 b2
            obtain ⟨xs', p, ts', q1, q2, q3, q4, q5⟩ := y6 k0 ν0 A xs (14 :: base) (up ts (w + 1 + 1) false) (hb14 base) (go k0 ν0 A xs base ts b2)
            exact l_bad hn hB q1 q5 hcl (by omega)
        · rw [pass_f z1, bs]
          exact ⟨μ2, rfl, Or.inr ⟨w', pp, z1, fun k0 ν0 A xs base ts b1 b2 => z2 k0 ν0 A xs (14 :: base) _ (hb14 base) (go k0 ν0 A xs base ts b2)⟩⟩
    · rw [if_neg (show ¬ μ.2.1 31 6 = (40 : Int32) from fun q => hp ((ksg hB hb.2.2.1 (c := 40) (by decide)).mp q)), hb.2.2.2.1, bs]
      obtain ⟨n1, n2⟩ := hC.num hr hn hB (bd := 10000) (by decide) (w := 2) (by decide)
      by_cases hv : tkS B n (Pq B n i) = 2 ∧ tkE B n (Pq B n i) - Pq B n i ≤ 4
      · have hS : tkS B n (Pq B n i) ≠ 0 := by omega
        have hlt := tkV_lt hB hv.1
        obtain ⟨μ1, μ2, e1, e0, e2, C2⟩ := hC.addv hr hn hB hS (0, tkV B n (Pq B n i)) (x := I (tkV B n (Pq B n i))) rfl
        rw [show fX6_numberBelow 31 (10000 : Int32) (2 : Int32) μ = _ from n1 ⟨hv.1, hv.2, hlt⟩, bs]
        simp only
        rw [e1, bs, if_pos e0, e2, bs]
        refine ⟨μ2, rfl, Or.inl ⟨i + 1, [(0, tkV B n (Pq B n i))], by omega, C2, by show 1 ≤ i + 1 - i; omega, ?_, Hgt_one (by unfold hbp; omega) (Or.inl rfl), ?_⟩⟩
        · intro t ht
          rw [List.mem_singleton.mp ht]
          exact Or.inl ⟨rfl, hlt⟩
        · intro k0 ν0 A xs base ts b1 b2
          have q := (n_part hn hB hV.2.2.2.1 hV.2.2.2.2.1 hc hmn b2 hp).1 hv
          refine ⟨_, [], ts, q, ?_, hp7, fun _ _ => rfl, trivial⟩
          rw [fl_one]
          show _ ++ [] = xs ++ [1, I (tkV B n (Pq B n i))]
          rw [List.append_nil]
      · obtain ⟨μ1, e1, F1⟩ := n2 (fun q => hv ⟨q.1, q.2.1⟩)
        obtain ⟨μ2, e2, F2⟩ := F1.add hr 0
        rw [show fX6_numberBelow 31 (10000 : Int32) (2 : Int32) μ = _ from e1, bs]
        simp only
        rw [e2, bs, if_neg F2.ne]
        refine ⟨μ2, rfl, Or.inr ⟨_, i, F2, ?_⟩⟩
        intro k0 ν0 A xs base ts b1 b2
        obtain ⟨_, q2, _, _, q5⟩ := n_part hn hB hV.2.2.2.1 hV.2.2.2.2.1 hc hmn b2 hp
        by_cases s2 : tkS B n (Pq B n i) = 2
        · rw [if_neg (show ¬ tkS B n (Pq B n i) ≠ 2 by omega), if_pos (show 4 < tkE B n (Pq B n i) - Pq B n i by omega)]
          exact q2 ⟨s2, by omega⟩
        · rw [if_pos s2]
          exact q5 ⟨s2, s1⟩
/-! products, sums -/
def opM (B : Nat → Nat) (n k : Nat) : Option Nat := if sg B n k 42 = true then some 10 else if sg B n k 47 = true then some 11 else none
def opA (B : Nat → Nat) (n k : Nat) : Option Nat := if sg B n k 43 = true then some 8 else if sg B n k 45 = true then some 9 else none
theorem opM_c {k ac : Nat} (h : opM B n k = some ac) : (sg B n k 42 = true ∧ ac = 10) ∨ (sg B n k 47 = true ∧ ac = 11) := by
  unfold opM at h
  by_cases e : sg B n k 42 = true
  · rw [if_pos e] at h; exact Or.inl ⟨e, (Option.some.inj h).symm⟩
  · rw [if_neg e] at h
    by_cases e2 : sg B n k 47 = true
    · rw [if_pos e2] at h; exact Or.inr ⟨e2, (Option.some.inj h).symm⟩
    · rw [if_neg e2] at h; cases h
theorem opM_n {k : Nat} (h : opM B n k = none) : ¬ sg B n k 42 = true ∧ ¬ sg B n k 47 = true := by
  unfold opM at h
  by_cases e : sg B n k 42 = true
  · rw [if_pos e] at h; cases h
  · rw [if_neg e] at h
    by_cases e2 : sg B n k 47 = true
    · rw [if_pos e2] at h; cases h
    · exact ⟨e, e2⟩
theorem opA_c {k ac : Nat} (h : opA B n k = some ac) : (sg B n k 43 = true ∧ ac = 8) ∨ (sg B n k 45 = true ∧ ac = 9) := by
  unfold opA at h
  by_cases e : sg B n k 43 = true
  · rw [if_pos e] at h; exact Or.inl ⟨e, (Option.some.inj h).symm⟩
  · rw [if_neg e] at h
    by_cases e2 : sg B n k 45 = true
    · rw [if_pos e2] at h; exact Or.inr ⟨e2, (Option.some.inj h).symm⟩
    · rw [if_neg e2] at h; cases h
theorem opA_n {k : Nat} (h : opA B n k = none) : ¬ sg B n k 43 = true ∧ ¬ sg B n k 45 = true := by
  unfold opA at h
  by_cases e : sg B n k 43 = true
  · rw [if_pos e] at h; cases h
  · rw [if_neg e] at h
    by_cases e2 : sg B n k 45 = true
    · rw [if_pos e2] at h; cases h
    · exact ⟨e, e2⟩
theorem prod_ok (hn : n ≤ 700) (hB : ∀ i, i < n → B i < 256) (hr : RLa a) (hV : VOK B n vs fi la nv vm wf) {w : Nat} (hw : w < 6) {rec : Nat → Int32 → Mem → Option Mem} (hrec : HRc B n fi la a vs μ0 nv vm (w + 1) rec) {i : Nat} (hC : CX B n a vs μ0 i L μ) {c : Nat} (hc : c ≤ 6) {mn : Int32} (hmn : mn = 0 ∨ KW B n (Pq B n i) ≠ 16) :
    OUT B n fi la a vs μ0 nv vm 6 (hbp w + 1) (w + 2) (w + 1) i L (fun k0 ν0 A xs base ts => AtN B n k0 fi la ν0 A i xs base (w + 1) ts c mn) (fun j _ => opM B n j = none ∧ True) (fX6_readProduct rec 31 (I w) μ) := by
  unfold fX6_readProduct
  refine chain0 hn hB hr (sF := 7) (STF := fun i k0 ν0 A xs base ts => AtN B n k0 fi la ν0 A i xs base (w + 1) ts 0 0) (opM B n) (fun μ => fX6_readPart rec 31 (I w) μ) (fun m c μ => fX6_readProduct_7 rec m 31 (I w) c μ) (by decide) hC.2.2.2.2.1 ?_ ?_ ?_ ?_ ?_ ?_ (part_ok hn hB hr hV hw hrec hC hc hmn)
  · intro k ac h
    rcases opM_c h with ⟨e, rfl⟩ | ⟨e, rfl⟩
    · exact ⟨by decide, by decide, by decide, by rw [(sg_iff.mp e).1]; decide⟩
    · exact ⟨by decide, by decide, by decide, by rw [(sg_iff.mp e).1]; decide⟩
  · intro i L μ hC
    exact part_ok hn hB hr hV hw hrec hC (by decide) (Or.inl rfl)
  · intro k0 ν0 A k xs p base ts ac h h1 h2 h3
    rcases opM_c h with ⟨e, rfl⟩ | ⟨e, rfl⟩
    · exact ⟨ts, p_n (l_times hn hB h1 e h2 h3), fun _ _ => rfl⟩
    · exact ⟨ts, p_n (l_by hn hB h1 e h2 h3), fun _ _ => rfl⟩
  · intro m c k L μ hc hC h
    obtain ⟨e1, e2⟩ := opM_n h
    show fX6_readProduct_7 rec (m + 1) 31 (I w) (I c) μ = _
    rw [fX6_readProduct_7, if_pos (by rw [I_ltl (by omega) (by decide)]; exact hc), if_pos hC.2.1, if_neg (show ¬ μ.2.1 31 6 = (42 : Int32) from fun q => e1 ((ksg hB hC.1.2.2.1 (c := 42) (by decide)).mp q)), if_neg (show ¬ μ.2.1 31 6 = (47 : Int32) from fun q => e2 ((ksg hB hC.1.2.2.1 (c := 47) (by decide)).mp q))]
  · intro m c k L μ ac hc hC h
    show fX6_readProduct_7 rec (m + 1) 31 (I w) (I c) μ = _
    rcases opM_c h with ⟨e, rfl⟩ | ⟨e, rfl⟩
    · have k1 : μ.2.1 31 6 = (42 : Int32) := (ksg hB hC.1.2.2.1 (c := 42) (by decide)).mpr e
      rw [fX6_readProduct_7, if_pos (by rw [I_ltl (by omega) (by decide)]; exact hc), if_pos hC.2.1, if_pos k1, if_pos k1, I_addl]
      rfl
    · have k1 : μ.2.1 31 6 = (47 : Int32) := (ksg hB hC.1.2.2.1 (c := 47) (by decide)).mpr e
      have k2 : ¬ μ.2.1 31 6 = (42 : Int32) := by rw [k1]; decide
      rw [fX6_readProduct_7, if_pos (by rw [I_ltl (by omega) (by decide)]; exact hc), if_pos hC.2.1, if_neg k2, if_pos k1, if_neg k2, I_addl]
      rfl
  · intro m c w' p μ hc hF
    show fX6_readProduct_7 rec (m + 1) 31 (I w) (I c) μ = _
    rw [fX6_readProduct_7, if_neg hF.ne]
    split <;> rfl
theorem sum_ok (hn : n ≤ 700) (hB : ∀ i, i < n → B i < 256) (hr : RLa a) (hV : VOK B n vs fi la nv vm wf) {w : Nat} (hw : w < 6) {rec : Nat → Int32 → Mem → Option Mem} (hrec : HRc B n fi la a vs μ0 nv vm (w + 1) rec) {i : Nat} (hC : CX B n a vs μ0 i L μ) {c : Nat} (hc : c ≤ 6) {mn : Int32} (hmn : mn = 0 ∨ KW B n (Pq B n i) ≠ 16) :
    OUT B n fi la a vs μ0 nv vm 5 (hbp w + 1 + 1) (w + 2) (w + 1) i L (fun k0 ν0 A xs base ts => AtN B n k0 fi la ν0 A i xs base (w + 1) ts c mn) (fun j _ => opA B n j = none ∧ opM B n j = none ∧ True) (fX6_readSum rec 31 (I w) μ) := by
  unfold fX6_readSum
  refine chain0 hn hB hr (sF := 6) (STF := fun i k0 ν0 A xs base ts => AtN B n k0 fi la ν0 A i xs base (w + 1) ts 0 0) (opA B n) (fun μ => fX6_readProduct rec 31 (I w) μ) (fun m c μ => fX6_readSum_7 rec m 31 (I w) c μ) (by decide) hC.2.2.2.2.1 ?_ ?_ ?_ ?_ ?_ ?_ (prod_ok hn hB hr hV hw hrec hC hc hmn)
  · intro k ac h
    rcases opA_c h with ⟨e, rfl⟩ | ⟨e, rfl⟩
    · exact ⟨by decide, by decide, by decide, by rw [(sg_iff.mp e).1]; decide⟩
    · exact ⟨by decide, by decide, by decide, by rw [(sg_iff.mp e).1]; decide⟩
  · intro i L μ hC
    exact prod_ok hn hB hr hV hw hrec hC (by decide) (Or.inl rfl)
  · intro k0 ν0 A k xs p base ts ac h h1 h2 h3
    rcases opA_c h with ⟨e, rfl⟩ | ⟨e, rfl⟩
    · exact ⟨ts, p_n (l_plus hn hB h1 e h2 h3), fun _ _ => rfl⟩
    · exact ⟨ts, p_n (l_minus hn hB h1 e h2 h3), fun _ _ => rfl⟩
  · intro m c k L μ hc hC h
    obtain ⟨e1, e2⟩ := opA_n h
    show fX6_readSum_7 rec (m + 1) 31 (I w) (I c) μ = _
    rw [fX6_readSum_7, if_pos (by rw [I_ltl (by omega) (by decide)]; exact hc), if_pos hC.2.1, if_neg (show ¬ μ.2.1 31 6 = (43 : Int32) from fun q => e1 ((ksg hB hC.1.2.2.1 (c := 43) (by decide)).mp q)), if_neg (show ¬ μ.2.1 31 6 = (45 : Int32) from fun q => e2 ((ksg hB hC.1.2.2.1 (c := 45) (by decide)).mp q))]
  · intro m c k L μ ac hc hC h
    show fX6_readSum_7 rec (m + 1) 31 (I w) (I c) μ = _
    rcases opA_c h with ⟨e, rfl⟩ | ⟨e, rfl⟩
    · have k1 : μ.2.1 31 6 = (43 : Int32) := (ksg hB hC.1.2.2.1 (c := 43) (by decide)).mpr e
      rw [fX6_readSum_7, if_pos (by rw [I_ltl (by omega) (by decide)]; exact hc), if_pos hC.2.1, if_pos k1, if_pos k1, I_addl]
      rfl
    · have k1 : μ.2.1 31 6 = (45 : Int32) := (ksg hB hC.1.2.2.1 (c := 45) (by decide)).mpr e
      have k2 : ¬ μ.2.1 31 6 = (43 : Int32) := by rw [k1]; decide
      rw [fX6_readSum_7, if_pos (by rw [I_ltl (by omega) (by decide)]; exact hc), if_pos hC.2.1, if_neg k2, if_pos k1, if_neg k2, I_addl]
      rfl
  · intro m c w' p μ hc hF
    show fX6_readSum_7 rec (m + 1) 31 (I w) (I c) μ = _
    rw [fX6_readSum_7, if_neg hF.ne]
    split <;> rfl
end Gm
