/-! EXPRESSIONS: what is read, by both -/
def cl (vm : Nat → Nat) (t : Itm) : List Int32 := match t.1 with
  | 0 => [1, I t.2]
  | 1 => [2, I (vm t.2)]
  | 2 => [3]
  | _ => [I (om t.2)]
def fl (vm : Nat → Nat) (l : List Itm) : List Int32 := l.flatMap (cl vm)
theorem fl_app (vm : Nat → Nat) (l l' : List Itm) : fl vm (l ++ l') = fl vm l ++ fl vm l' := List.flatMap_append
theorem fl_one (vm : Nat → Nat) (t : Itm) : fl vm [t] = cl vm t := by unfold fl; simp
/-- the item of an act -/
def itm (a : Nat) : Itm := if a = 3 then (2, 0) else if a = 5 then (3, 0) else if a = 4 then (3, 1) else (3, a - 4)
theorem itm_ok : ∀ a : Fin 12, 3 ≤ a.1 → (itm a.1).1 = (if a.1 = 3 then 2 else 3) ∧ (a.1 ≠ 3 → (itm a.1).2 < 8 ∧ om (itm a.1).2 = a.1) := by decide +kernel
theorem cl_itm (vm : Nat → Nat) {a : Nat} (h1 : 3 ≤ a) (h2 : a < 12) : cl vm (itm a) = [I a] := by
  obtain ⟨q1, q2⟩ := itm_ok ⟨a, h2⟩ h1
  simp only at q1 q2
  unfold cl
  by_cases e : a = 3
  · rw [if_pos e] at q1
    rw [q1, e]
    rfl
  · rw [if_neg e] at q1
    rw [q1]
    show [I (om (itm a).2)] = _
    rw [(q2 e).2]
theorem iok_itm (nv : Nat) {a : Nat} (h1 : 3 ≤ a) (h2 : a < 12) : iok nv (itm a) := by
  obtain ⟨q1, q2⟩ := itm_ok ⟨a, h2⟩ h1
  simp only at q1 q2
  unfold iok
  by_cases e : a = 3
  · rw [if_pos e] at q1; exact Or.inr (Or.inr (Or.inl q1))
  · rw [if_neg e] at q1; exact Or.inr (Or.inr (Or.inr ⟨q1, (q2 e).1⟩))
/-- so high it may be above what is there already -/
def Hgt (b : Nat) (X : List Itm) : Prop := ∀ h, h + b ≤ 64 → Hok X h (h + 1)
theorem Hok_app : ∀ (X Y : List Itm) (h h' h'' : Nat), Hok X h h' → Hok Y h' h'' → Hok (X ++ Y) h h'' := by
  intro X
  induction X with
  | nil =>
    intro Y h h' h'' q1 q2
    have : h = h' := q1
    subst this
    exact q2
  | cons t X ih =>
    intro Y h h' h'' q1 q2
    exact ⟨q1.1, ih Y _ _ _ q1.2 q2⟩
theorem Hok_bin {a : Nat} (h1 : 4 ≤ a) (h2 : a < 12) (h : Nat) : Hok [itm a] (h + 2) (h + 1) := by
  obtain ⟨q1, _⟩ := itm_ok ⟨a, h2⟩ (by show 3 ≤ a; omega)
  simp only at q1
  rw [if_neg (by omega)] at q1
  refine ⟨?_, ?_⟩
  · unfold hok; rw [q1]; show 2 ≤ h + 2; omega
  · show hg (itm a) (h + 2) = h + 1
    unfold hg; rw [q1]; rfl
theorem Hok_not (h : Nat) (h1 : 1 ≤ h) : Hok [itm 3] h h := ⟨h1, rfl⟩
section Ou
variable {B : Nat → Nat} {n k0 fi la : Nat} {ν0 : Mem} {a vs : Nat} {μ0 : Mem} {nv : Nat} {vm : Nat → Nat}
/-- one thing read from token i on: both go on, or both tell the same fault -/
def OUT (B : Nat → Nat) (n fi la : Nat) (a vs : Nat) (μ0 : Mem) (nv : Nat) (vm : Nat → Nat) (s hb tb dep i : Nat) (L : List Itm) (ST : Nat → Mem → Option Mem → List Int32 → List Nat → (Nat → Bool) → Prop) (NT : Nat → (Nat → Bool) → Prop) (x : Option Mem) : Prop :=
  ∃ μ', x = some μ' ∧ ((∃ j X, i < j ∧ CX B n a vs μ0 j (L ++ X) μ' ∧ X.length ≤ j - i ∧ (∀ t ∈ X, iok nv t) ∧ Hgt hb X ∧
      ∀ k0 ν0 A xs base ts, bcond s base → ST k0 ν0 A xs base ts → ∃ xs' p ts', AtL B n k0 fi la ν0 A j xs' (p ++ base) dep ts' ∧ xs' ++ p.map I = xs ++ fl vm X ∧ pcond s p ∧ (∀ d, d < tb → ts' d = ts d) ∧ NT j ts') ∨
    (∃ w p, CFt B n a vs μ0 w p μ' ∧ ∀ k0 ν0 A xs base ts, bcond s base → ST k0 ν0 A xs base ts → AtF B n k0 fi la ν0 A w p))
theorem chain (hn : n ≤ 700) (hB : ∀ i, i < n → B i < 256) (hr : RLa a) {s sF hbF tb dep i : Nat} {L : List Itm}
    {ST : Nat → Mem → Option Mem → List Int32 → List Nat → (Nat → Bool) → Prop} {STF : Nat → Nat → Mem → Option Mem → List Int32 → List Nat → (Nat → Bool) → Prop} {NF : Nat → (Nat → Bool) → Prop} (opk : Nat → Option Nat)
    (F : Mem → Option Mem) (Lp : Nat → Int32 → Mem → Option Mem) (hs : s < sF) (hiL : L.length ≤ i)
    (hop : ∀ k ac, opk k = some ac → 4 ≤ ac ∧ ac < 12 ∧ stg ac = s ∧ tkS B n (Pq B n k) ≠ 0)
    (hF : ∀ i L μ, CX B n a vs μ0 i L μ → OUT B n fi la a vs μ0 nv vm sF hbF tb dep i L (STF i) NF (F μ))
    (hstep : ∀ k0 ν0 A k xs p base ts ac, opk k = some ac → AtL B n k0 fi la ν0 A k xs (p ++ base) dep ts → pcond s p → bcond s base → ∃ ts', STF (k + 1) k0 ν0 A (xs ++ p.map I) (ac :: base) ts' ∧ ∀ d, d < tb → ts' d = ts d)
    (hl0 : ∀ m c k L μ, c < 700 → CX B n a vs μ0 k L μ → opk k = none → Lp (m + 1) (I c) μ = some μ)
    (hl1 : ∀ m c k L μ ac, c < 700 → CX B n a vs μ0 k L μ → opk k = some ac → Lp (m + 1) (I c) μ = (fX6_advance 31 μ).bind fun μ2 => (F μ2).bind fun μ6 => (gR μ6 31 9 17).bind fun a9 => (fX7_add a9 (ecl (itm ac)) μ6).bind fun μ13 => Lp m (I (c + 1)) μ13)
    (hlf : ∀ m c w p μ, c ≤ 700 → CFt B n a vs μ0 w p μ → Lp (m + 1) (I c) μ = some μ) :
    ∀ f j X μ c m, n - j ≤ f → f + 1 < m → c < j → i < j → CX B n a vs μ0 j (L ++ X) μ → X.length ≤ j - i → (∀ t ∈ X, iok nv t) → Hgt (hbF + 1) X →
      (∀ k0 ν0 A xs base ts, bcond s base → ST k0 ν0 A xs base ts → ∃ xs' p ts', AtL B n k0 fi la ν0 A j xs' (p ++ base) dep ts' ∧ xs' ++ p.map I = xs ++ fl vm X ∧ pcond s p ∧ (∀ d, d < tb → ts' d = ts d) ∧ NF j ts') →
      OUT B n fi la a vs μ0 nv vm s (hbF + 1) tb dep i L ST (fun j ts => opk j = none ∧ NF j ts) (Lp m (I c) μ) := by
  intro f
  induction f with
  | zero =>
    intro j X μ c m h1 h2 hc hij hC hX1 hX2 hX3 hI
    obtain ⟨m, rfl⟩ : ∃ q, m = q + 1 := ⟨m - 1, by omega⟩
    have hj := hC.2.2.2.2.2
    have hno : opk j = none := by
      cases e : opk j with
      | none => rfl
      | some ac =>
        have := (S_k j (hop j ac e).2.2.2).2
        omega
    rw [hl0 m c j (L ++ X) μ (by omega) hC hno]
    refine ⟨μ, rfl, Or.inl ⟨j, X, hij, hC, hX1, hX2, hX3, ?_⟩⟩
    intro k0 ν0 A xs base ts b1 b2
    obtain ⟨xs', p, ts', q1, q2, q3, q4, q5⟩ := hI k0 ν0 A xs base ts b1 b2
    exact ⟨xs', p, ts', q1, q2, q3, q4, hno, q5⟩
  | succ f ih =>
    intro j X μ c m h1 h2 hc hij hC hX1 hX2 hX3 hI
    obtain ⟨m, rfl⟩ : ∃ q, m = q + 1 := ⟨m - 1, by omega⟩
    have hj := hC.2.2.2.2.2
    cases e : opk j with
    | none =>
      rw [hl0 m c j (L ++ X) μ (by omega) hC e]
      refine ⟨μ, rfl, Or.inl ⟨j, X, hij, hC, hX1, hX2, hX3, ?_⟩⟩
      intro k0 ν0 A xs base ts b1 b2
      obtain ⟨xs', p, ts', q1, q2, q3, q4, q5⟩ := hI k0 ν0 A xs base ts b1 b2
      exact ⟨xs', p, ts', q1, q2, q3, q4, e, q5⟩
    | some ac =>
      obtain ⟨o1, o2, o3, o4⟩ := hop j ac e
      have hjn := (S_k j o4).2
      obtain ⟨μ2, e2, C2⟩ := hC.adv hn hB hr o4
      rw [hl1 m c j (L ++ X) μ ac (by omega) hC e, e2, bs]
      obtain ⟨μ6, e6, O6⟩ := hF (j + 1) (L ++ X) μ2 C2
      rw [e6, bs]
      have hbs : ∀ base, bcond s base → bcond sF (ac :: base) := by
        intro base _ x l q
        injection q with q1 q2
        rw [← q1]
        exact Or.inr ⟨by omega, by omega⟩
      rcases O6 with ⟨j2, Y, y1, y2, y3, y4, y5, y6⟩ | ⟨w, pp, z1, z2⟩
      · have hlen : (L ++ X ++ Y).length + 1 ≤ j2 := by
          rw [List.length_append, List.length_append]
          omega
        obtain ⟨μ13, e13, C13⟩ := y2.add hr hn (itm ac) hlen rfl
        rw [y2.1.2.2.2.1, bs, e13, bs]
        have hXX : L ++ X ++ Y ++ [itm ac] = L ++ (X ++ Y ++ [itm ac]) := by simp
        rw [hXX] at C13
        refine ih j2 (X ++ Y ++ [itm ac]) μ13 (c + 1) m (by omega) (by omega) (by omega) (by omega) C13 ?_ ?_ ?_ ?_
        · simp only [List.length_append, List.length_cons, List.length_nil]; omega
        · intro t ht
          rcases List.mem_append.mp ht with ht | ht
          · rcases List.mem_append.mp ht with ht | ht
            · exact hX2 t ht
            · exact y4 t ht
          · rw [List.mem_singleton.mp ht]; exact iok_itm nv (by omega) o2
        · intro h hh
          exact Hok_app _ _ _ (h + 2) _ (Hok_app _ _ _ (h + 1) _ (hX3 h hh) (y5 (h + 1) (by omega))) (Hok_bin o1 o2 h)
        · intro k0 ν0 A xs base ts b1 b2
          obtain ⟨xs', p, ts', q1, q2, q3, q4, q5⟩ := hI k0 ν0 A xs base ts b1 b2
          obtain ⟨ts2, r1, r2⟩ := hstep k0 ν0 A j xs' p base ts' ac e q1 q3 b1
          obtain ⟨xs3, p3, ts3, u1, u2, u3, u4, u5⟩ := y6 k0 ν0 A _ _ _ (hbs base b1) r1
          refine ⟨xs3, p3 ++ [ac], ts3, ?_, ?_, ?_, fun d hd => (u4 d hd).trans ((r2 d hd).trans (q4 d hd)), u5⟩
          · rw [List.append_assoc]; exact u1
          · rw [List.map_append, ← List.append_assoc, u2, q2, fl_app, fl_app, fl_one, cl_itm vm (by omega) o2]
            simp
          · intro x hx
            rcases List.mem_append.mp hx with hx | hx
            · have := u3 x hx; exact ⟨this.1, by omega⟩
            · rw [List.mem_singleton.mp hx]; exact ⟨by omega, by omega⟩
      · obtain ⟨μ13, e13, C13⟩ := z1.add hr (ecl (itm ac))
        obtain ⟨m, rfl⟩ : ∃ q, m = q + 1 := ⟨m - 1, by omega⟩
        rw [z1.r, bs, e13, bs, hlf m (c + 1) w pp μ13 (by omega) C13]
        refine ⟨μ13, rfl, Or.inr ⟨w, pp, C13, ?_⟩⟩
        intro k0 ν0 A xs base ts b1 b2
        obtain ⟨xs', p, ts', q1, q2, q3, q4, q5⟩ := hI k0 ν0 A xs base ts b1 b2
        obtain ⟨ts2, r1, r2⟩ := hstep k0 ν0 A j xs' p base ts' ac e q1 q3 b1
        exact z2 k0 ν0 A _ _ _ (hbs base b1) r1
/-- the first one, and those that follow -/
theorem chain0 (hn : n ≤ 700) (hB : ∀ i, i < n → B i < 256) (hr : RLa a) {s sF hbF tb dep i : Nat} {L : List Itm}
    {STF : Nat → Nat → Mem → Option Mem → List Int32 → List Nat → (Nat → Bool) → Prop} {ST : Nat → Mem → Option Mem → List Int32 → List Nat → (Nat → Bool) → Prop} {NF : Nat → (Nat → Bool) → Prop} (opk : Nat → Option Nat)
    (F : Mem → Option Mem) (Lp : Nat → Int32 → Mem → Option Mem) (hs : s < sF) (hiL : L.length ≤ i)
    (hop : ∀ k ac, opk k = some ac → 4 ≤ ac ∧ ac < 12 ∧ stg ac = s ∧ tkS B n (Pq B n k) ≠ 0)
    (hF : ∀ i L μ, CX B n a vs μ0 i L μ → OUT B n fi la a vs μ0 nv vm sF hbF tb dep i L (STF i) NF (F μ))
    (hstep : ∀ k0 ν0 A k xs p base ts ac, opk k = some ac → AtL B n k0 fi la ν0 A k xs (p ++ base) dep ts → pcond s p → bcond s base → ∃ ts', STF (k + 1) k0 ν0 A (xs ++ p.map I) (ac :: base) ts' ∧ ∀ d, d < tb → ts' d = ts d)
    (hl0 : ∀ m c k L μ, c < 700 → CX B n a vs μ0 k L μ → opk k = none → Lp (m + 1) (I c) μ = some μ)
    (hl1 : ∀ m c k L μ ac, c < 700 → CX B n a vs μ0 k L μ → opk k = some ac → Lp (m + 1) (I c) μ = (fX6_advance 31 μ).bind fun μ2 => (F μ2).bind fun μ6 => (gR μ6 31 9 17).bind fun a9 => (fX7_add a9 (ecl (itm ac)) μ6).bind fun μ13 => Lp m (I (c + 1)) μ13)
    (hlf : ∀ m c w p μ, c ≤ 700 → CFt B n a vs μ0 w p μ → Lp (m + 1) (I c) μ = some μ)
    {x : Option Mem} (hx : OUT B n fi la a vs μ0 nv vm sF hbF tb dep i L ST NF x) :
    OUT B n fi la a vs μ0 nv vm s (hbF + 1) tb dep i L ST (fun j ts => opk j = none ∧ NF j ts) (x.bind fun μ2 => Lp fuel (I 0) μ2) := by
  obtain ⟨μ', e, O⟩ := hx
  rw [e, bs]
  have hbs : ∀ base, bcond s base → bcond sF base := by
    intro base hb x l q
    rcases hb x l q with r | r
    · exact Or.inl r
    · exact Or.inr ⟨r.1, by omega⟩
  rcases O with ⟨j, X, y1, y2, y3, y4, y5, y6⟩ | ⟨w, pp, z1, z2⟩
  · have hj := y2.2.2.2.2.2
    refine chain hn hB hr opk F Lp hs hiL hop hF hstep hl0 hl1 hlf (n - j) j X μ' 0 fuel (Nat.le_refl _) (by unfold fuel; omega) (by omega) y1 y2 y3 y4 (fun h hh => y5 h (by omega)) ?_
    intro k0 ν0 A xs base ts b1 b2
    obtain ⟨xs', p, ts', q1, q2, q3, q4, q5⟩ := y6 k0 ν0 A xs base ts (hbs base b1) b2
    exact ⟨xs', p, ts', q1, q2, fun x hx => ⟨(q3 x hx).1, by have := (q3 x hx).2; omega⟩, q4, q5⟩
  · rw [show fuel = 4999 + 1 from rfl, hlf 4999 0 w pp μ' (by omega) z1]
    exact ⟨μ', rfl, Or.inr ⟨w, pp, z1, fun k0 ν0 A xs base ts b1 b2 => z2 k0 ν0 A xs base ts (hbs base b1) b2⟩⟩
end Ou
