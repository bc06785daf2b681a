/-- expressions within expressions: so many levels -/
def rxN : Nat → Nat → Int32 → Mem → Option Mem
  | 0, _, _, _ => none
  | n + 1, v0, v1, μ => fX6_readExpr (rxN n) v0 v1 μ
theorem trxN {ω : Wd} {l : Launch} : ∀ (n d : Nat) (v0 : Nat) (v1 : Int32) (μ ν : Mem), rxN n v0 v1 μ = some ν → μ.1 = NN → (kd v0).1 = 16 → Ct ω l mX6_readExpr (d + 20 + 6 * n) [.ref v0, .int v1] μ 0 0 (PE (.inl none) ν True) := by
  intro n
  induction n with
  | zero => intro d v0 v1 μ ν h; cases (show (none : Option Mem) = some ν from h)
  | succ n ih =>
    intro d v0 v1 μ ν h hN k0
    have hr : HR ω l (d + 6 * n) (rxN n) := fun v0 v1 μ ν h hN k0 => by
      have := ih d v0 v1 μ ν h hN k0
      rw [show d + 20 + 6 * n = d + 6 * n + 20 by omega] at this
      exact this
    have := tX6_readExpr hr (show fX6_readExpr (rxN n) v0 v1 μ = some ν from h) hN k0
    rw [show d + 20 + 6 * (n + 1) = d + 6 * n + 26 by omega]
    exact this
def fX6_readExprN (v0 : Nat) (v1 : Int32) (μ : Mem) : Option Mem := rxN 8 v0 v1 μ
theorem tX6_readExprN {ω : Wd} {l : Launch} (d : Nat) {v0 : Nat} {v1 : Int32} {μ : Mem} {res : Mem} (h : fX6_readExprN v0 v1 μ = some res) (hN : μ.1 = NN) (k0 : (kd v0).1 = 16) : Ct ω l mX6_readExpr (d + 68) [.ref v0, .int v1] μ 0 0 (PE (.inl none) res True) := trxN 8 d v0 v1 μ res h hN k0
