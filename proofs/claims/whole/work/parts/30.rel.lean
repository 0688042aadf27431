/-! THE MATHEMATICAL STATE mu, and when a state of the system (RN) and of the check (RM) is it.
mu 0: 0 rows, 1 columns, 2 news, 3 winds told, 5 undone, 6 kept, 7 seen, 8 letters; mu 1 kinds; mu 2, 3, 4 kind, weight, beginning of news; mu 5 winds; mu 6 how it stands (0 steps, 1.. sashes, 17.. who knows); mu 8 undone, mu 9 kept (22 each), mu 10 seen (4 each), mu 11 letters -/
abbrev Mu : Type := Nat → Nat → Nat
abbrev mR (μ : Mu) : Nat := μ 0 0
abbrev mC (μ : Mu) : Nat := μ 0 1
abbrev mn (μ : Mu) : Nat := μ 0 2
abbrev mw (μ : Mu) : Nat := μ 0 3
abbrev mac (μ : Mu) : Nat := μ 0 5
abbrev mke (μ : Mu) : Nat := μ 0 6
abbrev mse (μ : Mu) : Nat := μ 0 7
abbrev mle (μ : Mu) : Nat := μ 0 8
def mH (μ : Mu) : Nat := mR μ * mC μ
def mW (μ : Mu) : Nat := if mw μ = 0 then 1 else mw μ
/-- how a standing may be -/
def ENT (k : Nat) (μ : Mu) (g : Nat → Nat) : Prop := g 0 ≤ 24 * k ∧ (∀ h, h < 16 → g (1 + h) ≤ 6) ∧ ∀ n, n < 5 → g (17 + n) < 2 ^ mH μ ∧ (mn μ ≤ n → g (17 + n) = 0)
/-- the parish's own part -/
def WP (μ : Mu) : Prop := (1 ≤ mR μ ∧ mR μ ≤ 4) ∧ (1 ≤ mC μ ∧ mC μ ≤ 4) ∧ mn μ ≤ 5 ∧ mw μ ≤ 8 ∧ (∀ h, h < 16 → μ 1 h ≤ 4) ∧ (∀ n, n < mn μ → μ 2 n ≤ 2 ∧ 1 ≤ μ 3 n ∧ μ 3 n ≤ 4 ∧ μ 4 n < mH μ) ∧ (∀ i, i < mW μ → μ 5 i ≤ 4) ∧ (mw μ = 0 → μ 5 0 = 0)
def WF (k : Nat) (μ : Mu) : Prop := WP μ ∧ ENT k μ (μ 6) ∧ mac μ ≤ 8 ∧ (∀ i, i < mac μ → ENT k μ (fun j => μ 8 (22 * i + j))) ∧ mke μ ≤ 2 ∧ (∀ i, i < mke μ → ENT k μ (fun j => μ 9 (22 * i + j))) ∧ mse μ ≤ 6 ∧ (∀ i, i < mse μ → μ 10 (4 * i) < mH μ ∧ μ 10 (4 * i + 1) < mn μ ∧ μ 10 (4 * i + 2) ≤ 30 ∧ μ 10 (4 * i + 3) ≤ 1) ∧ mle μ ≤ 200 ∧ ∀ i, i < mle μ → 32 ≤ μ 11 i ∧ μ 11 i ≤ 126
/-- a mask of those of 16 of which p says so -/
def mkm (p : Nat → Bool) : Nat → Nat
  | 0 => 0
  | n + 1 => mkm p n + (if p n then 2 ^ n else 0)
def firstC (μ : Mu) : Nat := mkm (fun h => decide (h < mH μ) && decide (h % mC μ = 0)) 16
def lastC (μ : Mu) : Nat := mkm (fun h => decide (h < mH μ) && decide (h % mC μ + 1 = mC μ)) 16
/-- the standing at place p of the system -/
def SNt (σ : St) (p : Nat) (g : Nat → Nat) : Prop := σ p 2 = nI (g 0) ∧ (∀ h, h < 16 → σ (p + 1) h = nI (g (1 + h))) ∧ ∀ n, n < 5 → σ (p + 2) n = nI (g (17 + n))
/-- the parish at place p of the system -/
def PN (σ : St) (p : Nat) (μ : Mu) : Prop := σ p 6 = nI (mR μ) ∧ σ p 7 = nI (mC μ) ∧ σ p 8 = nI (firstC μ) ∧ σ p 9 = nI (lastC μ) ∧ σ p 10 = nI (mn μ) ∧ σ p 11 = nI (mw μ) ∧ (∀ h, h < 16 → σ (p + 1) h = nI (μ 1 h)) ∧ (∀ n, n < mn μ → σ (p + 3) n = nI (μ 2 n) ∧ σ (p + 4) n = nI (μ 3 n) ∧ σ (p + 5) n = nI (μ 4 n)) ∧ ∀ i, i < mW μ → σ (p + 6) i = nI (μ 5 i)
def TN (σ : St) (μ : Mu) : Prop := σ 1 1 = nI (mle μ) ∧ ∀ i, i < mle μ → σ 2 i = nI (μ 11 i)
def UN (k : Nat) (σ : St) (μ : Mu) : Prop := σ 22 2 = nI (mac μ) ∧ ∃ lw, lw ≤ k ∧ σ 22 1 = nI lw ∧ ∀ i, i < mac μ → SNt σ (24 + 3 * ((lw + i) % 8)) (fun j => μ 8 (22 * i + j))
def KN (σ : St) (μ : Mu) : Prop := σ 48 2 = nI (mke μ) ∧ σ 48 1 = nI 0 ∧ ∀ i, i < mke μ → SNt σ (50 + 3 * i) (fun j => μ 9 (22 * i + j))
def VN (σ : St) (μ : Mu) : Prop := σ 62 6 = nI (mse μ) ∧ ∀ i, i < mse μ → σ 63 i = nI (μ 10 (4 * i)) ∧ σ 64 i = nI (μ 10 (4 * i + 1)) ∧ σ 65 i = nI (μ 10 (4 * i + 2)) ∧ σ 66 i = nI (μ 10 (4 * i + 3))
def RN (k : Nat) (σ : St) (μ : Mu) : Prop := TN σ μ ∧ PN σ 12 μ ∧ SNt σ 19 (μ 6) ∧ UN k σ μ ∧ KN σ μ ∧ VN σ μ
def PM (τ : St) (μ : Mu) : Prop := τ 0 0 = nI (mR μ) ∧ τ 0 1 = nI (mC μ) ∧ τ 0 2 = nI (mH μ) ∧ τ 0 4 = nI (mn μ) ∧ τ 0 6 = nI (mW μ) ∧ (∀ h, h < 16 → τ 1 h = nI (μ 1 h)) ∧ (∀ n, n < mn μ → τ 2 (3 * n) = nI (μ 2 n) ∧ τ 2 (3 * n + 1) = nI (μ 3 n) ∧ τ 2 (3 * n + 2) = nI (μ 4 n)) ∧ ∀ i, i < mW μ → τ 3 i = nI (μ 5 i)
def RM (τ : St) (μ : Mu) : Prop := PM τ μ ∧ (τ 0 9 = nI (mac μ) ∧ τ 0 11 = nI (mke μ) ∧ τ 0 13 = nI (mse μ) ∧ τ 0 16 = nI (mle μ)) ∧ (∀ j, j < 22 → τ 4 j = nI (μ 6 j)) ∧ (∀ j, j < 22 * mac μ → τ 5 j = nI (μ 8 j)) ∧ (∀ j, j < 22 * mke μ → τ 6 j = nI (μ 9 j)) ∧ (∀ j, j < 4 * mse μ → τ 7 j = nI (μ 10 j)) ∧ ∀ j, j < mle μ → τ 8 j = nI (μ 11 j)
def Rel (k : Nat) (σ τ : St) : Prop := ∃ μ : Mu, WF k μ ∧ RN k σ μ ∧ RM τ μ
/-- one call: both answer, alike, and stay related -/
def ST2 (k : Nat) (oN oM : Ot) : Prop := ∃ (r : Int32) (σ τ : St), oN = some (r, σ) ∧ oM = some (r, τ) ∧ Rel (k + 1) σ τ
