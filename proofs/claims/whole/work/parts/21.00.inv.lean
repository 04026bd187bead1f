/-! what holds between the calls: the class's cells beside the reference's -/
def isN (v : Int32) (n : Nat) : Prop := v = nI (nx v) ∧ nx v ≤ n
def nS (I : II) : Nat := nx (I 38 1)
def nL (I : II) : Nat := nx (I 38 4)
def nT (I : II) : Nat := nx (I 38 15)
def nP (I : II) : Nat := nx (I 38 22)
def nO (I : II) : Nat := nx (I 38 34)
def nD (I : II) : Nat := nx (I 38 36)
def nR (I : II) : Nat := nx (I 38 45)
def adf (a b : Nat) : Nat := (a - b) + (b - a)
def far (I : II) (a b : Nat) : Nat := adf (nx (I 39 a)) (nx (I 39 b)) + adf (nx (I 40 a)) (nx (I 40 b))
/-- stops -/
def GS (I : II) : Prop := (isN (I 38 1) 16 ∧ I 1 3 = I 38 1) ∧ (∀ s, s < nS I → (isN (I 39 s) 40 ∧ isN (I 40 s) 40) ∧ I 2 s = I 39 s ∧ I 3 s = I 40 s) ∧ ∀ a b, a < nS I → b < nS I → I 4 (16 * a + b) = nI (far I a b)
/-- a line of the reference: its numbers -/
def lK (I : II) (l : Nat) : Nat := nx (I 41 l)
def lZ (I : II) (l : Nat) : Nat := nx (I 42 l)
def lF (I : II) (l : Nat) : Nat := nx (I 45 l)
def lE (I : II) (l : Nat) : Nat := nx (I 46 l)
def lL (I : II) (l : Nat) : Nat := nx (I 47 l)
def lS (I : II) (l k : Nat) : Nat := nx (I 43 (8 * l + k))
def lO (I : II) (l k : Nat) : Nat := nx (I 44 (8 * l + k))
def RLn (I : II) (l : Nat) : Prop :=
  (isN (I 41 l) 2 ∧ isN (I 42 l) 8 ∧ 2 ≤ lZ I l ∧ isN (I 45 l) 1439 ∧ isN (I 46 l) 240 ∧ 1 ≤ lE I l ∧ isN (I 47 l) 1439 ∧ lF I l ≤ lL I l ∧ isN (I 48 l) 59 ∧ isN (I 49 l) 59) ∧
  (∀ k, k < lZ I l → isN (I 43 (8 * l + k)) 15 ∧ lS I l k < nS I ∧ isN (I 44 (8 * l + k)) (30 * k) ∧ isN (I 50 (8 * l + k)) 999) ∧
  (∀ j k, j < k → k < lZ I l → lS I l j ≠ lS I l k ∧ lO I l j < lO I l k)
def la (D : Dn) (l : Nat) : Nat := D.1 5 l - 1
/-- a line of the class: where it is, and that it holds what the reference has -/
def XLn (D : Dn) (I : II) (l : Nat) : Prop :=
  (78 ≤ D.1 5 l ∧ la D l + 3 < D.2.2.2 ∧ D.2.1 (la D l) = 1 ∧ D.2.1 (la D l + 1) = 100 ∧ D.2.1 (la D l + 2) = 100 ∧ D.2.1 (la D l + 3) = 100) ∧
  (D.1 (la D l) 6 = la D l + 2 ∧ D.1 (la D l) 7 = la D l + 3 ∧ D.1 (la D l) 8 = la D l + 4 ∧ D.2.2.1 (la D l + 1) = 8 ∧ D.2.2.1 (la D l + 2) = 8 ∧ D.2.2.1 (la D l + 3) = 8) ∧
  (I (la D l) 0 = nI l ∧ I (la D l) 1 = I 41 l ∧ I (la D l) 2 = I 45 l ∧ I (la D l) 3 = I 46 l ∧ I (la D l) 4 = I 47 l ∧ I (la D l) 5 = I 42 l ∧ I (la D l) 9 = I 48 l ∧ I (la D l) 10 = I 49 l) ∧
  ∀ k, k < lZ I l → I (la D l + 1) k = I 43 (8 * l + k) ∧ I (la D l + 2) k = I 44 (8 * l + k) ∧ I (la D l + 3) k = I 50 (8 * l + k)
def GL (D : Dn) (I : II) : Prop := (isN (I 38 4) 14 ∧ I 1 5 = I 38 4) ∧ (∀ l, l < nL I → RLn I l ∧ XLn D I l) ∧ (∀ j l, j < l → l < nL I → la D j + 4 ≤ la D l) ∧ (∀ l, nL I ≤ l → l < 14 → I 48 l = 0) ∧ ∀ j, 8 * nL I ≤ j → j < 112 → I 50 j = 0
/-- texts -/
def ta (D : Dn) (t : Nat) : Nat := D.1 6 t - 1
def GT (D : Dn) (I : II) : Prop := (isN (I 38 15) 12 ∧ I 0 2 = I 38 15) ∧ ∀ t, t < nT I →
  ((78 ≤ D.1 6 t ∧ ta D t + 1 < D.2.2.2 ∧ D.2.1 (ta D t) = 7 ∧ D.2.1 (ta D t + 1) = 100) ∧ (D.1 (ta D t) 0 = ta D t + 2 ∧ D.2.2.1 (ta D t + 1) = 4)) ∧
  (isN (I 51 t) 999 ∧ isN (I 52 t) 999 ∧ isN (I 53 t) 59 ∧ isN (I 54 t) 59) ∧
  (I (ta D t + 1) 0 = I 51 t ∧ I (ta D t + 1) 1 = I 52 t ∧ I (ta D t + 1) 2 = I 53 t ∧ I (ta D t + 1) 3 = I 54 t)
/-- trips -/
def pa (D : Dn) (t : Nat) : Nat := D.1 7 t - 1
def GP (D : Dn) (I : II) : Prop := (isN (I 38 22) 6 ∧ I 0 4 = I 38 22) ∧ ∀ t, t < nP I →
  (78 ≤ D.1 7 t ∧ pa D t < D.2.2.2 ∧ D.2.1 (pa D t) = 8) ∧
  (isN (I 56 t) 15 ∧ nx (I 56 t) < nS I ∧ isN (I 57 t) 15 ∧ nx (I 57 t) < nS I ∧ isN (I 58 t) 1439 ∧ isN (I 59 t) 30 ∧ isN (I 60 t) 3) ∧
  (I (pa D t) 0 = I 56 t ∧ I (pa D t) 1 = I 57 t ∧ I (pa D t) 2 = I 58 t ∧ I (pa D t) 3 = I 59 t ∧ I (pa D t) 4 = I 60 t)
/-- offered lines -/
def oL (I : II) (k : Nat) : Nat := nx (I 63 k)
def GO (D : Dn) (I : II) : Prop := (isN (I 38 34) 4 ∧ I 0 7 = I 38 34) ∧ (∀ k, k < nO I → isN (I 63 k) 13 ∧ oL I k < nL I ∧ D.1 12 k = D.1 5 (oL I k)) ∧ ∀ j k, j < k → k < nO I → oL I j ≠ oL I k
/-- depots -/
def da (D : Dn) (t : Nat) : Nat := D.1 13 t - 1
def GD (D : Dn) (I : II) : Prop := (isN (I 38 36) 4 ∧ I 0 9 = I 38 36) ∧ ∀ t, t < nD I →
  (78 ≤ D.1 13 t ∧ da D t < D.2.2.2 ∧ D.2.1 (da D t) = 0) ∧ (isN (I 64 t) 40 ∧ isN (I 65 t) 40 ∧ isN (I 66 t) 9) ∧
  (I (da D t) 0 = I 64 t ∧ I (da D t) 1 = I 65 t ∧ I (da D t) 2 = I 66 t)
/-- drivers, boards, seats, trace, fault; how many of the first n bits are set -/

def pcn (m : Nat) : Nat → Nat
  | 0 => 0
  | n + 1 => pcn m n + (m >>> n) % 2
def GR (I : II) : Prop := (isN (I 38 45) 6 ∧ I 0 11 = I 38 45) ∧ (∀ d, d < 6 → I 14 d = I 69 d ∧ isN (I 69 d) 16383) ∧ (I 0 13 = I 38 47 ∧ isN (I 38 47) 65535 ∧ nx (I 38 47) < 2 ^ nS I ∧ pcn (nx (I 38 47)) 16 ≤ 6) ∧ (isN (I 38 51) 99 ∧ 1 ≤ nx (I 38 51) ∧ I 0 15 = I 38 51) ∧ I 0 17 = I 38 56 ∧ I 0 18 = I 38 0
/-- sheets -/
def GH (I : II) : Prop := ∀ k, k < 4 → (I (30 + 2 * k) 0 = 0 ∧ I 73 k = -1) ∨ (I (30 + 2 * k) 0 = 1 ∧ (isN (I 73 k) 60 ∧ I (30 + 2 * k) 2 = I 73 k) ∧ (isN (I 74 k) 2 ∧ I (30 + 2 * k) 1 = I 74 k) ∧ ∀ i, i < nx (I 73 k) → I (31 + 2 * k) i = I 75 (60 * k + i))
def Inv (D : Dn) (I : II) : Prop := 77 ≤ D.2.2.2 ∧ GS I ∧ GL D I ∧ GT D I ∧ GP D I ∧ GO D I ∧ GD D I ∧ GR I ∧ GH I
