/-! What the class's methods do to the picture of its memory: functions that follow the Java. -/
def faL (Λ : Lam) (t : Nat) : Nat := match Λ t with
  | some (.inr (_, tm)) => (match tm[1]? with
    | some (some (some f)) => f
    | _ => 0)
  | _ => 0
def nfL (Λ : Lam) (t : Nat) : Nat := match Λ (faL Λ t) with
  | some (.inl (_, n, _)) => n
  | _ => 0
def isArr (Λ : Lam) (q n kd : Nat) : Prop := ∃ cA : ClassId, Λ q = some (.inl (cA, n, kd))
def isT (Λ : Lam) (t : Nat) : Prop := Λ t = some (.inr (2, [none, some (some (faL Λ t)), none, none, none, none, none])) ∧ isArr Λ (faL Λ t) (nfL Λ t) 103 ∧ nfL Λ t ≤ 3
def isRow (Λ : Lam) (b q n : Nat) : Prop := Λ b = some (.inr (1, [some (some q), none])) ∧ isArr Λ q n 101
def LayC (Λ : Lam) (c : Nat → Nat) : Prop := Λ (c 0) = some (.inr (3, [some (some (c 1)), some (some (c 2)), some (some (c 4)), some (some (c 6)), none, none, none, none])) ∧ isArr Λ (c 1) 6 100 ∧ isRow Λ (c 2) (c 3) 20 ∧ Λ (c 4) = some (.inr (0, [some (some (c 5))])) ∧ isArr Λ (c 5) 64 102 ∧ isRow Λ (c 6) (c 7) 84
-- the reference's layout
def mArr : List (Nat × Nat) := [(1, 90), (2, 90), (3, 90), (4, 270), (5, 90), (6, 90), (7, 6), (8, 20), (9, 20), (10, 90), (51, 90), (52, 90), (53, 8), (54, 8), (55, 90), (56, 90), (57, 8)]
def LayM (Λ : Lam) (r : Nat → Nat) : Prop := Λ (r 0) = some (.inr (4, [some (some (r 1)), some (some (r 2)), some (some (r 3)), some (some (r 4)), some (some (r 5)), some (some (r 6)), some (some (r 51)), some (some (r 52)), some (some (r 7)), some (some (r 53)), some (some (r 54)), none, none, none, some (some (r 8)), none, some (some (r 9)), some (some (r 55)), some (some (r 56)), some (some (r 57)), some (some (r 10)), none])) ∧ ∀ kd n, (kd, n) ∈ mArr → isArr Λ (r kd) n kd
