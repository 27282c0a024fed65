theorem pq_all : ∀ (L : Nat) (xs : Nat → Int32), L ≤ 3072 → pq_ok L xs := sorry
