theorem law_pure : ∀ (L : Nat) (xs : Nat → Int32), L ≤ 2048 → LawP L xs := sorry
