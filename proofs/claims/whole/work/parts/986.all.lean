/-! all scripts -/
theorem pq_all : ∀ (L : Nat) (xs : Nat → Int32), L ≤ 3072 → pq_ok L xs := fun L xs hL => pz_im pw_first (fun _ σ1 h1 => pz_im h1 (fun _ σ2 w => pw_loop (fun T σ p1 w => pw_host w) hL 513 0 ps_N σ2 (by decide) (by unfold ps_N; decide) w))
