/-! numbers of a row, as they are counted -/
def pa_N (r : pa_R) (k : Nat) : Nat := (r k).toNatClampNeg
def pa_NN (x : Int32) : Prop := ¬ x < 0
theorem pa_NNe {x : Int32} (h : pa_NN x) : x = nI x.toNatClampNeg ∧ x.toNatClampNeg < 2 ^ 31 := by
  obtain ⟨j, hj, e⟩ := nI_of h
  rw [e, nI_clamp hj]
  exact ⟨rfl, hj⟩
theorem pa_NNn {j : Nat} (h : j < 2 ^ 31) : pa_NN (nI j) := nI_pos h
theorem pa_N_upd_self (r : pa_R) (k : Nat) (v : Int32) : pa_N (upd r k v) k = v.toNatClampNeg := by unfold pa_N; rw [upd_self]
theorem pa_N_upd_ne (r : pa_R) {k j : Nat} (v : Int32) (h : j ≠ k) : pa_N (upd r k v) j = pa_N r j := by unfold pa_N; rw [upd_ne _ _ h]
def pa_sN (r : pa_R) (a : Nat) : Nat → Nat
  | 0 => 0
  | n + 1 => pa_sN r a n + pa_N r (a + n)
theorem pa_sum_upd_ne {r : pa_R} {k : Nat} {v : Int32} {a : Nat} : ∀ {n : Nat}, (k < a ∨ a + n ≤ k) → pa_sum (upd r k v) a n = pa_sum r a n
  | 0, _ => rfl
  | n + 1, h => by rw [pa_sum, pa_sum, pa_sum_upd_ne (by omega), upd_ne _ _ (by omega)]
theorem pa_sum_upd {r : pa_R} {k : Nat} {v : Int32} {a : Nat} : ∀ {n : Nat}, a ≤ k → k < a + n → pa_sum (upd r k v) a n = pa_sum r a n - r k + v
  | 0, h1, h2 => by omega
  | n + 1, h1, h2 => by
    rw [pa_sum, pa_sum]
    by_cases h : k = a + n
    · subst h
      rw [pa_sum_upd_ne (by omega), upd_self, Int32.add_sub_cancel]
    · rw [pa_sum_upd h1 (by omega), upd_ne _ _ (Ne.symm h), Int32.add_assoc (pa_sum r a n - r k), Int32.add_comm v, ← Int32.add_assoc]
      congr 1
      rw [Int32.sub_eq_add_neg, Int32.sub_eq_add_neg, Int32.add_assoc, Int32.add_comm (-r k), ← Int32.add_assoc]
theorem pa_sN_upd_ne {r : pa_R} {k : Nat} {v : Int32} {a : Nat} : ∀ {n : Nat}, (k < a ∨ a + n ≤ k) → pa_sN (upd r k v) a n = pa_sN r a n
  | 0, _ => rfl
  | n + 1, h => by rw [pa_sN, pa_sN, pa_sN_upd_ne (by omega), pa_N_upd_ne _ _ (by omega)]
theorem pa_sN_upd {r : pa_R} {k : Nat} {v : Int32} {a : Nat} : ∀ {n : Nat}, a ≤ k → k < a + n → pa_sN (upd r k v) a n + pa_N r k = pa_sN r a n + v.toNatClampNeg
  | 0, h1, h2 => by omega
  | n + 1, h1, h2 => by
    rw [pa_sN, pa_sN]
    by_cases h : k = a + n
    · subst h
      rw [pa_sN_upd_ne (by omega), pa_N_upd_self]; omega
    · have := pa_sN_upd (r := r) (v := v) h1 (show k < a + n by omega)
      rw [pa_N_upd_ne _ _ (Ne.symm h)]; omega
theorem pa_sN_ge {r : pa_R} {a k : Nat} : ∀ {n : Nat}, a ≤ k → k < a + n → pa_N r k ≤ pa_sN r a n
  | 0, h1, h2 => by omega
  | n + 1, h1, h2 => by
    rw [pa_sN]
    by_cases h : k = a + n
    · subst h; omega
    · have := pa_sN_ge (r := r) h1 (show k < a + n by omega); omega
theorem pa_sum_nI {r : pa_R} {a : Nat} : ∀ {n : Nat}, (∀ i, i < n → pa_NN (r (a + i))) → pa_sum r a n = nI (pa_sN r a n)
  | 0, _ => nI_0.symm
  | n + 1, h => by
    rw [pa_sum, pa_sN, pa_sum_nI (fun i hi => h i (by omega)), ← nI_add]
    congr 1
    exact (pa_NNe (h n (by omega))).1
/-- a family of places keeps what is said of it -/
theorem pa_fam {P : Int32 → Prop} {r : pa_R} {k a n : Nat} {v : Int32} (h : ∀ i, i < n → P (r (a + i))) (hv : a ≤ k → k < a + n → P v) : ∀ i, i < n → P (upd r k v (a + i)) := by
  intro i hi
  by_cases e : a + i = k
  · rw [e, upd_self]; exact hv (by omega) (by omega)
  · rw [upd_ne _ _ e]; exact h i hi
/-- dirty pages, pages in flight: none below 0, none beyond, 999 in all -/
def pa_IA (r : pa_R) (D F : Nat) : Prop := (∀ f, f < 12 → pa_NN (r (1 + f))) ∧ (∀ d, d < 4 → pa_NN (r (29 + d))) ∧ pa_sN r 1 12 + pa_sN r 29 4 ≤ 999 ∧ (∀ f, F ≤ f → f < 12 → r (1 + f) = 0) ∧ (∀ d, D ≤ d → d < 4 → r (29 + d) = 0)
def pa_IT (r : pa_R) : Prop := ∀ d, d < 4 → pa_NN (r (41 + d)) ∧ (r (41 + d)).toNatClampNeg ≤ 12
theorem pa_all_nI {r : pa_R} {D F : Nat} (h : pa_IA r D F) : pa_all r = nI (pa_sN r 1 12 + pa_sN r 29 4) := by
  unfold pa_all
  rw [pa_sum_nI h.1, pa_sum_nI h.2.1, nI_add]
/-- chunk, dirty, room: whichever is least -/
def pa_n (room dirty ch : Int32) : Int32 := if (if room < dirty then room else dirty) < ch then (if room < dirty then room else dirty) else ch
theorem pa_n_eq {room dirty ch x : Int32} (h : x = room ∨ x = dirty ∨ x = ch) (h1 : x ≤ room) (h2 : x ≤ dirty) (h3 : x ≤ ch) : pa_n room dirty ch = x := by
  unfold pa_n
  by_cases c1 : room < dirty
  · rw [if_pos c1]
    by_cases c2 : room < ch
    · rw [if_pos c2]
      rcases h with rfl | rfl | rfl
      · rfl
      · exact absurd c1 (Int32.not_lt.mpr h1)
      · exact absurd c2 (Int32.not_lt.mpr h1)
    · rw [if_neg c2]
      rcases h with rfl | rfl | rfl
      · exact Int32.le_antisymm (Int32.not_lt.mp c2) h3
      · exact absurd c1 (Int32.not_lt.mpr h1)
      · rfl
  · rw [if_neg c1]
    by_cases c2 : dirty < ch
    · rw [if_pos c2]
      rcases h with rfl | rfl | rfl
      · exact Int32.le_antisymm (Int32.not_lt.mp c1) h2
      · rfl
      · exact absurd c2 (Int32.not_lt.mpr h2)
    · rw [if_neg c2]
      rcases h with rfl | rfl | rfl
      · exact Int32.le_antisymm (Int32.le_trans (Int32.not_lt.mp c2) (Int32.not_lt.mp c1)) h3
      · exact Int32.le_antisymm (Int32.not_lt.mp c2) h3
      · rfl
theorem pa_n_nat {a b c : Nat} (ha : a < 2 ^ 31) (hb : b < 2 ^ 31) (hc : c < 2 ^ 31) : pa_n (nI a) (nI b) (nI c) = nI (min (min a b) c) := by
  refine pa_n_eq ?_ (nI_le (by omega) ha) (nI_le (by omega) hb) (nI_le (by omega) hc)
  rcases (show min (min a b) c = a ∨ min (min a b) c = b ∨ min (min a b) c = c by omega) with e | e | e
  · exact Or.inl (by rw [e])
  · exact Or.inr (Or.inl (by rw [e]))
  · exact Or.inr (Or.inr (by rw [e]))
/-- one taking, and as many as there are -/
def pa_take (h r : pa_R) (d F : Nat) (f : Int32) : pa_R :=
  upd (upd (if pa_old h r (nI d) (-1) 0 F = -1 then upd r (41 + d) (f + 1) else r) (1 + f.toNatClampNeg) (r (1 + f.toNatClampNeg) - pa_n (h 16 - r (29 + d)) (r (1 + f.toNatClampNeg)) (h 15))) (29 + d) (r (29 + d) + pa_n (h 16 - r (29 + d)) (r (1 + f.toNatClampNeg)) (h 15))
def pa_fill (h : pa_R) (d F : Nat) : Nat → pa_R → pa_R
  | 0, r => r
  | m + 1, r => if h 16 ≤ r (29 + d) then r else if pa_next h r d (r (41 + d)).toNatClampNeg F = -1 then r else pa_fill h d F m (pa_take h r d F (pa_next h r d (r (41 + d)).toNatClampNeg F))
theorem pa_nextI {h r : pa_R} {d t F : Nat} : pa_oldI h r (nI d) (pa_next h r d t F) F := by
  unfold pa_next
  by_cases c1 : pa_old h r (nI d) (-1) 0 F = -1
  · rw [if_pos c1]
    by_cases c2 : h 11 < pa_all r
    · rw [if_pos c2]
      by_cases hF : 0 < F
      · exact pa_turnI hF F 0
      · have : F = 0 := by omega
        subst this
        exact Or.inl rfl
    · rw [if_neg c2]; exact Or.inl rfl
  · rw [if_neg c1]
    have := pa_oldE (h := h) (r := r) (d := nI d) F 0 (-1) (Or.inl rfl)
    rw [Nat.zero_add] at this
    exact this
/-- what a taking does, in numbers -/
theorem pa_take_num {h r : pa_R} {D F W d j : Nat} (hI : pa_HI h D F W) (hA : pa_IA r D F) (hd : d < D) (hj : j < F) (hp : 0 < r (1 + j)) (hq : ¬ h 16 ≤ r (29 + d)) :
    ∃ n fl : Nat, 1 ≤ n ∧ r (29 + d) = nI fl ∧ (∃ qu, h 16 = nI qu ∧ fl + n ≤ qu ∧ qu ≤ 99) ∧ pa_n (h 16 - r (29 + d)) (r (1 + j)) (h 15) = nI n ∧ (∃ a, r (1 + j) = nI a ∧ n ≤ a ∧ a < 2 ^ 31) := by
  have hD := hI.1.2
  have hF := hI.2.1.2
  obtain ⟨-, -, -, -, -, li, bg, ag, pa, wi, ch, qu, -, -, -, -, -, ⟨h15, hc1, hc2⟩, ⟨h16, hq1, hq2⟩⟩ := hI
  obtain ⟨ea, ha⟩ := pa_NNe (hA.1 j (by omega))
  obtain ⟨ef, hf⟩ := pa_NNe (hA.2.1 d (by omega))
  generalize (r (1 + j)).toNatClampNeg = a at ea ha
  generalize (r (29 + d)).toNatClampNeg = fl at ef hf
  have hlt : fl < qu := by
    rw [h16, ef] at hq
    have := mt (fun z => (nI_leI (by omega) hf).mpr z) hq
    omega
  have ha0 : 1 ≤ a := by
    rw [ea] at hp
    rcases Nat.eq_zero_or_pos a with e | e
    · subst e; rw [nI_0] at hp; exact absurd hp (by decide)
    · exact e
  have hs : h 16 - r (29 + d) = nI (qu - fl) := by
    rw [h16, ef, show qu = (qu - fl) + fl by omega, ← nI_add, Int32.add_sub_cancel]
    congr 1; omega
  refine ⟨min (min (qu - fl) a) ch, fl, by omega, ef, ⟨qu, h16, by omega, hq2⟩, ?_, ⟨a, ea, by omega, ha⟩⟩
  rw [hs, ea, h15]
  exact pa_n_nat (by omega) ha (by omega)
