/-! numbers of a row, as they are counted -/
def pa_N (r : pa_R) (k : Nat) : Nat := (r k).toNatClampNeg
def pa_NN (x : Int32) : Prop := ¬ x < 0
theorem pa_NNe {x : Int32} (h : pa_NN x) : x = nI x.toNatClampNeg ∧ x.toNatClampNeg < 2 ^ 31 := by
  obtain ⟨j, hj, e⟩ := nI_of h
  rw [e, nI_clamp hj]
  exact ⟨rfl, hj⟩
theorem pa_NNn {j : Nat} (h : j < 2 ^ 31) : pa_NN (nI j) := nI_pos h
theorem pa_N_upd_self (r : pa_R) (k : Nat) (v : Int32) : pa_N (upd r k v) k = v.toNatClampNeg := by unfold pa_N; rw [upd_self]
theorem pa_N_upd_ne (r : pa_R) {k j : Nat} (v : Int32) (h : j ≠ k) : pa_N (upd r k v) j = pa_N r j := by unfold pa_N; rw [upd_ne _ _ h]
def pa_sN (r : pa_R) (a : Nat) : Nat → Nat
  | 0 => 0
  | n + 1 => pa_sN r a n + pa_N r (a + n)
theorem pa_sum_upd_ne {r : pa_R} {k : Nat} {v : Int32} {a : Nat} : ∀ {n : Nat}, (k < a ∨ a + n ≤ k) → pa_sum (upd r k v) a n = pa_sum r a n
  | 0, _ => rfl
  | n + 1, h => by rw [pa_sum, pa_sum, pa_sum_upd_ne (by omega), upd_ne _ _ (by omega)]
theorem pa_sum_upd {r : pa_R} {k : Nat} {v : Int32} {a : Nat} : ∀ {n : Nat}, a ≤ k → k < a + n → pa_sum (upd r k v) a n = pa_sum r a n - r k + v
  | 0, h1, h2 => by omega
  | n + 1, h1, h2 => by
    rw [pa_sum, pa_sum]
    by_cases h : k = a + n
    · subst h
      rw [pa_sum_upd_ne (by omega), upd_self, Int32.add_sub_cancel]
    · rw [pa_sum_upd h1 (by omega), upd_ne _ _ (Ne.symm h), Int32.add_assoc (pa_sum r a n - r k), Int32.add_comm v, ← Int32.add_assoc]
      congr 1
      rw [Int32.sub_eq_add_neg, Int32.sub_eq_add_neg, Int32.add_assoc, Int32.add_comm (-r k), ← Int32.add_assoc]
theorem pa_sN_upd_ne {r : pa_R} {k : Nat} {v : Int32} {a : Nat} : ∀ {n : Nat}, (k < a ∨ a + n ≤ k) → pa_sN (upd r k v) a n = pa_sN r a n
  | 0, _ => rfl
  | n + 1, h => by rw [pa_sN, pa_sN, pa_sN_upd_ne (by omega), pa_N_upd_ne _ _ (by omega)]
theorem pa_sN_upd {r : pa_R} {k : Nat} {v : Int32} {a : Nat} : ∀ {n : Nat}, a ≤ k → k < a + n → pa_sN (upd r k v) a n + pa_N r k = pa_sN r a n + v.toNatClampNeg
  | 0, h1, h2 => by omega
  | n + 1, h1, h2 => by
    rw [pa_sN, pa_sN]
    by_cases h : k = a + n
    · subst h
      rw [pa_sN_upd_ne (by omega), pa_N_upd_self]; omega
    · have := pa_sN_upd (r := r) (v := v) h1 (show k < a + n by omega)
      rw [pa_N_upd_ne _ _ (Ne.symm h)]; omega
theorem pa_sN_ge {r : pa_R} {a k : Nat} : ∀ {n : Nat}, a ≤ k → k < a + n → pa_N r k ≤ pa_sN r a n
  | 0, h1, h2 => by omega
  | n + 1, h1, h2 => by
    rw [pa_sN]
    by_cases h : k = a + n
    · subst h; omega
    · have := pa_sN_ge (r := r) h1 (show k < a + n by omega); omega
theorem pa_sum_nI {r : pa_R} {a : Nat} : ∀ {n : Nat}, (∀ i, i < n → pa_NN (r (a + i))) → pa_sum r a n = nI (pa_sN r a n)
  | 0, _ => nI_0.symm
  | n + 1, h => by
    rw [pa_sum, pa_sN, pa_sum_nI (fun i hi => h i (by omega)), ← nI_add]
    congr 1
    exact (pa_NNe (h n (by omega))).1
/-- a family of places keeps what is said of it -/
theorem pa_fam {P : Int32 → Prop} {r : pa_R} {k a n : Nat} {v : Int32} (h : ∀ i, i < n → P (r (a + i))) (hv : a ≤ k → k < a + n → P v) : ∀ i, i < n → P (upd r k v (a + i)) := by
  intro i hi
  by_cases e : a + i = k
  · rw [e, upd_self]; exact hv (by omega) (by omega)
  · rw [upd_ne _ _ e]; exact h i hi
/-- dirty pages, pages in flight: none below 0, none beyond, 999 in all -/
def pa_IA (r : pa_R) (D F : Nat) : Prop := (∀ f, f < 12 → pa_NN (r (1 + f))) ∧ (∀ d, d < 4 → pa_NN (r (29 + d))) ∧ pa_sN r 1 12 + pa_sN r 29 4 ≤ 999 ∧ (∀ f, F ≤ f → f < 12 → r (1 + f) = 0) ∧ (∀ d, D ≤ d → d < 4 → r (29 + d) = 0)
def pa_IT (r : pa_R) : Prop := ∀ d, d < 4 → pa_NN (r (41 + d)) ∧ (r (41 + d)).toNatClampNeg ≤ 12
theorem pa_all_nI {r : pa_R} {D F : Nat} (h : pa_IA r D F) : pa_all r = nI (pa_sN r 1 12 + pa_sN r 29 4) := by
  unfold pa_all
  rw [pa_sum_nI h.1, pa_sum_nI h.2.1, nI_add]
/-- chunk, dirty, room: whichever is least -/
def pa_n (room dirty ch : Int32) : Int32 := if (if room < dirty then room else dirty) < ch then (if room < dirty then room else dirty) else ch
theorem pa_n_eq {room dirty ch x : Int32} (h : x = room ∨ x = dirty ∨ x = ch) (h1 : x ≤ room) (h2 : x ≤ dirty) (h3 : x ≤ ch) : pa_n room dirty ch = x := by
  unfold pa_n
  by_cases c1 : room < dirty
  · rw [if_pos c1]
    by_cases c2 : room < ch
    · rw [if_pos c2]
      rcases h with rfl | rfl | rfl
      · rfl
      · exact absurd c1 (Int32.not_lt.mpr h1)
      · exact absurd c2 (Int32.not_lt.mpr h1)
    · rw [if_neg c2]
      rcases h with rfl | rfl | rfl
      · exact Int32.le_antisymm (Int32.not_lt.mp c2) h3
      · exact absurd c1 (Int32.not_lt.mpr h1)
      · rfl
  · rw [if_neg c1]
    by_cases c2 : dirty < ch
    · rw [if_pos c2]
      rcases h with rfl | rfl | rfl
      · exact Int32.le_antisymm (Int32.not_lt.mp c1) h2
      · rfl
      · exact absurd c2 (Int32.not_lt.mpr h2)
    · rw [if_neg c2]
      rcases h with rfl | rfl | rfl
      · exact Int32.le_antisymm (Int32.le_trans (Int32.not_lt.mp c2) (Int32.not_lt.mp c1)) h3
      · exact Int32.le_antisymm (Int32.not_lt.mp c2) h3
      · rfl
theorem pa_n_nat {a b c : Nat} (ha : a < 2 ^ 31) (hb : b < 2 ^ 31) (hc : c < 2 ^ 31) : pa_n (nI a) (nI b) (nI c) = nI (min (min a b) c) := by
  refine pa_n_eq ?_ (nI_le (by omega) ha) (nI_le (by omega) hb) (nI_le (by omega) hc)
  rcases (show min (min a b) c = a ∨ min (min a b) c = b ∨ min (min a b) c = c by omega) with e | e | e
  · exact Or.inl (by rw [e])
  · exact Or.inr (Or.inl (by rw [e]))
  · exact Or.inr (Or.inr (by rw [e]))
/-- one taking, and as many as there are -/
def pa_take (h r : pa_R) (d F : Nat) (f : Int32) : pa_R :=
  upd (upd (if pa_old h r (nI d) (-1) 0 F = -1 then upd r (41 + d) (f + 1) else r) (1 + f.toNatClampNeg) (r (1 + f.toNatClampNeg) - pa_n (h 16 - r (29 + d)) (r (1 + f.toNatClampNeg)) (h 15))) (29 + d) (r (29 + d) + pa_n (h 16 - r (29 + d)) (r (1 + f.toNatClampNeg)) (h 15))
def pa_fill (h : pa_R) (d F : Nat) : Nat → pa_R → pa_R
  | 0, r => r
  | m + 1, r => if h 16 ≤ r (29 + d) then r else if pa_next h r d (r (41 + d)).toNatClampNeg F = -1 then r else pa_fill h d F m (pa_take h r d F (pa_next h r d (r (41 + d)).toNatClampNeg F))
theorem pa_nextI {h r : pa_R} {d t F : Nat} : pa_oldI h r (nI d) (pa_next h r d t F) F := by
  unfold pa_next
  by_cases c1 : pa_old h r (nI d) (-1) 0 F = -1
  · rw [if_pos c1]
    by_cases c2 : h 11 < pa_all r
    · rw [if_pos c2]
      by_cases hF : 0 < F
      · exact pa_turnI hF F 0
      · have : F = 0 := by omega
        subst this
        exact Or.inl rfl
    · rw [if_neg c2]; exact Or.inl rfl
  · rw [if_neg c1]
    have := pa_oldE (h := h) (r := r) (d := nI d) F 0 (-1) (Or.inl rfl)
    rw [Nat.zero_add] at this
    exact this
/-- what a taking does, in numbers -/
theorem pa_take_num {h r : pa_R} {D F W d j : Nat} (hI : pa_HI h D F W) (hA : pa_IA r D F) (hd : d < D) (hj : j < F) (hp : 0 < r (1 + j)) (hq : ¬ h 16 ≤ r (29 + d)) :
    ∃ n fl : Nat, 1 ≤ n ∧ r (29 + d) = nI fl ∧ (∃ qu, h 16 = nI qu ∧ fl + n ≤ qu ∧ qu ≤ 99) ∧ pa_n (h 16 - r (29 + d)) (r (1 + j)) (h 15) = nI n ∧ (∃ a, r (1 + j) = nI a ∧ n ≤ a ∧ a < 2 ^ 31) := by
  have hD := hI.1.2
  have hF := hI.2.1.2
  obtain ⟨-, -, -, -, -, li, bg, ag, pa, wi, ch, qu, -, -, -, -, -, ⟨h15, hc1, hc2⟩, ⟨h16, hq1, hq2⟩⟩ := hI
  obtain ⟨ea, ha⟩ := pa_NNe (hA.1 j (by omega))
  obtain ⟨ef, hf⟩ := pa_NNe (hA.2.1 d (by omega))
  generalize (r (1 + j)).toNatClampNeg = a at ea ha
  generalize (r (29 + d)).toNatClampNeg = fl at ef hf
  have hlt : fl < qu := by
    rw [h16, ef] at hq
    have := mt (fun z => (nI_leI (by omega) hf).mpr z) hq
    omega
  have ha0 : 1 ≤ a := by
    rw [ea] at hp
    rcases Nat.eq_zero_or_pos a with e | e
    · subst e; rw [nI_0] at hp; exact absurd hp (by decide)
    · exact e
  have hs : h 16 - r (29 + d) = nI (qu - fl) := by
    rw [h16, ef, show qu = (qu - fl) + fl by omega, ← nI_add, Int32.add_sub_cancel]
    congr 1; omega
  refine ⟨min (min (qu - fl) a) ch, fl, by omega, ef, ⟨qu, h16, by omega, hq2⟩, ?_, ⟨a, ea, by omega, ha⟩⟩
  rw [hs, ea, h15]
  exact pa_n_nat (by omega) ha (by omega)
theorem nI_sub {a b : Nat} (h : b ≤ a) : nI a - nI b = nI (a - b) := by
  rw [show nI a = nI (a - b) + nI b by rw [nI_add]; congr 1; omega, Int32.add_sub_cancel]
def pa_don (h r : pa_R) (d : Int32) : Nat → Int32
  | 0 => 0
  | n + 1 => pa_don h r d n + (if h (17 + n) = d then r (1 + n) else 0)
theorem pa_don_ne {h r : pa_R} {d : Int32} {k : Nat} {v : Int32} : ∀ {n : Nat}, (k < 1 ∨ 1 + n ≤ k) → pa_don h (upd r k v) d n = pa_don h r d n
  | 0, _ => rfl
  | n + 1, hk => by rw [pa_don, pa_don, pa_don_ne (by omega), upd_ne _ _ (by omega)]
theorem pa_don_upd {h r : pa_R} {d : Int32} {j : Nat} {v : Int32} : ∀ {n : Nat}, j < n → pa_don h (upd r (1 + j) v) d n = pa_don h r d n + (if h (17 + j) = d then v - r (1 + j) else 0)
  | 0, hk => by omega
  | n + 1, hk => by
    rw [pa_don, pa_don]
    by_cases e : j = n
    · subst e
      rw [pa_don_ne (by omega), upd_self, Int32.add_assoc]
      congr 1
      by_cases c : h (17 + j) = d
      · rw [if_pos c, if_pos c, if_pos c, Int32.add_comm, Int32.sub_add_cancel]
      · rw [if_neg c, if_neg c, if_neg c]; rfl
    · rw [pa_don_upd (by omega), upd_ne _ _ (by omega), Int32.add_assoc, Int32.add_assoc]
      congr 1
      exact Int32.add_comm _ _
theorem pa_take_at {h r : pa_R} {d F k : Nat} {f : Int32} (h1 : k ≠ 29 + d) (h2 : k ≠ 1 + f.toNatClampNeg) (h3 : k ≠ 41 + d) : pa_take h r d F f k = r k := by
  unfold pa_take
  rw [upd_ne _ _ h1, upd_ne _ _ h2]
  by_cases c : pa_old h r (nI d) (-1) 0 F = -1
  · rw [if_pos c, upd_ne _ _ h3]
  · rw [if_neg c]
theorem pa_takeI {h r : pa_R} {D F W d j : Nat} (hI : pa_HI h D F W) (hA : pa_IA r D F) (hT : pa_IT r) (hd : d < D) (hj : j < F) (hp : 0 < r (1 + j)) (hon : h (17 + j) = nI d) (hq : ¬ h 16 ≤ r (29 + d)) :
    pa_IA (pa_take h r d F (nI j)) D F ∧ pa_IT (pa_take h r d F (nI j)) ∧ pa_all (pa_take h r d F (nI j)) = pa_all r ∧ (∀ x, x < 4 → pa_don h (pa_take h r d F (nI j)) (nI x) F = if x = d then pa_don h r (nI d) F - pa_n (h 16 - r (29 + d)) (r (1 + j)) (h 15) else pa_don h r (nI x) F) ∧ (∃ n, 1 ≤ n ∧ pa_N (pa_take h r d F (nI j)) (29 + d) = pa_N r (29 + d) + n) := by
  have hD := hI.1.2
  have hF := hI.2.1.2
  obtain ⟨n, fl, h1, ef, ⟨qu, e16, hqu, hqu2⟩, en, ⟨a, ea, hna, ha⟩⟩ := pa_take_num hI hA hd hj hp hq
  have e0 : pa_take h r d F (nI j) = upd (upd (if pa_old h r (nI d) (-1) 0 F = -1 then upd r (41 + d) (nI j + 1) else r) (1 + j) (nI (a - n))) (29 + d) (nI (fl + n)) := by
    unfold pa_take
    rw [nI_clamp (show j < 2 ^ 31 by omega), en, ea, ef, nI_sub hna, nI_add]
  have nfl : pa_N r (29 + d) = fl := by unfold pa_N; rw [ef, nI_clamp (by omega)]
  have na : pa_N r (1 + j) = a := by unfold pa_N; rw [ea, nI_clamp ha]
  obtain ⟨r1, er1, hr1⟩ : ∃ r1, r1 = (if pa_old h r (nI d) (-1) 0 F = -1 then upd r (41 + d) (nI j + 1) else r) ∧ (r1 = r ∨ r1 = upd r (41 + d) (nI j + 1)) := by
    refine ⟨_, rfl, ?_⟩
    by_cases c : pa_old h r (nI d) (-1) 0 F = -1
    · rw [if_pos c]; exact Or.inr rfl
    · rw [if_neg c]; exact Or.inl rfl
  rw [e0, ← er1]
  have hr1n : ∀ k, k ≠ 41 + d → r1 k = r k := by
    intro k hk
    rcases hr1 with e | e
    · rw [e]
    · rw [e, upd_ne _ _ hk]
  have hA1 : pa_IA r1 D F := by
    rcases hr1 with e | e
    · rw [e]; exact hA
    · rw [e]
      refine ⟨pa_fam hA.1 (by omega), pa_fam hA.2.1 (by omega), ?_, fun f h3 h4 => ?_, fun d' h3 h4 => ?_⟩
      · rw [pa_sN_upd_ne (by omega), pa_sN_upd_ne (by omega)]; exact hA.2.2.1
      · rw [upd_ne _ _ (by omega)]; exact hA.2.2.2.1 f h3 h4
      · rw [upd_ne _ _ (by omega)]; exact hA.2.2.2.2 d' h3 h4
  have hT1 : pa_IT r1 := by
    rcases hr1 with e | e
    · rw [e]; exact hT
    · rw [e]
      refine pa_fam (P := fun x => pa_NN x ∧ x.toNatClampNeg ≤ 12) hT (fun _ _ => ?_)
      rw [nI_1, nI_clamp (by omega)]
      exact ⟨pa_NNn (by omega), by omega⟩
  have s1 : pa_sN r1 1 12 = pa_sN r 1 12 := by
    rcases hr1 with e | e
    · rw [e]
    · rw [e, pa_sN_upd_ne (by omega)]
  have s2 : pa_sN r1 29 4 = pa_sN r 29 4 := by
    rcases hr1 with e | e
    · rw [e]
    · rw [e, pa_sN_upd_ne (by omega)]
  have n1 : pa_N r1 (29 + d) = fl := by unfold pa_N; rw [hr1n _ (by omega)]; exact nfl
  have n2 : pa_N r1 (1 + j) = a := by unfold pa_N; rw [hr1n _ (by omega)]; exact na
  have t1 : pa_sN (upd r1 (1 + j) (nI (a - n))) 1 12 + a = pa_sN r 1 12 + (a - n) := by
    have := pa_sN_upd (r := r1) (k := 1 + j) (v := nI (a - n)) (a := 1) (n := 12) (by omega) (by omega)
    rw [n2, s1, nI_clamp (by omega)] at this
    exact this
  have t2 : pa_sN (upd (upd r1 (1 + j) (nI (a - n))) (29 + d) (nI (fl + n))) 29 4 + fl = pa_sN r 29 4 + (fl + n) := by
    have := pa_sN_upd (r := upd r1 (1 + j) (nI (a - n))) (k := 29 + d) (v := nI (fl + n)) (a := 29) (n := 4) (by omega) (by omega)
    rw [pa_N_upd_ne _ _ (by omega), n1, pa_sN_upd_ne (r := r1) (k := 1 + j) (by omega), s2, nI_clamp (by omega)] at this
    exact this
  have t3 : pa_sN (upd (upd r1 (1 + j) (nI (a - n))) (29 + d) (nI (fl + n))) 1 12 = pa_sN (upd r1 (1 + j) (nI (a - n))) 1 12 := pa_sN_upd_ne (by omega)
  have hsum := hA.2.2.1
  have hA2 : pa_IA (upd (upd r1 (1 + j) (nI (a - n))) (29 + d) (nI (fl + n))) D F := by
    refine ⟨pa_fam (pa_fam hA1.1 (fun _ _ => pa_NNn (by omega))) (by omega), pa_fam (pa_fam hA1.2.1 (by omega)) (fun _ _ => pa_NNn (by omega)), ?_, fun f h3 h4 => ?_, fun d' h3 h4 => ?_⟩
    · rw [t3]; omega
    · rw [upd_ne _ _ (by omega), upd_ne _ _ (by omega)]; exact hA1.2.2.2.1 f h3 h4
    · rw [upd_ne _ _ (by omega), upd_ne _ _ (by omega)]; exact hA1.2.2.2.2 d' h3 h4
  refine ⟨hA2, ?_, ?_, ?_, n, h1, ?_⟩
  · exact fun d' hd' => pa_fam (P := fun x => pa_NN x ∧ x.toNatClampNeg ≤ 12) (pa_fam (P := fun x => pa_NN x ∧ x.toNatClampNeg ≤ 12) hT1 (by omega)) (by omega) d' hd'
  · rw [pa_all_nI hA2, pa_all_nI hA, t3]
    congr 1
    omega
  · intro x hx
    rw [pa_don_ne (by omega), pa_don_upd hj, hr1n _ (by omega), en]
    have e2 : ∀ y, pa_don h r1 y F = pa_don h r y F := by
      intro y
      rcases hr1 with e | e
      · rw [e]
      · rw [e, pa_don_ne (by omega)]
    rw [e2]
    by_cases c : x = d
    · subst c
      rw [if_pos hon, if_pos rfl, ea, ← nI_sub hna, Int32.sub_eq_add_neg (pa_don h r (nI x) F)]
      congr 1
      rw [Int32.sub_eq_add_neg, Int32.sub_eq_add_neg, Int32.add_assoc, Int32.add_comm (-nI n), ← Int32.add_assoc, Int32.add_right_neg, Int32.zero_add]
    · rw [if_neg (fun e => c ((nI_eq (by omega) (by omega)).mp (e.symm.trans hon))), if_neg c, Int32.add_zero]
  · rw [pa_N_upd_self, nI_clamp (by omega), nfl]
/-- as long as there is room: nothing else changes -/
theorem pa_fillI {h : pa_R} {D F W d : Nat} (hI : pa_HI h D F W) (hd : d < D) : ∀ (m : Nat) (r : pa_R), pa_IA r D F → pa_IT r → pa_IA (pa_fill h d F m r) D F ∧ pa_IT (pa_fill h d F m r) ∧ (∀ k, k < 1 ∨ (13 ≤ k ∧ k < 29) ∨ (33 ≤ k ∧ k < 41) ∨ 45 ≤ k → pa_fill h d F m r k = r k)
  | 0, r, hA, hT => ⟨hA, hT, fun _ _ => rfl⟩
  | m + 1, r, hA, hT => by
    rw [pa_fill]
    by_cases c1 : h 16 ≤ r (29 + d)
    · rw [if_pos c1]; exact ⟨hA, hT, fun _ _ => rfl⟩
    · rw [if_neg c1]
      by_cases c2 : pa_next h r d (r (41 + d)).toNatClampNeg F = -1
      · rw [if_pos c2]; exact ⟨hA, hT, fun _ _ => rfl⟩
      · rw [if_neg c2]
        obtain ⟨j, hj, e, hon, hp⟩ := (pa_nextI (h := h) (r := r) (d := d) (t := (r (41 + d)).toNatClampNeg) (F := F)).resolve_left c2
        rw [e]
        have hF := hI.2.1.2
        have hD := hI.1.2
        obtain ⟨a1, a2, -⟩ := pa_takeI hI hA hT hd hj hp hon c1
        obtain ⟨b1, b2, b3⟩ := pa_fillI hI hd m _ a1 a2
        refine ⟨b1, b2, fun k hk => ?_⟩
        rw [b3 k hk, pa_take_at (by omega) (by rw [nI_clamp (by omega)]; omega) (by omega)]
/-- more steps than there is room don't matter -/
theorem pa_fill_st {h : pa_R} {D F W d : Nat} (hI : pa_HI h D F W) (hd : d < D) : ∀ (m M : Nat) (r : pa_R), pa_IA r D F → pa_IT r → (∀ qu, h 16 = nI qu → qu ≤ 99 → qu ≤ pa_N r (29 + d) + m) → m ≤ M → pa_fill h d F m r = pa_fill h d F M r
  | 0, M, r, hA, hT, hm, hM => by
    obtain ⟨-, -, -, -, -, li, bg, ag, pa, wi, ch, qu, -, -, -, -, -, -, ⟨h16, hq1, hq2⟩⟩ := id hI
    have hD := hI.1.2
    obtain ⟨ef, hfl⟩ := pa_NNe (hA.2.1 d (by omega))
    have hm' := hm qu h16 hq2
    cases M with
    | zero => rfl
    | succ M =>
      rw [pa_fill, pa_fill, if_pos]
      rw [h16, ef]; exact nI_le (by unfold pa_N at hm'; omega) hfl
  | m + 1, M, r, hA, hT, hm, hM => by
    obtain ⟨M', rfl⟩ : ∃ M', M = M' + 1 := ⟨M - 1, by omega⟩
    rw [pa_fill, pa_fill]
    by_cases c1 : h 16 ≤ r (29 + d)
    · rw [if_pos c1, if_pos c1]
    · rw [if_neg c1, if_neg c1]
      by_cases c2 : pa_next h r d (r (41 + d)).toNatClampNeg F = -1
      · rw [if_pos c2, if_pos c2]
      · rw [if_neg c2, if_neg c2]
        obtain ⟨j, hj, e, hon, hp⟩ := (pa_nextI (h := h) (r := r) (d := d) (t := (r (41 + d)).toNatClampNeg) (F := F)).resolve_left c2
        rw [e]
        obtain ⟨a1, a2, -, -, n, hn, a5⟩ := pa_takeI hI hA hT hd hj hp hon c1
        exact pa_fill_st hI hd m M' _ a1 a2 (fun qu h1 h2 => by have := hm qu h1 h2; rw [a5]; omega) (by omega)
theorem pg_takeUp {D F W d : Nat} (hd : d < D) : ∀ (m fuel : Nat) (σ : ps_S), pa_HI (pg_h σ) D F W → pa_IA (pg_r D W σ) D F → pa_IT (pg_r D W σ) → (∀ qu, pg_h σ 16 = nI qu → qu ≤ 99 → qu ≤ pa_N (pg_r D W σ) (29 + d) + m) → m < fuel → ∃ z τ, qX9_takesUp_0 (nI d) fuel σ = some (z, τ) ∧ pg_r D W τ = pa_fill (pg_h σ) d F m (pg_r D W σ) ∧ pg_e D τ = pg_e D σ ∧ pg_fr σ τ := by
  intro m
  induction m with
  | zero =>
    intro fuel σ hI hA hT hm hf
    obtain ⟨f, rfl⟩ : ∃ f, fuel = f + 1 := ⟨fuel - 1, by omega⟩
    have hD := hI.1.2
    obtain ⟨-, -, -, -, -, li, bg, ag, pa, wi, ch, qu, -, -, -, -, -, -, ⟨h16, hq1, hq2⟩⟩ := id hI
    obtain ⟨ef, hfl⟩ := pa_NNe (hA.2.1 d (by omega))
    have hm' := hm qu h16 hq2
    rw [qX9_takesUp_0, pz_a29, if_pos (pz_ini (by omega) (by omega)), nI_clamp (by omega)]
    simp only [ps_let]
    rw [← pg_rd (D := D) (W := W) (σ := σ) (k := 29 + d) (by omega) (by omega) (by omega), ← pg_hd (σ := σ) (k := 16) (by omega)]
    have c : pg_h σ 16 ≤ pg_r D W σ (29 + d) := by
      rw [h16, ef]; exact nI_le (by unfold pa_N at hm'; omega) hfl
    rw [if_pos c]
    exact ⟨_, _, rfl, rfl, rfl, pg_fr.rf σ⟩
  | succ m ih =>
    intro fuel σ hI hA hT hm hf
    obtain ⟨f, rfl⟩ : ∃ f, fuel = f + 1 := ⟨fuel - 1, by omega⟩
    have hD := hI.1.2
    have hF := hI.2.1.2
    have e29 := pg_rd (D := D) (W := W) (σ := σ) (k := 29 + d) (by omega) (by omega) (by omega)
    have e16 := pg_hd (σ := σ) (k := 16) (by omega)
    have e15 := pg_hd (σ := σ) (k := 15) (by omega)
    rw [qX9_takesUp_0, pz_a29, if_pos (pz_ini (by omega) (by omega)), nI_clamp (by omega), pa_fill]
    simp only [ps_let]
    rw [← e29, ← e16]
    by_cases c1 : pg_h σ 16 ≤ pg_r D W σ (29 + d)
    · rw [if_pos c1, if_pos c1]
      exact ⟨_, _, rfl, rfl, rfl, pg_fr.rf σ⟩
    · rw [if_neg c1, if_neg c1]
      obtain ⟨et, ht⟩ := pa_NNe (hT d (by omega)).1
      rw [pz_bde (pg_oldOn hI (nI d)), pz_bde (pg_nextOn hI (by omega) et (hT d (by omega)).2)]
      by_cases c2 : pa_next (pg_h σ) (pg_r D W σ) d (pg_r D W σ (41 + d)).toNatClampNeg F = -1
      · rw [if_pos c2, if_pos c2]
        exact ⟨_, _, rfl, rfl, rfl, pg_fr.rf σ⟩
      · rw [if_neg c2, if_neg c2]
        obtain ⟨j, hj, e, hon, hp⟩ := (pa_nextI (h := pg_h σ) (r := pg_r D W σ) (d := d) (t := (pg_r D W σ (41 + d)).toNatClampNeg) (F := F)).resolve_left c2
        rw [e]
        obtain ⟨a1, a2, a3, a4, n, hn, a5⟩ := pa_takeI hI hA hT hd hj hp hon c1
        have ej := pg_rd (D := D) (W := W) (σ := σ) (k := 1 + j) (by omega) (by omega) (by omega)
        have tail : ∀ (σ5 : ps_S) (x : Int32), pg_r D W σ5 = (if pa_old (pg_h σ) (pg_r D W σ) (nI d) (-1) 0 F = -1 then upd (pg_r D W σ) (41 + d) (nI j + 1) else pg_r D W σ) → pg_e D σ5 = pg_e D σ → pg_fr σ σ5 → x = pa_n (pg_h σ 16 - pg_r D W σ (29 + d)) (pg_r D W σ (1 + j)) (pg_h σ 15) → ∃ z τ, qX9_takesUp_0 (nI d) f (ps_rI (ps_rI σ5 335 (upd (σ5.1 335) (1 + j) (σ5.1 335 (1 + j) - x))) 335 (upd ((ps_rI σ5 335 (upd (σ5.1 335) (1 + j) (σ5.1 335 (1 + j) - x))).1 335) (29 + d) ((ps_rI σ5 335 (upd (σ5.1 335) (1 + j) (σ5.1 335 (1 + j) - x))).1 335 (29 + d) + x))) = some (z, τ) ∧ pg_r D W τ = pa_fill (pg_h σ) d F m (pa_take (pg_h σ) (pg_r D W σ) d F (nI j)) ∧ pg_e D τ = pg_e D σ ∧ pg_fr σ τ := by
          intro σ5 x h1 h2 h3 hx
          have b1 : σ5.1 335 (1 + j) = pg_r D W σ (1 + j) := by
            rw [← pg_rd (D := D) (W := W) (σ := σ5) (k := 1 + j) (by omega) (by omega) (by omega), h1]
            by_cases c : pa_old (pg_h σ) (pg_r D W σ) (nI d) (-1) 0 F = -1
            · rw [if_pos c, upd_ne _ _ (by omega)]
            · rw [if_neg c]
          have b2 : (ps_rI σ5 335 (upd (σ5.1 335) (1 + j) (σ5.1 335 (1 + j) - x))).1 335 (29 + d) = pg_r D W σ (29 + d) := by
            rw [ps_rI_at, upd_ne _ _ (by omega), ← pg_rd (D := D) (W := W) (σ := σ5) (k := 29 + d) (by omega) (by omega) (by omega), h1]
            by_cases c : pa_old (pg_h σ) (pg_r D W σ) (nI d) (-1) 0 F = -1
            · rw [if_pos c, upd_ne _ _ (by omega)]
            · rw [if_neg c]
          rw [b2, b1]
          generalize hσ6 : ps_rI (ps_rI σ5 335 (upd (σ5.1 335) (1 + j) (pg_r D W σ (1 + j) - x))) 335 (upd ((ps_rI σ5 335 (upd (σ5.1 335) (1 + j) (pg_r D W σ (1 + j) - x))).1 335) (29 + d) (pg_r D W σ (29 + d) + x)) = σ6
          have b3 : pg_r D W σ6 = pa_take (pg_h σ) (pg_r D W σ) d F (nI j) := by
            rw [← hσ6, pg_up (by omega) (by omega) (by omega), pg_up (by omega) (by omega) (by omega), h1, hx]
            unfold pa_take
            rw [nI_clamp (show j < 2 ^ 31 by omega)]
          have b4 : pg_fr σ σ6 := by
            rw [← hσ6]
            exact h3.tr ((pg_fr.I _ _ _ (by omega)).tr (pg_fr.I _ _ _ (by omega)))
          have b5 : pg_e D σ6 = pg_e D σ := by rw [← hσ6]; exact h2
          have b6 : pg_h σ6 = pg_h σ := b4.h
          obtain ⟨z, τ, g1, g2, g3, g4⟩ := ih f σ6 (by rw [b6]; exact hI) (by rw [b3]; exact a1) (by rw [b3]; exact a2) (by
            intro qu h16 hq
            rw [b6] at h16
            have := hm qu h16 hq
            rw [b3, a5]
            omega) (by omega)
          exact ⟨z, τ, g1, by rw [g2, b6, b3], g3.trans b5, b4.tr g4⟩
        have ord : ∀ x : Int32, (x = pg_h σ 16 - pg_r D W σ (29 + d) ∨ x = pg_r D W σ (1 + j) ∨ x = pg_h σ 15) → x ≤ pg_h σ 16 - pg_r D W σ (29 + d) → x ≤ pg_r D W σ (1 + j) → x ≤ pg_h σ 15 → x = pa_n (pg_h σ 16 - pg_r D W σ (29 + d)) (pg_r D W σ (1 + j)) (pg_h σ 15) := fun x q1 q2 q3 q4 => (pa_n_eq q1 q2 q3 q4).symm
        rw [pz_a41, pz_a1, nI_clamp (show 1 + j < 2 ^ 31 by omega), nI_clamp (show 41 + d < 2 ^ 31 by omega)]
        by_cases c3 : pa_old (pg_h σ) (pg_r D W σ) (nI d) (-1) 0 F = -1
        · rw [if_pos c3, if_pos (pz_ini (by omega) (by omega)), if_pos (pz_ini (by omega) (by omega)), if_pos (pz_ini (by omega) (by omega))]
          generalize hσ5 : ps_rI σ 335 (upd (σ.1 335) (41 + d) (nI j + 1)) = σ5
          have h1 : pg_r D W σ5 = upd (pg_r D W σ) (41 + d) (nI j + 1) := by rw [← hσ5, pg_up (by omega) (by omega) (by omega)]
          have h2 : pg_e D σ5 = pg_e D σ := by rw [← hσ5]; rfl
          have h3 : pg_fr σ σ5 := by rw [← hσ5]; exact pg_fr.I _ _ _ (by omega)
          have h4 : σ5.1 328 = σ.1 328 := h3.1 328 (by decide) (by decide) (by decide)
          have h5 : σ5.1 335 (29 + d) = pg_r D W σ (29 + d) := by rw [← hσ5, ps_rI_at, upd_ne _ _ (by omega), e29]
          have h6 : σ5.1 335 (1 + j) = pg_r D W σ (1 + j) := by rw [← hσ5, ps_rI_at, upd_ne _ _ (by omega), ej]
          have tl := tail σ5
          rw [if_pos c3] at tl
          rw [h6, h5] at *
          simp only [h4, h5, h6, ← e16, ← e15]
          simp (disch := omega) only [pz_ini, if_true]
          by_cases c4 : pg_r D W σ (1 + j) ≤ pg_h σ 15
          · rw [if_pos c4]
            by_cases c5 : pg_h σ 16 - pg_r D W σ (29 + d) ≤ pg_r D W σ (1 + j)
            · rw [if_pos c5]
              exact tl _ h1 h2 h3 (ord _ (Or.inl rfl) (Int32.le_refl _) c5 (Int32.le_trans c5 c4))
            · rw [if_neg c5]
              exact tl _ h1 h2 h3 (ord _ (Or.inr (Or.inl rfl)) (Int32.le_of_lt (Int32.not_le.mp c5)) (Int32.le_refl _) c4)
          · rw [if_neg c4]
            have c4' := Int32.le_of_lt (Int32.not_le.mp c4)
            by_cases c5 : pg_h σ 16 - pg_r D W σ (29 + d) ≤ pg_h σ 15
            · rw [if_pos c5]
              exact tl _ h1 h2 h3 (ord _ (Or.inl rfl) (Int32.le_refl _) (Int32.le_trans c5 c4') c5)
            · rw [if_neg c5]
              exact tl _ h1 h2 h3 (ord _ (Or.inr (Or.inr rfl)) (Int32.le_of_lt (Int32.not_le.mp c5)) c4' (Int32.le_refl _))
        · rw [if_neg c3]
          have tl := tail σ
          rw [if_neg c3] at tl
          have h1 := trivial
          have h2 := trivial
          have h3 := pg_fr.rf σ
          simp only [← e16, ← e15, ← e29, ← ej] at tl ⊢
          simp (disch := omega) only [pz_ini, if_true]
          by_cases c4 : pg_r D W σ (1 + j) ≤ pg_h σ 15
          · rw [if_pos c4]
            by_cases c5 : pg_h σ 16 - pg_r D W σ (29 + d) ≤ pg_r D W σ (1 + j)
            · rw [if_pos c5]
              exact tl _ h1 h2 h3 (ord _ (Or.inl rfl) (Int32.le_refl _) c5 (Int32.le_trans c5 c4))
            · rw [if_neg c5]
              exact tl _ h1 h2 h3 (ord _ (Or.inr (Or.inl rfl)) (Int32.le_of_lt (Int32.not_le.mp c5)) (Int32.le_refl _) c4)
          · rw [if_neg c4]
            have c4' := Int32.le_of_lt (Int32.not_le.mp c4)
            by_cases c5 : pg_h σ 16 - pg_r D W σ (29 + d) ≤ pg_h σ 15
            · rw [if_pos c5]
              exact tl _ h1 h2 h3 (ord _ (Or.inl rfl) (Int32.le_refl _) (Int32.le_trans c5 c4') c5)
            · rw [if_neg c5]
              exact tl _ h1 h2 h3 (ord _ (Or.inr (Or.inr rfl)) (Int32.le_of_lt (Int32.not_le.mp c5)) c4' (Int32.le_refl _))
theorem pg_takesUp {D F W d : Nat} (hd : d < D) {σ : ps_S} (hI : pa_HI (pg_h σ) D F W) (hA : pa_IA (pg_r D W σ) D F) (hT : pa_IT (pg_r D W σ)) : ps_ok (qX9_takesUp (nI d) σ) (fun _ τ => pg_r D W τ = pa_fill (pg_h σ) d F 99 (pg_r D W σ) ∧ pg_e D τ = pg_e D σ ∧ pg_fr σ τ) := by
  obtain ⟨z, τ, g1, g2⟩ := pg_takeUp hd 99 ps_N σ hI hA hT (fun qu _ h => by omega) (by unfold ps_N; omega)
  unfold qX9_takesUp
  rw [pz_bde g1]
  cases z with
  | inl u => exact ps_os g2
  | inr u => exact ps_os g2
/-! the class's state, and what stands beside its row -/
/-- limit, stalled, lawless, quiet -/
abbrev pa_P : Type := Int32 × Int32 × Int32 × Int32
def pc_S (h : pa_R) (D F W B : Nat) (σ : ps_S) (r : pa_R) (e : pa_D) (p : pa_P) : Prop :=
  pc_r D W B σ = r ∧ pc_e D B σ = e ∧ σ.1 B 9 = pa_all r ∧ (∀ d, d < 4 → σ.1 (B + 4) d = pa_don h r (nI d) F) ∧ σ.1 B 10 = p.1 ∧ σ.1 B 11 = p.2.1 ∧ σ.1 B 12 = p.2.2.1 ∧ σ.1 B 13 = p.2.2.2
/-- what ticks of the class leave as it is: all but the state's block and the oracle's rows -/
def pc_fr (B : Nat) (σ τ : ps_S) : Prop := (∀ k, (k < B ∨ B + 18 ≤ k) → (k < 23 ∨ 26 ≤ k) → τ.1 k = σ.1 k) ∧ τ.2.1 = σ.2.1 ∧ ∀ k, (k < B ∨ B + 18 ≤ k) → τ.2.2 k = σ.2.2 k
theorem pc_fr.rf (B : Nat) (σ : ps_S) : pc_fr B σ σ := ⟨fun _ _ _ => rfl, rfl, fun _ _ => rfl⟩
theorem pc_fr.tr {B : Nat} {σ τ υ : ps_S} (h : pc_fr B σ τ) (g : pc_fr B τ υ) : pc_fr B σ υ := ⟨fun k a b => (g.1 k a b).trans (h.1 k a b), g.2.1.trans h.2.1, fun k a => (g.2.2 k a).trans (h.2.2 k a)⟩
theorem pc_fr.I {B : Nat} (σ : ps_S) (o : Nat) (f : pa_R) (ho : o < 18) : pc_fr B σ (ps_rI σ (B + o) f) := ⟨fun j a b => ps_rI_ne _ _ (by omega), rfl, fun _ _ => rfl⟩
theorem pc_fr.O {B : Nat} (σ : ps_S) (k : Nat) (f : pa_R) (hk : 23 ≤ k ∧ k < 26) : pc_fr B σ (ps_rI σ k f) := ⟨fun j a b => ps_rI_ne _ _ (by omega), rfl, fun _ _ => rfl⟩
theorem pc_fr.D {B : Nat} (σ : ps_S) (f : pa_D) : pc_fr B σ (ps_rD σ (B + 6) f) := ⟨fun j a b => rfl, rfl, fun _ h => ps_rD_ne _ _ (by omega)⟩
theorem pc_fr.H {h : pa_R} {D F W B : Nat} {σ τ : ps_S} (g : pc_fr B σ τ) (hB : 26 ≤ B) (hH : pc_H 12 h D F W σ) : pc_H 12 h D F W τ := by
  have e : ∀ k, k < 23 → τ.1 k = σ.1 k := fun k hk => g.1 k (by omega) (by omega)
  unfold pc_H
  rw [e 12 (by omega), e (12 + 2) (by omega), e (12 + 3) (by omega), e (12 + 4) (by omega), e (12 + 5) (by omega)]
  exact hH
theorem pc_fillL {h : pa_R} {D F W B d : Nat} (hB : 26 ≤ B) (hI : pa_HI h D F W) (hd : d < D) (e : pa_D) (p : pa_P) : ∀ (m i fuel : Nat) (σ : ps_S) (r : pa_R), pc_H 12 h D F W σ → pc_S h D F W B σ r e p → pa_IA r D F → pa_IT r → (∀ qu, h 16 = nI qu → qu ≤ 99 → qu ≤ pa_N r (29 + d) + m ∧ i + m ≤ qu) → m < fuel → ∃ z τ, qX0_fillQueue_8 B (nI d) fuel (nI i) σ = some (z, τ) ∧ pc_S h D F W B τ (pa_fill h d F m r) e p ∧ pc_fr B σ τ ∧ τ.1 23 = σ.1 23 ∧ τ.1 24 = σ.1 24 ∧ τ.1 25 = σ.1 25 := by
  have hD := hI.1.2
  have hF := hI.2.1.2
  obtain ⟨-, -, -, -, -, li, bg, ag, pa, wi, ch, qu, -, -, -, -, -, ⟨h15, hc1, hc2⟩, ⟨h16, hq1, hq2⟩⟩ := id hI
  intro m
  induction m with
  | zero =>
    intro i fuel σ r hH hS hA hT hm hf
    obtain ⟨f, rfl⟩ : ∃ f, fuel = f + 1 := ⟨fuel - 1, by omega⟩
    obtain ⟨hm1, hm2⟩ := hm qu h16 hq2
    obtain ⟨ef, hfl⟩ := pa_NNe (hA.2.1 d (by omega))
    have e16 : σ.1 12 6 = nI qu := hH.1.2.2.2.2.2.2.1.trans h16
    have e29 : σ.1 (B + 3) d = r (29 + d) := by rw [← hS.1, pc_rd3 (by omega)]
    rw [qX0_fillQueue_8]
    simp only [ps_let]
    rw [e16]
    by_cases c0 : nI qu ≤ nI i
    · rw [if_pos c0]
      exact ⟨_, _, rfl, hS, pc_fr.rf B σ, rfl, rfl, rfl⟩
    · rw [if_neg c0, if_pos (pz_ini (by omega) (by omega)), nI_clamp (by omega), e29]
      have c : nI qu ≤ r (29 + d) := by
        rw [ef]; exact nI_le (by unfold pa_N at hm1; omega) hfl
      rw [if_pos c]
      exact ⟨_, _, rfl, hS, pc_fr.rf B σ, rfl, rfl, rfl⟩
  | succ m ih =>
    intro i fuel σ r hH hS hA hT hm hf
    obtain ⟨f, rfl⟩ : ∃ f, fuel = f + 1 := ⟨fuel - 1, by omega⟩
    obtain ⟨hm1, hm2⟩ := hm qu h16 hq2
    have e16 : σ.1 12 6 = h 16 := hH.1.2.2.2.2.2.2.1
    have e15 : σ.1 12 5 = h 15 := hH.1.2.2.2.2.2.1
    have e29 : σ.1 (B + 3) d = r (29 + d) := by rw [← hS.1, pc_rd3 (by omega)]
    rw [qX0_fillQueue_8]
    simp only [ps_let]
    rw [e16, if_neg (by rw [h16]; exact nI_ge (by omega) (by omega)), if_pos (pz_ini (by omega) (by omega)), nI_clamp (by omega), e29, pa_fill]
    by_cases c1 : h 16 ≤ r (29 + d)
    · rw [if_pos c1, if_pos c1]
      exact ⟨_, _, rfl, hS, pc_fr.rf B σ, rfl, rfl, rfl⟩
    · rw [if_neg c1, if_neg c1]
      obtain ⟨et, ht⟩ := pa_NNe (hT d (by omega)).1
      have et' : pc_r D W B σ (41 + d) = nI (r (41 + d)).toNatClampNeg := by rw [hS.1]; exact et
      have hall : σ.1 B 9 = pa_all (pc_r D W B σ) := by rw [hS.1]; exact hS.2.2.1
      rw [pz_bde (pc_old hI hH (nI d))]
      have ho : pa_old h (pc_r D W B σ) (nI d) (-1) 0 F = pa_old h r (nI d) (-1) 0 F := by rw [hS.1]
      rw [ho]
      -- what follows when a file j was found
      have tail : ∀ (j : Nat) (σ5 : ps_S) (r1 : pa_R), j < F → 0 < r (1 + j) → h (17 + j) = nI d → pa_next h r d (r (41 + d)).toNatClampNeg F = nI j → r1 = (if pa_old h r (nI d) (-1) 0 F = -1 then upd r (41 + d) (nI j + 1) else r) → pc_r D W B σ5 = r1 → pc_e D B σ5 = e → σ5.1 B = σ.1 B → (∀ o, o ≠ 10 → σ5.1 (B + o) = σ.1 (B + o)) → pc_fr B σ σ5 → σ5.1 23 = σ.1 23 → σ5.1 24 = σ.1 24 → σ5.1 25 = σ.1 25 → ∀ x : Int32, x = pa_n (h 16 - r (29 + d)) (r (1 + j)) (h 15) →
          ∃ z τ, qX0_fillQueue_8 B (nI d) f (nI i + 1) (ps_rI (ps_rI (ps_rI σ5 (B + 11) (upd (σ5.1 (B + 11)) j (r (1 + j) - x))) (B + 4) (upd ((ps_rI σ5 (B + 11) (upd (σ5.1 (B + 11)) j (r (1 + j) - x))).1 (B + 4)) d ((ps_rI σ5 (B + 11) (upd (σ5.1 (B + 11)) j (r (1 + j) - x))).1 (B + 4) d - x))) (B + 3) (upd ((ps_rI (ps_rI σ5 (B + 11) (upd (σ5.1 (B + 11)) j (r (1 + j) - x))) (B + 4) (upd ((ps_rI σ5 (B + 11) (upd (σ5.1 (B + 11)) j (r (1 + j) - x))).1 (B + 4)) d ((ps_rI σ5 (B + 11) (upd (σ5.1 (B + 11)) j (r (1 + j) - x))).1 (B + 4) d - x))).1 (B + 3)) d ((ps_rI (ps_rI σ5 (B + 11) (upd (σ5.1 (B + 11)) j (r (1 + j) - x))) (B + 4) (upd ((ps_rI σ5 (B + 11) (upd (σ5.1 (B + 11)) j (r (1 + j) - x))).1 (B + 4)) d ((ps_rI σ5 (B + 11) (upd (σ5.1 (B + 11)) j (r (1 + j) - x))).1 (B + 4) d - x))).1 (B + 3) d + x))) = some (z, τ) ∧ pc_S h D F W B τ (pa_fill h d F m (pa_take h r d F (nI j))) e p ∧ pc_fr B σ τ ∧ τ.1 23 = σ.1 23 ∧ τ.1 24 = σ.1 24 ∧ τ.1 25 = σ.1 25 := by
        intro j σ5 r1 hj hp hon hnx hr1 h1 h2 h0 h3 h4 h23 h24 h25 x hx
        obtain ⟨a1, a2, a3, a4, n, hn, a5⟩ := pa_takeI hI hA hT hd hj hp hon c1
        generalize hσ6 : ps_rI σ5 (B + 11) (upd (σ5.1 (B + 11)) j (r (1 + j) - x)) = σ6
        have f6 : ∀ k, k ≠ B + 11 → σ6.1 k = σ5.1 k := fun k hk => by rw [← hσ6, ps_rI_ne _ _ hk]
        have r6 : pc_r D W B σ6 = upd r1 (1 + j) (r (1 + j) - x) := by rw [← hσ6, pc_up11 (by omega), h1]
        have s6 : σ6.2 = σ5.2 := by rw [← hσ6]; rfl
        generalize hσ7 : ps_rI σ6 (B + 4) (upd (σ6.1 (B + 4)) d (σ6.1 (B + 4) d - x)) = σ7
        have f7 : ∀ k, k ≠ B + 4 → σ7.1 k = σ6.1 k := fun k hk => by rw [← hσ7, ps_rI_ne _ _ hk]
        have r7 : pc_r D W B σ7 = upd r1 (1 + j) (r (1 + j) - x) := by rw [← hσ7, pc_up4, r6]
        have s7 : σ7.2 = σ5.2 := by rw [← hσ7]; exact s6
        have e7 : σ7.1 (B + 3) d = r (29 + d) := by rw [f7 _ (by omega), f6 _ (by omega), h3 3 (by omega), e29]
        rw [e7]
        generalize hσ8 : ps_rI σ7 (B + 3) (upd (σ7.1 (B + 3)) d (r (29 + d) + x)) = σ8
        have f8 : ∀ k, k ≠ B + 3 → σ8.1 k = σ7.1 k := fun k hk => by rw [← hσ8, ps_rI_ne _ _ hk]
        have r8 : pc_r D W B σ8 = pa_take h r d F (nI j) := by
          rw [← hσ8, pc_up3 (by omega), r7, hr1, hx]
          unfold pa_take
          rw [nI_clamp (show j < 2 ^ 31 by omega)]
        have s8 : σ8.2 = σ5.2 := by rw [← hσ8]; exact s7
        have g8 : pc_fr B σ5 σ8 := by
          rw [← hσ8, ← hσ7, ← hσ6]
          exact (pc_fr.I _ 11 _ (by omega)).tr ((pc_fr.I _ 4 _ (by omega)).tr (pc_fr.I _ 3 _ (by omega)))
        have eB : σ8.1 B = σ.1 B := by rw [f8 _ (by omega), f7 _ (by omega), f6 _ (by omega), h0]
        have hS8 : pc_S h D F W B σ8 (pa_take h r d F (nI j)) e p := by
          refine ⟨r8, ?_, ?_, fun q hq => ?_, ?_⟩
          · rw [← h2]; unfold pc_e; rw [s8]
          · rw [eB, hS.2.2.1, a3]
          · rw [f8 _ (by omega), ← hσ7, ps_rI_at, f6 _ (by omega), h3 4 (by omega), a4 q hq]
            by_cases c : q = d
            · subst c
              rw [upd_self, if_pos rfl, hS.2.2.2.1 q hq, hx]
            · rw [upd_ne _ _ c, if_neg c, hS.2.2.2.1 q hq]
          · rw [eB]; exact hS.2.2.2.2
        have g9 : pc_fr B σ σ8 := h4.tr g8
        obtain ⟨z, τ, k1, k2, k3, k4, k5, k6⟩ := ih (i + 1) f σ8 _ (g9.H hB hH) hS8 a1 a2 (by
          intro qu' h16' hq'
          have := hm qu' h16' hq'
          rw [a5]
          omega) (by omega)
        rw [nI_1]
        refine ⟨z, τ, k1, k2, g9.tr k3, ?_, ?_, ?_⟩
        · rw [k4, f8 _ (by omega), f7 _ (by omega), f6 _ (by omega), h23]
        · rw [k5, f8 _ (by omega), f7 _ (by omega), f6 _ (by omega), h24]
        · rw [k6, f8 _ (by omega), f7 _ (by omega), f6 _ (by omega), h25]
      by_cases c3 : pa_old h r (nI d) (-1) 0 F = -1
      · rw [if_pos c3, pz_bde (pc_turn hI hH (by omega) et' (hT d (by omega)).2 hall)]
        have hnx : (if h 11 < pa_all (pc_r D W B σ) then pa_turn h (pc_r D W B σ) (nI d) (r (41 + d)).toNatClampNeg F 0 F else -1) = pa_next h r d (r (41 + d)).toNatClampNeg F := by
          unfold pa_next
          rw [if_pos c3, hS.1]
        rw [hnx]
        by_cases c2 : pa_next h r d (r (41 + d)).toNatClampNeg F = -1
        · rw [if_pos c2, if_pos c2]
          exact ⟨_, _, rfl, hS, pc_fr.rf B σ, rfl, rfl, rfl⟩
        · rw [if_neg c2, if_neg c2]
          obtain ⟨j, hj, ej, hon, hp⟩ := (pa_nextI (h := h) (r := r) (d := d) (t := (r (41 + d)).toNatClampNeg) (F := F)).resolve_left c2
          rw [ej]
          rw [if_pos (pz_ini (by omega) (by omega)), if_pos (pz_ini (by omega) (by omega)), nI_clamp (show j < 2 ^ 31 by omega)]
          generalize hσ5 : ps_rI σ (B + 10) (upd (σ.1 (B + 10)) d (nI j)) = σ5
          have f5 : ∀ k, k ≠ B + 10 → σ5.1 k = σ.1 k := fun k hk => by rw [← hσ5, ps_rI_ne _ _ hk]
          have r5 : pc_r D W B σ5 = upd r (41 + d) (nI j + 1) := by rw [← hσ5, pc_up10 (by omega), hS.1]
          have q1 : σ5.1 (B + 11) j = r (1 + j) := by rw [f5 _ (by omega), ← hS.1, pc_rd11 (by omega)]
          have q2 : σ5.1 (B + 3) d = r (29 + d) := by rw [f5 _ (by omega), e29]
          have q3 : σ5.1 12 = σ.1 12 := f5 _ (by omega)
          simp (disch := omega) only [pz_ini, if_true, q1, q2, q3, e15, e16]
          exact tail j σ5 _ hj hp hon ej rfl (by rw [if_pos c3]; exact r5) (by rw [← hσ5]; exact hS.2.1) (f5 _ (by omega)) (fun o ho => f5 _ (by omega)) (by rw [← hσ5]; exact pc_fr.I _ 10 _ (by omega)) (f5 _ (by omega)) (f5 _ (by omega)) (f5 _ (by omega)) _ rfl
      · rw [if_neg c3]
        have hnx : pa_next h r d (r (41 + d)).toNatClampNeg F = pa_old h r (nI d) (-1) 0 F := by
          unfold pa_next
          rw [if_neg c3]
        have c2 : ¬ pa_next h r d (r (41 + d)).toNatClampNeg F = -1 := by rw [hnx]; exact c3
        rw [if_neg c2]
        obtain ⟨j, hj, ej, hon, hp⟩ := (pa_nextI (h := h) (r := r) (d := d) (t := (r (41 + d)).toNatClampNeg) (F := F)).resolve_left c2
        rw [← hnx, ej]
        have q1 : σ.1 (B + 11) j = r (1 + j) := by rw [← hS.1, pc_rd11 (by omega)]
        rw [if_pos (pz_ini (by omega) (by omega)), nI_clamp (show j < 2 ^ 31 by omega)]
        simp (disch := omega) only [pz_ini, if_true, q1, e29, e15, e16]
        exact tail j σ _ hj hp hon ej rfl (by rw [if_neg c3]; exact hS.1) hS.2.1 rfl (fun o ho => rfl) (pc_fr.rf B σ) rfl rfl rfl _ rfl
theorem pc_fillQ {h : pa_R} {D F W B d : Nat} {e : pa_D} {p : pa_P} {σ : ps_S} {r : pa_R} (hB : 26 ≤ B) (hI : pa_HI h D F W) (hd : d < D) (hH : pc_H 12 h D F W σ) (hS : pc_S h D F W B σ r e p) (hA : pa_IA r D F) (hT : pa_IT r) : ps_ok (qX0_fillQueue B (nI d) σ) (fun _ τ => pc_S h D F W B τ (pa_fill h d F 99 r) e p ∧ pc_fr B σ τ ∧ τ.1 23 = σ.1 23 ∧ τ.1 24 = σ.1 24 ∧ τ.1 25 = σ.1 25) := by
  obtain ⟨-, -, -, -, -, li, bg, ag, pa, wi, ch, qu, -, -, -, -, -, ⟨h15, hc1, hc2⟩, ⟨h16, hq1, hq2⟩⟩ := id hI
  have h1 : ∃ z τ, qX0_fillQueue_8 B (nI d) ps_N 0 σ = some (z, τ) ∧ _ := pc_fillL hB hI hd e p qu 0 ps_N σ r hH hS hA hT (fun q e1 e2 => by
    have := (nI_eq (by omega) (by omega)).mp (e1.symm.trans h16)
    omega) (by unfold ps_N; omega)
  have h2 : pa_fill h d F qu r = pa_fill h d F 99 r := pa_fill_st hI hd _ _ r hA hT (by unfold pa_N; intro q e1 e2; have := (nI_eq (by omega) (by omega)).mp (e1.symm.trans h16); omega) (by omega)
  obtain ⟨z, τ, g1, g2⟩ := h1
  rw [h2] at g2
  unfold qX0_fillQueue
  rw [pz_bde g1]
  cases z with
  | inl u => exact ps_os g2
  | inr u => exact ps_os g2
