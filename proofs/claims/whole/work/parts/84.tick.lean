/-! a tick, as rows -/
def pa_IB (r : pa_R) (a n N : Nat) : Prop := ∀ i, i < n → pa_NN (r (a + i)) ∧ pa_N r (a + i) ≤ N
theorem pa_IB.congr {r s : pa_R} {a n N : Nat} (g : pa_IB r a n N) (h : ∀ i, i < n → s (a + i) = r (a + i)) : pa_IB s a n N := by
  intro i hi
  unfold pa_N
  rw [h i hi]
  exact g i hi
theorem pa_IB.mono {r : pa_R} {a n N M : Nat} (g : pa_IB r a n N) (h : N ≤ M) : pa_IB r a n M := fun i hi => ⟨(g i hi).1, Nat.le_trans (g i hi).2 h⟩
theorem pa_IB.upd {r : pa_R} {a n N M k v : Nat} (g : pa_IB r a n N) (h : N ≤ M) (hv : v ≤ M) (hM : M < 2 ^ 31) : pa_IB (upd r k (nI v)) a n M := by
  intro i hi
  unfold pa_N
  by_cases c : a + i = k
  · rw [c, upd_self, nI_clamp (by omega)]
    exact ⟨pa_NNn (by omega), hv⟩
  · rw [upd_ne _ _ c]
    exact ⟨(g i hi).1, Nat.le_trans (g i hi).2 h⟩
theorem pa_IB.at {r : pa_R} {a n N i : Nat} (g : pa_IB r a n N) (hi : i < n) : ∃ v, r (a + i) = nI v ∧ v ≤ N ∧ v < 2 ^ 31 := by
  obtain ⟨h1, h2⟩ := g i hi
  obtain ⟨h3, h4⟩ := pa_NNe h1
  exact ⟨_, h3, h2, h4⟩
theorem pa_wod_w {h r : pa_R} {p : pa_P} {D F W d : Nat} (hI : pa_I1 r D F W) (hd : d < D) (hD : D ≤ 4) : ∃ m, m ≤ 10 ∧ pa_wod h p r d (45 + d) = r (45 + d) + nI m ∧ pa_wod h p r d (49 + d) = r (49 + d) + nI m ∧ (∀ j, j < 4 → j ≠ d → pa_wod h p r d (45 + j) = r (45 + j) ∧ pa_wod h p r d (49 + j) = r (49 + j)) := by
  obtain ⟨hA, hT, hC, hS⟩ := hI
  obtain ⟨ef, hfl⟩ := pa_NNe (hA.2.1 d (by omega))
  have hcR := pa_cR (h := h) (p := p) hS hC hd hD
  obtain ⟨a1, a2, a3, a4, a5⟩ := pa_woI hA hC hd hD hcR ef hfl
  refine ⟨pa_m (pa_c h r p d) (pa_N r (29 + d)), a4, ?_, ?_, fun j hj hn => ⟨?_, ?_⟩⟩
  · unfold pa_wod pa_wo
    exact (pa_w4_at (show d < 4 by omega)).2.2.1
  · unfold pa_wod pa_wo
    exact (pa_w4_at (show d < 4 by omega)).2.2.2
  · unfold pa_wod pa_wo
    rw [pa_w4_ne (by omega) (by omega) (by omega) (by omega)]
  · unfold pa_wod pa_wo
    rw [pa_w4_ne (by omega) (by omega) (by omega) (by omega)]
def pa_IX (r : pa_R) (a n d N M : Nat) : Prop := ∀ i, i < n → pa_NN (r (a + i)) ∧ pa_N r (a + i) ≤ (if i < d then M else N)
theorem pa_wosB {h : pa_R} {p : pa_P} {D F W a n N : Nat} (hD : D ≤ 4) (ha : (a = 45 ∧ n = 4) ∨ (a = 49 ∧ n = D)) (hN : N + 10 < 2 ^ 31) : ∀ (m d : Nat) (r : pa_R), d + m = D → pa_I1 r D F W → pa_IX r a n d N (N + 10) → pa_IB (pa_wos h p d m r) a n (N + 10)
  | 0, d, r, _, hI, hX => fun i hi => by
    obtain ⟨h1, h2⟩ := hX i hi
    refine ⟨h1, Nat.le_trans h2 ?_⟩
    by_cases c : i < d
    · rw [if_pos c]; exact Nat.le_refl _
    · rw [if_neg c]; omega
  | m + 1, d, r, hd, hI, hX => by
    refine pa_wosB hD ha hN m (d + 1) (pa_wod h p r d) (by omega) (pa_wodI hI (by omega) hD).1 (fun i hi => ?_)
    obtain ⟨k, k1, k2, k3, k4⟩ := pa_wod_w (h := h) (p := p) hI (show d < D by omega) hD
    obtain ⟨h1, h2⟩ := hX i hi
    by_cases c : i = d
    · subst c
      rw [if_neg (by omega)] at h2
      rw [if_pos (by omega)]
      obtain ⟨e1, e2⟩ := pa_NNe h1
      have e : pa_wod h p r i (a + i) = nI (pa_N r (a + i) + k) := by
        rcases ha with ⟨rfl, -⟩ | ⟨rfl, -⟩
        · rw [k2, e1, nI_add]; rfl
        · rw [k3, e1, nI_add]; rfl
      unfold pa_N
      rw [e, nI_clamp (by omega)]
      exact ⟨pa_NNn (by omega), by unfold pa_N; unfold pa_N at h2; omega⟩
    · have e : pa_wod h p r d (a + i) = r (a + i) := by
        rcases ha with ⟨rfl, rfl⟩ | ⟨rfl, rfl⟩
        · exact (k4 i (by omega) c).1
        · exact (k4 i (by omega) c).2
      unfold pa_N
      rw [e]
      refine ⟨h1, ?_⟩
      unfold pa_N at h2
      by_cases c2 : i < d
      · rw [if_pos c2] at h2; rw [if_pos (by omega)]; exact h2
      · rw [if_neg c2] at h2; rw [if_neg (by omega)]; exact h2
theorem pa_IB.X {r : pa_R} {a n N M : Nat} (g : pa_IB r a n N) : pa_IX r a n 0 N M := fun i hi => by
  rw [if_neg (by omega)]
  exact g i hi
/-- windows closed -/
theorem pa_cwe_E {h r : pa_R} {e : pa_D} {D F W d M : Nat} (hI : pa_HI h D F W) (hl : pa_NN (r (49 + d)) ∧ pa_N r (49 + d) ≤ 10000) (hE : pf_E (e d) M) (hM : M + 16777216 < 2 ^ 53) : pf_E (pa_cwe h r e d d) (M + 16777216) := by
  obtain ⟨e1, e2⟩ := pa_NNe hl.1
  have hes : pf_E (pa_es h (r (49 + d)) (e d)) (M + 16777216) := by
    rw [e1]
    exact (pa_esI hI hl.2 hE hM).2.2.2.2.2
  unfold pa_cwe
  by_cases c1 : 0 < r (49 + d)
  · rw [if_pos c1, vf_self]; exact hes
  · rw [if_neg c1]
    by_cases c2 : r (29 + d) ≤ 0
    · rw [if_pos c2]; exact hE.mono (by omega)
    · rw [if_neg c2, vf_self]; exact hes
theorem pa_cwsI {h : pa_R} {D F W M : Nat} (hI : pa_HI h D F W) (hM : M + 16777216 < 2 ^ 53) : ∀ (m d : Nat) (r : pa_R) (e : pa_D), d + m = D → pa_IB r 49 D 10000 → pa_IX r 49 D d 10000 0 → pa_IK r D → (∀ j, j < D → pf_E (e j) (if j < d then M + 16777216 else M)) →
    pa_IB (pa_cws h d m r e).1 49 D 0 ∧ pa_IK (pa_cws h d m r e).1 D ∧ (∀ j, j < D → pf_E ((pa_cws h d m r e).2 j) (M + 16777216)) ∧ ∀ k, k < 37 ∨ (41 ≤ k ∧ k < 49) ∨ 53 ≤ k → (pa_cws h d m r e).1 k = r k
  | 0, d, r, e, hd, hl, hX, hK, hE => by
    refine ⟨fun i hi => ?_, hK, fun j hj => ?_, fun k _ => rfl⟩
    · have := hX i hi
      rw [if_pos (by omega)] at this
      exact this
    · have := hE j hj
      rw [if_pos (by omega)] at this
      exact this
  | m + 1, d, r, e, hd, hl, hX, hK, hE => by
    have hD := hI.1.2
    obtain ⟨lv, l1, l2, l3⟩ := hl.at (i := d) (by omega)
    have hl' : pa_IB (pa_cwr r d) 49 D 10000 := by
      intro i hi
      unfold pa_N
      by_cases c : i = d
      · subst c
        unfold pa_cwr
        rw [upd_ne _ _ (by omega), upd_self]
        exact ⟨by unfold pa_NN; decide, by decide⟩
      · rw [pa_cwr_ne (by omega) (by omega)]
        exact hl i hi
    have hX' : pa_IX (pa_cwr r d) 49 D (d + 1) 10000 0 := by
      intro i hi
      unfold pa_N
      by_cases c : i = d
      · subst c
        unfold pa_cwr
        rw [upd_ne _ _ (by omega), upd_self, if_pos (by omega)]
        exact ⟨by unfold pa_NN; decide, by decide⟩
      · rw [pa_cwr_ne (by omega) (by omega)]
        have := hX i hi
        unfold pa_N at this
        refine ⟨this.1, Nat.le_trans this.2 ?_⟩
        by_cases c2 : i < d
        · rw [if_pos c2, if_pos (by omega)]; exact Nat.le_refl _
        · rw [if_neg c2, if_neg (by omega)]; exact Nat.le_refl _
    have hK' : pa_IK (pa_cwr r d) D := by
      intro i hi
      by_cases c : i = d
      · subst c
        obtain ⟨k1, k2, k3⟩ := hK i hi
        obtain ⟨e1, e2⟩ := pa_NNe k1
        have e3 : r (37 + i) = nI (pa_N r (37 + i)) := e1
        have ev : pa_cwr r i (37 + i) = nI (pa_N r (37 + i) / 2 + lv) := by
          unfold pa_cwr
          have e4 : nI (pa_N r (37 + i)) / 2 = nI (pa_N r (37 + i) / 2) := nI_div (a := pa_N r (37 + i)) (b := 2) (by omega) (by omega)
          rw [upd_self, l1, e3, e4, nI_add]
        have hb : pa_N r (37 + i) / 2 + lv ≤ 20000 := by omega
        refine ⟨by rw [ev]; exact pa_NNn (by omega), ?_, fun hc => absurd hc (by omega)⟩
        unfold pa_N
        rw [ev, nI_clamp (by omega)]
        exact hb
      · unfold pa_N
        rw [pa_cwr_ne (by omega) (by omega)]
        exact hK i hi
    have hE' : ∀ j, j < D → pf_E (pa_cwe h r e d j) (if j < d + 1 then M + 16777216 else M) := by
      intro j hj
      have hj2 := hE j hj
      by_cases c : j = d
      · subst c
        rw [if_neg (by omega)] at hj2
        rw [if_pos (by omega)]
        exact pa_cwe_E hI (hl j hj) hj2 hM
      · rw [pa_cwe_ne c]
        by_cases c2 : j < d
        · rw [if_pos c2] at hj2; rw [if_pos (by omega)]; exact hj2
        · rw [if_neg c2] at hj2; rw [if_neg (by omega)]; exact hj2
    obtain ⟨a1, a2, a3, a4⟩ := pa_cwsI hI hM m (d + 1) (pa_cwr r d) (pa_cwe h r e d) (by omega) hl' hX' hK' hE'
    exact ⟨a1, a2, a3, fun k hk => (a4 k hk).trans (pa_cwr_ne (by omega) (by omega))⟩
/-- queues filled -/
def pa_fills (h : pa_R) (F : Nat) : Nat → Nat → pa_R → pa_R
  | _, 0, r => r
  | d, m + 1, r => pa_fills h F (d + 1) m (pa_fill h d F 99 r)
theorem pa_fillsI {h : pa_R} {D F W : Nat} (hI : pa_HI h D F W) : ∀ (m d : Nat) (r : pa_R), d + m = D → pa_IA r D F → pa_IT r → pa_IA (pa_fills h F d m r) D F ∧ pa_IT (pa_fills h F d m r) ∧ (∀ k, k < 1 ∨ (13 ≤ k ∧ k < 29) ∨ (33 ≤ k ∧ k < 41) ∨ 45 ≤ k → pa_fills h F d m r k = r k)
  | 0, d, r, _, hA, hT => ⟨hA, hT, fun _ _ => rfl⟩
  | m + 1, d, r, hd, hA, hT => by
    obtain ⟨a1, a2, a3⟩ := pa_fillI hI (show d < D by omega) 99 r hA hT
    obtain ⟨b1, b2, b3⟩ := pa_fillsI hI m (d + 1) (pa_fill h d F 99 r) (by omega) a1 a2
    exact ⟨b1, b2, fun k hk => (b3 k hk).trans (a3 k hk)⟩
/-- writers served -/
theorem pa_svI {h r : pa_R} {e : pa_D} {D F W L w N M : Nat} (hI : pa_HI h D F W) (h1 : pa_I1 r D F W) (hK : pa_IK r D) (hw : w < W) (L2 : L ≤ 999) (g1 : pa_IB r 71 6 N) (g2 : pa_IB r 77 6 M) (hN : N + 99 < 2 ^ 31) (hM : M + 1 < 2 ^ 31) :
    pa_I1 (pa_sv h r e D F W L w) D F W ∧ pa_IK (pa_sv h r e D F W L w) D ∧ pa_IB (pa_sv h r e D F W L w) 71 6 (N + 99) ∧ pa_IB (pa_sv h r e D F W L w) 77 6 (M + 1) ∧ ∀ k, k < 1 ∨ (25 ≤ k ∧ k < 59) → pa_sv h r e D F W L w k = r k := by
  have hW := hI.2.2.1.2
  have hF := hI.2.1.2
  obtain ⟨d, hd, ed, f, hf, ef, edf⟩ := pa_devR hI hw
  obtain ⟨wn, hwn, ewn⟩ := pa_wntR h r w
  have main : ∀ s : pa_R, pa_IA s D F → (∀ k, k < 1 ∨ (25 ≤ k ∧ k < 59 ∧ ¬ (29 ≤ k ∧ k < 33)) → s k = r k) → (∀ k, 29 ≤ k ∧ k < 33 → s k = r k) → pa_IB s 71 6 (N + 99) → pa_IB s 77 6 (M + 1) → pa_I1 s D F W ∧ pa_IK s D ∧ pa_IB s 71 6 (N + 99) ∧ pa_IB s 77 6 (M + 1) ∧ ∀ k, k < 1 ∨ (25 ≤ k ∧ k < 59) → s k = r k := by
    intro s hA hs hs2 b1 b2
    have hh : ∀ k, k < 1 ∨ (25 ≤ k ∧ k < 59) → s k = r k := by
      intro k hk
      by_cases c : 29 ≤ k ∧ k < 33
      · exact hs2 k c
      · exact hs k (by omega)
    refine ⟨⟨hA, fun d hd => ?_, fun d hd => ?_, fun d hd => ?_, fun w hw => ?_⟩, fun d hd => ?_, b1, b2, hh⟩
    · rw [hh _ (by omega)]; exact h1.2.1 d hd
    · rw [hh _ (by omega)]; exact h1.2.2.1 d hd
    · have := hI.1.2; rw [hh _ (by omega)]; exact h1.2.2.2.1 d hd
    · rw [hh _ (by omega)]; exact h1.2.2.2.2 w hw
    · unfold pa_N; rw [hh _ (by omega)]; exact hK d hd
  have IAc : ∀ s : pa_R, (∀ k, (1 ≤ k ∧ k < 13) ∨ (29 ≤ k ∧ k < 33) → s k = r k) → pa_IA s D F := by
    intro s hs
    have q1 : pa_sN s 1 12 = pa_sN r 1 12 := by simp only [pa_sN, pa_N]; rw [hs (1 + 0) (by omega), hs (1 + 1) (by omega), hs (1 + 2) (by omega), hs (1 + 3) (by omega), hs (1 + 4) (by omega), hs (1 + 5) (by omega), hs (1 + 6) (by omega), hs (1 + 7) (by omega), hs (1 + 8) (by omega), hs (1 + 9) (by omega), hs (1 + 10) (by omega), hs (1 + 11) (by omega)]
    have q2 : pa_sN s 29 4 = pa_sN r 29 4 := by simp only [pa_sN, pa_N]; rw [hs (29 + 0) (by omega), hs (29 + 1) (by omega), hs (29 + 2) (by omega), hs (29 + 3) (by omega)]
    refine ⟨fun f hf => ?_, fun d hd => ?_, ?_, fun f h1' h2 => ?_, fun d h1' h2 => ?_⟩
    · rw [hs _ (by omega)]; exact h1.1.1 f hf
    · rw [hs _ (by omega)]; exact h1.1.2.1 d hd
    · rw [q1, q2]; exact h1.1.2.2.1
    · rw [hs _ (by omega)]; exact h1.1.2.2.2.1 f h1' h2
    · rw [hs _ (by omega)]; exact h1.1.2.2.2.2 d h1' h2
  unfold pa_sv
  by_cases c : r (59 + w) ≤ 0
  · rw [if_pos c, ewn, nI_clamp (by omega)]
    have hx : pa_x L (pa_aN r) wn ≤ 99 ∧ pa_x L (pa_aN r) wn ≤ L - pa_aN r := by unfold pa_x; omega
    generalize pa_x L (pa_aN r) wn = x at hx ⊢
    obtain ⟨hv, hv1, hv2, hv3⟩ := g2.at (i := w) (by omega)
    have hdk : ∀ k, k ≠ 77 + w → pa_hd r w x wn k = r k := by
      intro k hk
      unfold pa_hd
      by_cases c2 : wn ≤ x
      · rw [if_pos c2]
      · rw [if_neg c2, upd_ne _ _ hk]
    have hdB : pa_IB (pa_hd r w x wn) 77 6 (M + 1) := by
      unfold pa_hd
      by_cases c2 : wn ≤ x
      · rw [if_pos c2]; exact g2.mono (by omega)
      · rw [if_neg c2, hv1, nI_1]; exact g2.upd (by omega) (by omega) hM
    generalize pa_hd r w x wn = s at hdk hdB ⊢
    unfold pa_s1
    by_cases c3 : x = 0
    · rw [if_pos c3]
      exact main s (IAc s (fun k hk => hdk k (by omega))) (fun k hk => hdk k (by omega)) (fun k hk => hdk k (by omega)) ((g1.congr (fun i hi => hdk _ (by omega))).mono (by omega)) hdB
    · rw [if_neg c3]
      have w2 : ∀ k, k ≠ 65 + w → k ≠ 59 + w → k ≠ 13 + f → k ≠ 1 + f → k ≠ 71 + w → pa_w2 h (pa_w1 h s w (nI x)) e D F W L w (nI x) k = s k := by
        intro k k1 k2 k3 k4 k5
        rw [pa_w2_at k1 k2, pa_w1_at ef (by omega) k3 k4 k5]
      have w1f : pa_w2 h (pa_w1 h s w (nI x)) e D F W L w (nI x) (1 + f) = r (1 + f) + nI x := by
        rw [pa_w2_at (by omega) (by omega)]
        unfold pa_w1
        rw [ef, nI_clamp (by omega), upd_ne _ _ (by omega), upd_self, hdk _ (by omega)]
      have w1p : pa_w2 h (pa_w1 h s w (nI x)) e D F W L w (nI x) (71 + w) = r (71 + w) + nI x := by
        rw [pa_w2_at (by omega) (by omega)]
        unfold pa_w1
        rw [upd_self, hdk _ (by omega)]
      generalize pa_w2 h (pa_w1 h s w (nI x)) e D F W L w (nI x) = u at w2 w1f w1p ⊢
      have wr : ∀ k, k ≠ 65 + w → k ≠ 59 + w → k ≠ 13 + f → k ≠ 1 + f → k ≠ 71 + w → k ≠ 77 + w → u k = r k := fun k k1 k2 k3 k4 k5 k6 => (w2 k k1 k2 k3 k4 k5).trans (hdk k k6)
      obtain ⟨n1, n2⟩ := pa_NNe (h1.1.1 f (by omega))
      have hge := pa_sN_ge (r := r) (a := 1) (k := 1 + f) (n := 12) (by omega) (by omega)
      have hsum := h1.1.2.2.1
      have hxa : x ≤ L - (pa_sN r 1 12 + pa_sN r 29 4) := hx.2
      have ef1 : u (1 + f) = nI (pa_N r (1 + f) + x) := by rw [w1f, n1, nI_add]; rfl
      have e1 : pa_sN u 1 12 + pa_N r (1 + f) = pa_sN r 1 12 + (pa_N r (1 + f) + x) := by
        have q := pa_sN_upd (r := r) (k := 1 + f) (v := u (1 + f)) (a := 1) (n := 12) (by omega) (by omega)
        have q2 : pa_sN (upd r (1 + f) (u (1 + f))) 1 12 = pa_sN u 1 12 := by
          have qq : ∀ k, 1 ≤ k ∧ k < 13 → upd r (1 + f) (u (1 + f)) k = u k := by
            intro k hk
            by_cases c5 : k = 1 + f
            · rw [c5, upd_self]
            · rw [upd_ne _ _ c5, wr k (by omega) (by omega) (by omega) c5 (by omega) (by omega)]
          simp only [pa_sN, pa_N]
          rw [qq (1 + 0) (by omega), qq (1 + 1) (by omega), qq (1 + 2) (by omega), qq (1 + 3) (by omega), qq (1 + 4) (by omega), qq (1 + 5) (by omega), qq (1 + 6) (by omega), qq (1 + 7) (by omega), qq (1 + 8) (by omega), qq (1 + 9) (by omega), qq (1 + 10) (by omega), qq (1 + 11) (by omega)]
        rw [q2, ef1, nI_clamp (by omega)] at q
        exact q
      have e2 : pa_sN u 29 4 = pa_sN r 29 4 := by
        have qq : ∀ k, 29 ≤ k ∧ k < 33 → u k = r k := fun k hk => wr k (by omega) (by omega) (by omega) (by omega) (by omega) (by omega)
        simp only [pa_sN, pa_N]
        rw [qq (29 + 0) (by omega), qq (29 + 1) (by omega), qq (29 + 2) (by omega), qq (29 + 3) (by omega)]
      have hIA : pa_IA u D F := by
        refine ⟨fun j hj => ?_, fun j hj => ?_, ?_, fun j h1' h2 => ?_, fun j h1' h2 => ?_⟩
        · by_cases c5 : j = f
          · rw [c5, ef1]; exact pa_NNn (by omega)
          · rw [wr _ (by omega) (by omega) (by omega) (by omega) (by omega) (by omega)]; exact h1.1.1 j hj
        · rw [wr _ (by omega) (by omega) (by omega) (by omega) (by omega) (by omega)]; exact h1.1.2.1 j hj
        · omega
        · rw [wr _ (by omega) (by omega) (by omega) (by omega) (by omega) (by omega)]; exact h1.1.2.2.2.1 j h1' h2
        · rw [wr _ (by omega) (by omega) (by omega) (by omega) (by omega) (by omega)]; exact h1.1.2.2.2.2 j h1' h2
      obtain ⟨pv, p1, p2, p3⟩ := g1.at (i := w) (by omega)
      refine main u hIA (fun k hk => wr k (by omega) (by omega) (by omega) (by omega) (by omega) (by omega)) (fun k hk => wr k (by omega) (by omega) (by omega) (by omega) (by omega) (by omega)) (fun i hi => ?_) (hdB.congr (fun i hi => w2 _ (by omega) (by omega) (by omega) (by omega) (by omega)))
      unfold pa_N
      by_cases c5 : i = w
      · rw [c5, w1p, p1, nI_add, nI_clamp (by omega)]
        exact ⟨pa_NNn (by omega), by omega⟩
      · rw [wr _ (by omega) (by omega) (by omega) (by omega) (by omega) (by omega)]
        exact ⟨(g1 i hi).1, Nat.le_trans (g1 i hi).2 (by omega)⟩
  · rw [if_neg c]
    have hk : ∀ k, k ≠ 59 + w → upd r (59 + w) (r (59 + w) - 1) k = r k := fun k hk => upd_ne _ _ hk
    exact main _ (IAc _ (fun k hk2 => hk k (by omega))) (fun k hk2 => hk k (by omega)) (fun k hk2 => hk k (by omega)) ((g1.congr (fun i hi => hk _ (by omega))).mono (by omega)) ((g2.congr (fun i hi => hk _ (by omega))).mono (by omega))
def pa_svs (h : pa_R) (e : pa_D) (D F W L t : Nat) : Nat → Nat → pa_R → pa_R
  | _, 0, r => r
  | k, m + 1, r => pa_svs h e D F W L t (k + 1) m (pa_sv h r e D F W L ((t + k) % W))
theorem pa_svsI {h : pa_R} {e : pa_D} {D F W L t : Nat} (hI : pa_HI h D F W) (L2 : L ≤ 999) : ∀ (m k : Nat) (r : pa_R) (N M : Nat), k + m = W → pa_I1 r D F W → pa_IK r D → pa_IB r 71 6 N → pa_IB r 77 6 M → N + 99 * m < 2 ^ 31 → M + m < 2 ^ 31 →
    pa_I1 (pa_svs h e D F W L t k m r) D F W ∧ pa_IK (pa_svs h e D F W L t k m r) D ∧ pa_IB (pa_svs h e D F W L t k m r) 71 6 (N + 99 * m) ∧ pa_IB (pa_svs h e D F W L t k m r) 77 6 (M + m) ∧ ∀ j, j < 1 ∨ (25 ≤ j ∧ j < 59) → pa_svs h e D F W L t k m r j = r j
  | 0, k, r, N, M, _, h1, hK, g1, g2, _, _ => ⟨h1, hK, g1, g2, fun _ _ => rfl⟩
  | m + 1, k, r, N, M, hk, h1, hK, g1, g2, hN, hM => by
    obtain ⟨a1, a2, a3, a4, a5⟩ := pa_svI (e := e) (L := L) (w := (t + k) % W) hI h1 hK (Nat.mod_lt _ (by omega)) L2 g1 g2 (by omega) (by omega)
    obtain ⟨b1, b2, b3, b4, b5⟩ := pa_svsI hI L2 m (k + 1) (pa_sv h r e D F W L ((t + k) % W)) (N + 99) (M + 1) (by omega) a1 a2 a3 a4 (by omega) (by omega)
    refine ⟨b1, b2, ?_, ?_, fun j hj => (b5 j hj).trans (a5 j hj)⟩
    · rw [show N + 99 * (m + 1) = N + 99 + 99 * m by omega]; exact b3
    · rw [show M + (m + 1) = M + 1 + m by omega]; exact b4
/-- a tick -/
def pa_win (h r : pa_R) (e : pa_D) (D t : Nat) : pa_R × pa_D := if t % pa_N h 14 = 0 then pa_cws h 0 D r e else (r, e)
def pa_tick (h : pa_R) (D F W : Nat) (p : pa_P) (x : pa_R × pa_D) : pa_R × pa_D :=
  ((if p.2.2.2 = 0 then pa_svs h (pa_win h (pa_wos h p 0 D (upd x.1 0 (x.1 0 + 1))) x.2 D (pa_N x.1 0 + 1)).2 D F W p.1.toNatClampNeg (pa_N x.1 0 + 1) 0 W (pa_fills h F 0 D (pa_win h (pa_wos h p 0 D (upd x.1 0 (x.1 0 + 1))) x.2 D (pa_N x.1 0 + 1)).1)
    else pa_fills h F 0 D (pa_win h (pa_wos h p 0 D (upd x.1 0 (x.1 0 + 1))) x.2 D (pa_N x.1 0 + 1)).1), (pa_win h (pa_wos h p 0 D (upd x.1 0 (x.1 0 + 1))) x.2 D (pa_N x.1 0 + 1)).2)
def pa_ticks (h : pa_R) (D F W : Nat) (p : pa_P) : Nat → pa_R × pa_D → pa_R × pa_D
  | 0, x => x
  | n + 1, x => pa_ticks h D F W p n (pa_tick h D F W p x)
def pa_PI (h : pa_R) (p : pa_P) : Prop := p.1 = nI p.1.toNatClampNeg ∧ pa_N h 11 < p.1.toNatClampNeg ∧ p.1.toNatClampNeg ≤ 999
def pa_IV (h : pa_R) (D F W t : Nat) (x : pa_R × pa_D) : Prop := pa_I1 x.1 D F W ∧ x.1 0 = nI t ∧ pa_IK x.1 D ∧ pa_IB x.1 49 D (10 * (t % pa_N h 14)) ∧ pa_IB x.1 45 4 (10 * t) ∧ pa_IB x.1 71 6 (600 * t) ∧ pa_IB x.1 77 6 (6 * t) ∧ ∀ d, d < D → pf_E (x.2 d) (1024 + 16777216 * t)
theorem pa_I1.congr {r s : pa_R} {D F W : Nat} (hD : D ≤ 4) (hW : W ≤ 6) (g : pa_I1 r D F W) (h : ∀ k, (1 ≤ k ∧ k < 13) ∨ (25 ≤ k ∧ k < 37) ∨ (41 ≤ k ∧ k < 45) ∨ (53 ≤ k ∧ k < 59) → s k = r k) : pa_I1 s D F W := by
  have q1 : pa_sN s 1 12 = pa_sN r 1 12 := by simp only [pa_sN, pa_N]; rw [h (1 + 0) (by omega), h (1 + 1) (by omega), h (1 + 2) (by omega), h (1 + 3) (by omega), h (1 + 4) (by omega), h (1 + 5) (by omega), h (1 + 6) (by omega), h (1 + 7) (by omega), h (1 + 8) (by omega), h (1 + 9) (by omega), h (1 + 10) (by omega), h (1 + 11) (by omega)]
  have q2 : pa_sN s 29 4 = pa_sN r 29 4 := by simp only [pa_sN, pa_N]; rw [h (29 + 0) (by omega), h (29 + 1) (by omega), h (29 + 2) (by omega), h (29 + 3) (by omega)]
  refine ⟨⟨fun f hf => ?_, fun d hd => ?_, ?_, fun f h1 h2 => ?_, fun d h1 h2 => ?_⟩, fun d hd => ?_, fun d hd => ?_, fun d hd => ?_, fun w hw => ?_⟩
  · rw [h _ (by omega)]; exact g.1.1 f hf
  · rw [h _ (by omega)]; exact g.1.2.1 d hd
  · rw [q1, q2]; exact g.1.2.2.1
  · rw [h _ (by omega)]; exact g.1.2.2.2.1 f h1 h2
  · rw [h _ (by omega)]; exact g.1.2.2.2.2 d h1 h2
  · rw [h _ (by omega)]; exact g.2.1 d hd
  · rw [h _ (by omega)]; exact g.2.2.1 d hd
  · rw [h _ (by omega)]; exact g.2.2.2.1 d hd
  · rw [h _ (by omega)]; exact g.2.2.2.2 w hw
theorem pa_IK.congr {r s : pa_R} {D : Nat} (g : pa_IK r D) (h : ∀ k, 37 ≤ k ∧ k < 41 → s k = r k) : pa_IK s D := by
  intro d hd
  unfold pa_N
  rw [h _ (by omega)]
  exact g d hd
/-- the stages of a tick: what holds before each -/
theorem pa_stg {h : pa_R} {D F W t : Nat} {p : pa_P} {x : pa_R × pa_D} (hI : pa_HI h D F W) (hp : pa_PI h p) (g : pa_IV h D F W t x) (ht : t + 1 ≤ 3000000) :
    ∃ r1 r2 r3 r4 e3, r1 = upd x.1 0 (nI (t + 1)) ∧ pa_I1 r1 D F W ∧ r1 0 = nI (t + 1) ∧
      r2 = pa_wos h p 0 D r1 ∧ pa_I1 r2 D F W ∧ r2 0 = nI (t + 1) ∧ pa_IWE r2 x.2 (1024 + 16777216 * t) 0 D ∧
      (r3, e3) = pa_win h r2 x.2 D (t + 1) ∧ pa_I1 r3 D F W ∧ r3 0 = nI (t + 1) ∧ pa_IK r3 D ∧ (∀ d, d < D → pf_E (e3 d) (1024 + 16777216 * (t + 1))) ∧
      r4 = pa_fills h F 0 D r3 ∧ pa_I1 r4 D F W ∧ r4 0 = nI (t + 1) ∧ pa_IK r4 D ∧ pa_IB r4 71 6 (600 * t) ∧ pa_IB r4 77 6 (6 * t) ∧
      pa_tick h D F W p x = ((if p.2.2.2 = 0 then pa_svs h e3 D F W p.1.toNatClampNeg (t + 1) 0 W r4 else r4), e3) ∧ pa_IV h D F W (t + 1) (pa_tick h D F W p x) := by
  have hD := hI.1.2
  have hW := hI.2.2.1.2
  obtain ⟨wi, hwi, w1, w2⟩ := pa_wi hI
  have hwN : pa_N h 14 = wi := by unfold pa_N; rw [hwi, nI_clamp (by omega)]
  obtain ⟨g1, g0, gK, gl, gw, gp, gh, gE⟩ := g
  have hN0 : pa_N x.1 0 = t := by unfold pa_N; rw [g0, nI_clamp (by omega)]
  have e1 : upd x.1 0 (x.1 0 + 1) = upd x.1 0 (nI (t + 1)) := by rw [g0, nI_1]
  have i1 : pa_I1 (upd x.1 0 (nI (t + 1))) D F W := g1.congr hD hW (fun k hk => upd_ne _ _ (by omega))
  obtain ⟨i2, f2⟩ := pa_wosI (h := h) (p := p) hD D 0 (upd x.1 0 (nI (t + 1))) (by omega) i1
  have l2 : pa_IB (pa_wos h p 0 D (upd x.1 0 (nI (t + 1)))) 49 D (10 * (t % wi) + 10) := by
    refine pa_wosB hD (Or.inr ⟨rfl, rfl⟩) ?_ D 0 _ (by omega) i1 (pa_IB.X ?_)
    · have := Nat.mod_lt t (show 0 < wi by omega); omega
    · rw [hwN] at gl
      exact gl.congr (fun i hi => upd_ne _ _ (by omega))
  have o2 : pa_IB (pa_wos h p 0 D (upd x.1 0 (nI (t + 1)))) 45 4 (10 * (t + 1)) := by
    refine (pa_wosB (N := 10 * t) hD (Or.inl ⟨rfl, rfl⟩) (by omega) D 0 _ (by omega) i1 (pa_IB.X ?_)).mono (by omega)
    exact gw.congr (fun i hi => upd_ne _ _ (by omega))
  have r20 : pa_wos h p 0 D (upd x.1 0 (nI (t + 1))) 0 = nI (t + 1) := by rw [f2 0 (by omega), upd_self]
  have k2 : pa_IK (pa_wos h p 0 D (upd x.1 0 (nI (t + 1)))) D := gK.congr (fun k hk => by rw [f2 k (by omega), upd_ne _ _ (by omega)])
  have p2 : pa_IB (pa_wos h p 0 D (upd x.1 0 (nI (t + 1)))) 71 6 (600 * t) := gp.congr (fun i hi => by rw [f2 _ (by omega), upd_ne _ _ (by omega)])
  have h2 : pa_IB (pa_wos h p 0 D (upd x.1 0 (nI (t + 1)))) 77 6 (6 * t) := gh.congr (fun i hi => by rw [f2 _ (by omega), upd_ne _ _ (by omega)])
  have hmod := Nat.mod_lt t (show 0 < wi by omega)
  have hWE : pa_IWE (pa_wos h p 0 D (upd x.1 0 (nI (t + 1)))) x.2 (1024 + 16777216 * t) 0 D := by
    intro j _ hj
    obtain ⟨v, v1, v2, v3⟩ := l2.at hj
    exact ⟨gE j hj, v, by omega, v1⟩
  have tk : pa_tick h D F W p x = ((if p.2.2.2 = 0 then pa_svs h (pa_win h (pa_wos h p 0 D (upd x.1 0 (nI (t + 1)))) x.2 D (t + 1)).2 D F W p.1.toNatClampNeg (t + 1) 0 W (pa_fills h F 0 D (pa_win h (pa_wos h p 0 D (upd x.1 0 (nI (t + 1)))) x.2 D (t + 1)).1) else pa_fills h F 0 D (pa_win h (pa_wos h p 0 D (upd x.1 0 (nI (t + 1)))) x.2 D (t + 1)).1), (pa_win h (pa_wos h p 0 D (upd x.1 0 (nI (t + 1)))) x.2 D (t + 1)).2) := by
    unfold pa_tick
    rw [e1, hN0]
  generalize hr1 : upd x.1 0 (nI (t + 1)) = r1 at *
  generalize hr2 : pa_wos h p 0 D r1 = r2 at *
  -- the window
  have hwin : pa_I1 (pa_win h r2 x.2 D (t + 1)).1 D F W ∧ (pa_win h r2 x.2 D (t + 1)).1 0 = nI (t + 1) ∧ pa_IK (pa_win h r2 x.2 D (t + 1)).1 D ∧ (∀ d, d < D → pf_E ((pa_win h r2 x.2 D (t + 1)).2 d) (1024 + 16777216 * (t + 1))) ∧ pa_IB (pa_win h r2 x.2 D (t + 1)).1 49 D (10 * ((t + 1) % wi)) ∧ pa_IB (pa_win h r2 x.2 D (t + 1)).1 45 4 (10 * (t + 1)) ∧ pa_IB (pa_win h r2 x.2 D (t + 1)).1 71 6 (600 * t) ∧ pa_IB (pa_win h r2 x.2 D (t + 1)).1 77 6 (6 * t) := by
    unfold pa_win
    rw [hwN]
    by_cases c : (t + 1) % wi = 0
    · rw [if_pos c]
      obtain ⟨a1, a2, a3, a4⟩ := pa_cwsI hI (M := 1024 + 16777216 * t) (by omega) D 0 r2 x.2 (by omega) (l2.mono (by omega)) (pa_IB.X (l2.mono (by omega))) k2 (fun j hj => by rw [if_neg (by omega)]; exact gE j hj)
      refine ⟨i2.congr hD hW (fun k hk => a4 k (by omega)), by rw [a4 0 (by omega), r20], a2, fun d hd => ?_, ?_, o2.congr (fun i hi => a4 _ (by omega)), p2.congr (fun i hi => a4 _ (by omega)), h2.congr (fun i hi => a4 _ (by omega))⟩
      · rw [show 1024 + 16777216 * (t + 1) = 1024 + 16777216 * t + 16777216 by omega]; exact a3 d hd
      · rw [c]; exact a1
    · rw [if_neg c]
      refine ⟨i2, r20, k2, fun d hd => (gE d hd).mono (by omega), ?_, o2, p2, h2⟩
      have : (t + 1) % wi = t % wi + 1 := by
        rw [Nat.add_mod]
        by_cases w3 : wi = 1
        · subst w3; exact absurd (Nat.mod_one _) c
        · rw [Nat.mod_eq_of_lt (show 1 < wi by omega)]
          refine Nat.mod_eq_of_lt ?_
          by_cases q : t % wi + 1 < wi
          · exact q
          · exfalso
            apply c
            rw [Nat.add_mod, Nat.mod_eq_of_lt (show 1 < wi by omega), show t % wi + 1 = wi by omega, Nat.mod_self]
      rw [this]
      exact l2.mono (by omega)
  obtain ⟨j1, j2, j3, j4, j5, j6, j7, j8⟩ := hwin
  obtain ⟨m1, m2, m3⟩ := pa_fillsI hI D 0 (pa_win h r2 x.2 D (t + 1)).1 (by omega) j1.1 j1.2.1
  have q1 : pa_I1 (pa_fills h F 0 D (pa_win h r2 x.2 D (t + 1)).1) D F W := by
    refine ⟨m1, m2, fun d hd => ?_, fun d hd => ?_, fun w hw => ?_⟩
    · rw [m3 _ (by omega)]; exact j1.2.2.1 d hd
    · rw [m3 _ (by omega)]; exact j1.2.2.2.1 d hd
    · rw [m3 _ (by omega)]; exact j1.2.2.2.2 w hw
  have q2 : pa_fills h F 0 D (pa_win h r2 x.2 D (t + 1)).1 0 = nI (t + 1) := by rw [m3 _ (by omega)]; exact j2
  have q3 : pa_IK (pa_fills h F 0 D (pa_win h r2 x.2 D (t + 1)).1) D := j3.congr (fun k hk => m3 _ (by omega))
  have q5 : pa_IB (pa_fills h F 0 D (pa_win h r2 x.2 D (t + 1)).1) 49 D (10 * ((t + 1) % wi)) := j5.congr (fun i hi => m3 _ (by omega))
  have q6 : pa_IB (pa_fills h F 0 D (pa_win h r2 x.2 D (t + 1)).1) 45 4 (10 * (t + 1)) := j6.congr (fun i hi => m3 _ (by omega))
  have q7 : pa_IB (pa_fills h F 0 D (pa_win h r2 x.2 D (t + 1)).1) 71 6 (600 * t) := j7.congr (fun i hi => m3 _ (by omega))
  have q8 : pa_IB (pa_fills h F 0 D (pa_win h r2 x.2 D (t + 1)).1) 77 6 (6 * t) := j8.congr (fun i hi => m3 _ (by omega))
  refine ⟨r1, r2, (pa_win h r2 x.2 D (t + 1)).1, pa_fills h F 0 D (pa_win h r2 x.2 D (t + 1)).1, (pa_win h r2 x.2 D (t + 1)).2, rfl, i1, by rw [← hr1, upd_self], hr2.symm, i2, r20, hWE, rfl, j1, j2, j3, j4, rfl, q1, q2, q3, q7, q8, tk, ?_⟩
  rw [tk]
  unfold pa_IV
  rw [hwN]
  generalize pa_fills h F 0 D (pa_win h r2 x.2 D (t + 1)).1 = r4 at *
  by_cases c : p.2.2.2 = 0
  · rw [if_pos c]
    obtain ⟨s1, s2, s3, s4, s5⟩ := pa_svsI (e := (pa_win h r2 x.2 D (t + 1)).2) (t := t + 1) hI hp.2.2 W 0 r4 (600 * t) (6 * t) (by omega) q1 q3 q7 q8 (by omega) (by omega)
    exact ⟨s1, (s5 0 (by omega)).trans q2, s2, q5.congr (fun i hi => s5 _ (by omega)), q6.congr (fun i hi => s5 _ (by omega)), s3.mono (by omega), s4.mono (by omega), j4⟩
  · rw [if_neg c]
    exact ⟨q1, q2, q3, q5, q6, q7.mono (by omega), q8.mono (by omega), j4⟩
theorem pa_ticksI {h : pa_R} {D F W : Nat} {p : pa_P} (hI : pa_HI h D F W) (hp : pa_PI h p) : ∀ (n t : Nat) (x : pa_R × pa_D), pa_IV h D F W t x → t + n ≤ 3000000 → pa_IV h D F W (t + n) (pa_ticks h D F W p n x)
  | 0, t, x, g, _ => g
  | n + 1, t, x, g, ht => by
    obtain ⟨_, _, _, _, _, _, _, _, _, _, _, _, _, _, _, _, _, _, _, _, _, _, _, _, gI⟩ := pa_stg hI hp g (by omega)
    have := pa_ticksI hI hp n (t + 1) (pa_tick h D F W p x) gI (by omega)
    rw [show t + (n + 1) = t + 1 + n by omega]
    exact this
