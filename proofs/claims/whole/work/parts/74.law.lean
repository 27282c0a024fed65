/-! the laws: codes as numbers, their types, what they say -/
def pa_tyS (wr : Bool) (c : Nat) (T : List Bool) : Option (List Bool) :=
  if c < 1003 then some (false :: T)
  else if c = 1003 then (if wr = true then some (false :: T) else none)
  else if c = 3000 ∨ c = 3001 ∨ c = 3002 then (match T with | false :: false :: T => some (false :: T) | _ => none)
  else if c = 3003 ∨ c = 3004 ∨ c = 3005 then (match T with | false :: false :: T => some (true :: T) | _ => none)
  else if c = 3006 then (match T with | true :: T => some (true :: T) | _ => none)
  else if c = 3007 ∨ c = 3008 then (match T with | true :: true :: T => some (true :: T) | _ => none)
  else if c = 3009 then (match T with | false :: false :: true :: T => some (false :: T) | _ => none)
  else none
def pa_tyR (wr : Bool) : List Nat → List Bool → Option (List Bool)
  | [], T => some T
  | c :: l, T => match pa_tyS wr c T with
    | none => none
    | some T' => if T'.length ≤ 99 then pa_tyR wr l T' else none
def pa_clp (v : Int64) : Int32 := if v ≤ 1000000 then (if -1000000 ≤ v then v.toInt32 else -1000000) else 1000000
def pa_btw (c : Nat) (a b : Int32) : Int32 :=
  if c = 3003 then (if a = b then 1 else 0) else if c = 3004 then (if a < b then 1 else 0) else if c = 3005 then (if b < a then 1 else 0) else if c = 3007 then a &&& b else if c = 3008 then a ||| b
  else pa_clp (if c = 3000 then a.toInt64 + b.toInt64 else if c = 3001 then a.toInt64 - b.toInt64 else a.toInt64 * b.toInt64)
def pa_evS (w : Nat → Int32) (c : Nat) (S : List Int32) : List Int32 :=
  if c < 1000 then nI c :: S
  else if c ≤ 1003 then w (c - 1000) :: S
  else if c = 3006 then (match S with | a :: S => (1 - a) :: S | S => S)
  else if c = 3009 then (match S with | e :: t :: q :: S => (if q = 1 then t else e) :: S | S => S)
  else (match S with | b :: a :: S => pa_btw c a b :: S | S => S)
def pa_evR (w : Nat → Int32) : List Nat → List Int32 → List Int32
  | [], S => S
  | c :: l, S => pa_evR w l (pa_evS w c S)
/-- values of these types: what is a truth is 0 or 1 -/
def pa_vt : List Int32 → List Bool → Prop
  | [], [] => True
  | v :: S, t :: T => (t = true → v = 0 ∨ v = 1) ∧ pa_vt S T
  | _, _ => False
theorem pa_vt_len : ∀ {S : List Int32} {T : List Bool}, pa_vt S T → S.length = T.length
  | [], [], _ => rfl
  | _ :: _, _ :: _, h => by rw [List.length_cons, List.length_cons, pa_vt_len h.2]
  | [], _ :: _, h => h.elim
  | _ :: _, [], h => h.elim
theorem pa_and01 {a b : Int32} (ha : a = 0 ∨ a = 1) (hb : b = 0 ∨ b = 1) : a &&& b = 0 ∨ a &&& b = 1 := by
  rcases ha with rfl | rfl <;> rcases hb with rfl | rfl <;> decide
theorem pa_or01 {a b : Int32} (ha : a = 0 ∨ a = 1) (hb : b = 0 ∨ b = 1) : a ||| b = 0 ∨ a ||| b = 1 := by
  rcases ha with rfl | rfl <;> rcases hb with rfl | rfl <;> decide
/-- a step keeps types; and its shape -/
theorem pa_step {w : Nat → Int32} {wr : Bool} {c : Nat} {S : List Int32} {T T' : List Bool} (hv : pa_vt S T) (ht : pa_tyS wr c T = some T') :
    pa_vt (pa_evS w c S) T' ∧ ((c < 1000 ∧ pa_evS w c S = nI c :: S ∧ T' = false :: T) ∨ (1000 ≤ c ∧ c ≤ 1003 ∧ (c = 1003 → wr = true) ∧ pa_evS w c S = w (c - 1000) :: S ∧ T' = false :: T) ∨
      (c = 3006 ∧ ∃ a S0, S = a :: S0 ∧ (a = 0 ∨ a = 1) ∧ pa_evS w c S = (1 - a) :: S0) ∨
      (c = 3009 ∧ ∃ e t q S0, S = e :: t :: q :: S0 ∧ (q = 0 ∨ q = 1) ∧ pa_evS w c S = (if q = 1 then t else e) :: S0) ∨
      ((3000 ≤ c ∧ c ≤ 3005 ∨ c = 3007 ∨ c = 3008) ∧ ∃ b a S0, S = b :: a :: S0 ∧ (c = 3007 ∨ c = 3008 → (a = 0 ∨ a = 1) ∧ (b = 0 ∨ b = 1)) ∧ pa_evS w c S = pa_btw c a b :: S0)) := by
  unfold pa_tyS at ht
  by_cases c1 : c < 1003
  · rw [if_pos c1] at ht
    injection ht with ht
    subst ht
    by_cases c0 : c < 1000
    · have e : pa_evS w c S = nI c :: S := by unfold pa_evS; rw [if_pos c0]
      exact ⟨by rw [e]; exact ⟨(fun h => by cases h), hv⟩, Or.inl ⟨c0, e, rfl⟩⟩
    · have e : pa_evS w c S = w (c - 1000) :: S := by unfold pa_evS; rw [if_neg c0, if_pos (by omega)]
      exact ⟨by rw [e]; exact ⟨(fun h => by cases h), hv⟩, Or.inr (Or.inl ⟨by omega, by omega, by omega, e, rfl⟩)⟩
  · rw [if_neg c1] at ht
    by_cases c2 : c = 1003
    · rw [if_pos c2] at ht
      by_cases cw : wr = true
      · rw [if_pos cw] at ht
        injection ht with ht
        subst ht
        have e : pa_evS w c S = w (c - 1000) :: S := by unfold pa_evS; rw [if_neg (by omega), if_pos (by omega)]
        exact ⟨by rw [e]; exact ⟨(fun h => by cases h), hv⟩, Or.inr (Or.inl ⟨by omega, by omega, fun _ => cw, e, rfl⟩)⟩
      · rw [if_neg cw] at ht; cases ht
    · rw [if_neg c2] at ht
      by_cases c3 : c = 3000 ∨ c = 3001 ∨ c = 3002
      · rw [if_pos c3] at ht
        match T, S, hv, ht with
        | false :: false :: T, b :: a :: S, hv, ht =>
          injection ht with ht
          subst ht
          have e : pa_evS w c (b :: a :: S) = pa_btw c a b :: S := by unfold pa_evS; rw [if_neg (by omega), if_neg (by omega), if_neg (by omega), if_neg (by omega)]
          exact ⟨by rw [e]; exact ⟨(fun h => by cases h), hv.2.2⟩, Or.inr (Or.inr (Or.inr (Or.inr ⟨by omega, b, a, S, rfl, by omega, e⟩)))⟩
      · rw [if_neg c3] at ht
        by_cases c4 : c = 3003 ∨ c = 3004 ∨ c = 3005
        · rw [if_pos c4] at ht
          match T, S, hv, ht with
          | false :: false :: T, b :: a :: S, hv, ht =>
            injection ht with ht
            subst ht
            have e : pa_evS w c (b :: a :: S) = pa_btw c a b :: S := by unfold pa_evS; rw [if_neg (by omega), if_neg (by omega), if_neg (by omega), if_neg (by omega)]
            refine ⟨by
              rw [e]
              refine ⟨fun _ => ?_, hv.2.2⟩
              unfold pa_btw
              rcases c4 with rfl | rfl | rfl
              · rw [if_pos rfl]; by_cases q : a = b
                · rw [if_pos q]; exact Or.inr rfl
                · rw [if_neg q]; exact Or.inl rfl
              · rw [if_neg (by decide), if_pos rfl]; by_cases q : a < b
                · rw [if_pos q]; exact Or.inr rfl
                · rw [if_neg q]; exact Or.inl rfl
              · rw [if_neg (by decide), if_neg (by decide), if_pos rfl]; by_cases q : b < a
                · rw [if_pos q]; exact Or.inr rfl
                · rw [if_neg q]; exact Or.inl rfl, Or.inr (Or.inr (Or.inr (Or.inr ⟨by omega, b, a, S, rfl, by omega, e⟩)))⟩
        · rw [if_neg c4] at ht
          by_cases c5 : c = 3006
          · rw [if_pos c5] at ht
            match T, S, hv, ht with
            | true :: T, a :: S, hv, ht =>
              injection ht with ht
              subst ht
              have e : pa_evS w c (a :: S) = (1 - a) :: S := by unfold pa_evS; rw [if_neg (by omega), if_neg (by omega), if_pos c5]
              have ha := hv.1 rfl
              exact ⟨by rw [e]; exact ⟨fun _ => by rcases ha with rfl | rfl <;> decide, hv.2⟩, Or.inr (Or.inr (Or.inl ⟨c5, a, S, rfl, ha, e⟩))⟩
          · rw [if_neg c5] at ht
            by_cases c6 : c = 3007 ∨ c = 3008
            · rw [if_pos c6] at ht
              match T, S, hv, ht with
              | true :: true :: T, b :: a :: S, hv, ht =>
                injection ht with ht
                subst ht
                have e : pa_evS w c (b :: a :: S) = pa_btw c a b :: S := by unfold pa_evS; rw [if_neg (by omega), if_neg (by omega), if_neg (by omega), if_neg (by omega)]
                have hb := hv.1 rfl
                have ha := hv.2.1 rfl
                refine ⟨by
                  rw [e]
                  refine ⟨fun _ => ?_, hv.2.2⟩
                  unfold pa_btw
                  rcases c6 with rfl | rfl
                  · rw [if_neg (by decide), if_neg (by decide), if_neg (by decide), if_pos rfl]; exact pa_and01 ha hb
                  · rw [if_neg (by decide), if_neg (by decide), if_neg (by decide), if_neg (by decide), if_pos rfl]; exact pa_or01 ha hb, Or.inr (Or.inr (Or.inr (Or.inr ⟨Or.inr c6, b, a, S, rfl, fun _ => ⟨ha, hb⟩, e⟩)))⟩
            · rw [if_neg c6] at ht
              by_cases c7 : c = 3009
              · rw [if_pos c7] at ht
                match T, S, hv, ht with
                | false :: false :: true :: T, e0 :: t :: q :: S, hv, ht =>
                  injection ht with ht
                  subst ht
                  have e : pa_evS w c (e0 :: t :: q :: S) = (if q = 1 then t else e0) :: S := by unfold pa_evS; rw [if_neg (by omega), if_neg (by omega), if_neg (by omega), if_pos c7]
                  exact ⟨by rw [e]; exact ⟨(fun h => by cases h), hv.2.2.2⟩, Or.inr (Or.inr (Or.inr (Or.inl ⟨c7, e0, t, q, S, rfl, hv.2.2.1 rfl, e⟩)))⟩
              · rw [if_neg c7] at ht; cases ht
def pa_st (f : pa_R) : List Int32 → Prop
  | [] => True
  | v :: S => f S.length = v ∧ pa_st f S
theorem pa_st_up {f : pa_R} {k : Nat} {v : Int32} : ∀ {S : List Int32}, pa_st f S → S.length ≤ k → pa_st (upd f k v) S
  | [], _, _ => trivial
  | a :: S, h, hk => by
    rw [List.length_cons] at hk
    exact ⟨by rw [upd_ne _ _ (by omega)]; exact h.1, pa_st_up h.2 (by omega)⟩
theorem pa_st_push {f : pa_R} {v : Int32} {S : List Int32} (h : pa_st f S) : pa_st (upd f S.length v) (v :: S) := ⟨upd_self _ _ _, pa_st_up h (Nat.le_refl _)⟩
theorem pz_a950 (d : Nat) : (950 : Int32) + nI d = nI (950 + d) := nI_add 950 d
theorem pz_m1 {n : Nat} : nI (n + 1) - 1 = nI n := nI_pred n
theorem pz_p1 (n : Nat) : nI (n + 1) + -1 = nI n := by
  have h := nI_pred n
  rw [Int32.sub_eq_add_neg] at h
  exact h
theorem pz_p2 (n : Nat) : nI (n + 2) + -2 = nI n := by
  have h1 : nI (n + 2) - 2 = nI n := by
    have := nI_sub (a := n + 2) (b := 2) (by omega)
    rw [show n + 2 - 2 = n by omega] at this
    exact this
  rw [Int32.sub_eq_add_neg] at h1
  exact h1
theorem pg_btw {c : Nat} (h : 3000 ≤ c ∧ c ≤ 3005 ∨ c = 3007 ∨ c = 3008) (a b : Int32) (σ : ps_S) : qX9_between (nI c) a b σ = some (pa_btw c a b, σ) := by
  have cl : ∀ v : Int64, (if lg_cmp v 1000000 ≤ 0 then (if 0 ≤ lg_cmp v (-1000000) then some (v.toInt32, σ) else some ((-1000000 : Int64).toInt32, σ)) else some ((1000000 : Int64).toInt32, σ)) = some (pa_clp v, σ) := by
    intro v
    unfold pa_clp
    by_cases c1 : v ≤ 1000000
    · rw [if_pos ((lg_cmp_le _ _).mpr c1), if_pos c1]
      by_cases c2 : -1000000 ≤ v
      · rw [if_pos ((lg_cmp_ge _ _).mpr c2), if_pos c2]
      · rw [if_neg (mt (lg_cmp_ge _ _).mp c2), if_neg c2]; rfl
    · rw [if_neg (mt (lg_cmp_le _ _).mp c1), if_neg c1]; rfl
  rcases (show c = 3000 ∨ c = 3001 ∨ c = 3002 ∨ c = 3003 ∨ c = 3004 ∨ c = 3005 ∨ c = 3007 ∨ c = 3008 by omega) with rfl | rfl | rfl | rfl | rfl | rfl | rfl | rfl
  · show qX9_between 3000 a b σ = some (pa_clp (a.toInt64 + b.toInt64), σ)
    unfold qX9_between
    rw [if_neg (by decide), if_neg (by decide), if_neg (by decide), if_neg (by decide), if_neg (by decide), if_neg (by decide), if_pos rfl]
    exact cl _
  · show qX9_between 3001 a b σ = some (pa_clp (a.toInt64 - b.toInt64), σ)
    unfold qX9_between
    rw [if_neg (by decide), if_neg (by decide), if_neg (by decide), if_neg (by decide), if_neg (by decide), if_neg (by decide), if_neg (by decide), if_pos rfl]
    exact cl _
  · show qX9_between 3002 a b σ = some (pa_clp (a.toInt64 * b.toInt64), σ)
    unfold qX9_between
    rw [if_neg (by decide), if_neg (by decide), if_neg (by decide), if_neg (by decide), if_neg (by decide), if_neg (by decide), if_neg (by decide), if_neg (by decide)]
    exact cl _
  · show qX9_between 3003 a b σ = some (if a = b then 1 else 0, σ)
    unfold qX9_between
    rw [if_pos rfl]
    by_cases q : a = b
    · rw [if_pos q, if_pos q]
    · rw [if_neg q, if_neg q]
  · show qX9_between 3004 a b σ = some (if a < b then 1 else 0, σ)
    unfold qX9_between
    rw [if_neg (by decide), if_pos rfl]
    by_cases q : b ≤ a
    · rw [if_pos q, if_neg (Int32.not_lt.mpr q)]
    · rw [if_neg q, if_pos (Int32.not_le.mp q)]
  · show qX9_between 3005 a b σ = some (if b < a then 1 else 0, σ)
    unfold qX9_between
    rw [if_neg (by decide), if_neg (by decide), if_pos rfl]
    by_cases q : a ≤ b
    · rw [if_pos q, if_neg (Int32.not_lt.mpr q)]
    · rw [if_neg q, if_pos (Int32.not_le.mp q)]
  · show qX9_between 3007 a b σ = some (a &&& b, σ)
    unfold qX9_between
    rw [if_neg (by decide), if_neg (by decide), if_neg (by decide), if_neg (by decide), if_pos rfl]
  · show qX9_between 3008 a b σ = some (a ||| b, σ)
    unfold qX9_between
    rw [if_neg (by decide), if_neg (by decide), if_neg (by decide), if_neg (by decide), if_neg (by decide), if_pos rfl]

theorem pa_tyR_cons {wr : Bool} {c : Nat} {l : List Nat} {T T' : List Bool} (h : pa_tyR wr (c :: l) T = some T') : ∃ T1, pa_tyS wr c T = some T1 ∧ T1.length ≤ 99 ∧ pa_tyR wr l T1 = some T' := by
  rw [pa_tyR] at h
  cases h1 : pa_tyS wr c T with
  | none => rw [h1] at h; cases h
  | some T1 =>
    rw [h1] at h
    by_cases q : T1.length ≤ 99
    · simp only [if_pos q] at h
      exact ⟨T1, rfl, q, h⟩
    · simp only [if_neg q] at h
      cases h
theorem pz_lt {α β : Type} (a : α) (f : α → β) : ps_let a f = f a := rfl
theorem pg_reck0 {k many f : Nat} {x : Int32} {σ : ps_S} (hk : k < 2) (hm : many < 2 ^ 31) (h8 : σ.1 328 (8 + k) = nI many) : qX9_reckons_4 (nI k) (f + 1) x (nI many) σ = some ((x, nI many), σ) := by
  rw [qX9_reckons_4, pz_a8, if_pos (pz_ini (by omega) (by omega)), nI_clamp (by omega), pz_lt, h8, if_pos (nI_le (Nat.le_refl _) hm)]
theorem pg_reckn {k fr many i f n c : Nat} {σ : ps_S} (hk : k < 2) (hfm : fr + many ≤ 900) (hn : n ≤ 99) (h6 : σ.1 328 (6 + k) = nI fr) (h8 : σ.1 328 (8 + k) = nI many) (hi : i < many) (e0 : σ.1 328 (950 + fr + i) = nI c) (hc : c < 1000) : qX9_reckons_4 (nI k) (f + 1) (nI n) (nI i) σ = qX9_reckons_4 (nI k) f (nI (n + 1)) (nI (i + 1)) (ps_rI σ 333 (upd (σ.1 333) n (nI c))) := by
  rw [qX9_reckons_4, pz_a8, pz_a6, if_pos (pz_ini (by omega) (by omega)), nI_clamp (by omega), pz_lt, h8, if_neg (nI_ge (by omega) (by omega)), if_pos (pz_ini (by omega) (by omega)), nI_clamp (by omega), pz_lt, h6, pz_a950, nI_add, if_pos (pz_ini (by omega) (by omega)), nI_clamp (by omega), pz_lt, e0]
  have n1 : ¬ (3000 : Int32) ≤ nI c := nI_ge (a := c) (b := 3000) (by omega) (by omega)
  have n2 : ¬ (1000 : Int32) ≤ nI c := nI_ge (a := c) (b := 1000) (by omega) (by omega)
  rw [if_neg n1, if_neg n2, if_pos (pz_ini (by omega) (by omega)), nI_clamp (by omega), pz_lt, pz_lt, pz_lt, nI_1, nI_1]
theorem pg_reckw {k fr many i f n c : Nat} {σ : ps_S} (hk : k < 2) (hfm : fr + many ≤ 900) (hn : n ≤ 99) (h6 : σ.1 328 (6 + k) = nI fr) (h8 : σ.1 328 (8 + k) = nI many) (hi : i < many) (e0 : σ.1 328 (950 + fr + i) = nI c) (hc : 1000 ≤ c ∧ c ≤ 1003) : qX9_reckons_4 (nI k) (f + 1) (nI n) (nI i) σ = qX9_reckons_4 (nI k) f (nI (n + 1)) (nI (i + 1)) (ps_rI σ 333 (upd (σ.1 333) n (σ.1 334 (c - 1000)))) := by
  rw [qX9_reckons_4, pz_a8, pz_a6, if_pos (pz_ini (by omega) (by omega)), nI_clamp (by omega), pz_lt, h8, if_neg (nI_ge (by omega) (by omega)), if_pos (pz_ini (by omega) (by omega)), nI_clamp (by omega), pz_lt, h6, pz_a950, nI_add, if_pos (pz_ini (by omega) (by omega)), nI_clamp (by omega), pz_lt, e0]
  have n1 : ¬ (3000 : Int32) ≤ nI c := nI_ge (a := c) (b := 3000) (by omega) (by omega)
  have n2 : (1000 : Int32) ≤ nI c := nI_le (a := 1000) (b := c) (by omega) (by omega)
  have e2 : nI c - 1000 = nI (c - 1000) := nI_sub (b := 1000) (by omega)
  rw [if_neg n1, if_pos n2, e2, if_pos (pz_ini (a := c - 1000) (by omega) (by omega)), nI_clamp (n := c - 1000) (by omega), pz_lt, if_pos (pz_ini (by omega) (by omega)), nI_clamp (by omega), pz_lt, pz_lt, pz_lt, nI_1, nI_1]
theorem pg_recknot {k fr many i f n c : Nat} {σ : ps_S} (hk : k < 2) (hfm : fr + many ≤ 900) (hn : n ≤ 99) (h6 : σ.1 328 (6 + k) = nI fr) (h8 : σ.1 328 (8 + k) = nI many) (hi : i < many) (e0 : σ.1 328 (950 + fr + i) = nI c) (hc : c = 3006) (hn1 : 1 ≤ n) : qX9_reckons_4 (nI k) (f + 1) (nI n) (nI i) σ = qX9_reckons_4 (nI k) f (nI n) (nI (i + 1)) (ps_rI σ 333 (upd (σ.1 333) (n - 1) (1 - σ.1 333 (n - 1)))) := by
  rw [qX9_reckons_4, pz_a8, pz_a6, if_pos (pz_ini (by omega) (by omega)), nI_clamp (by omega), pz_lt, h8, if_neg (nI_ge (by omega) (by omega)), if_pos (pz_ini (by omega) (by omega)), nI_clamp (by omega), pz_lt, h6, pz_a950, nI_add, if_pos (pz_ini (by omega) (by omega)), nI_clamp (by omega), pz_lt, e0]
  subst hc
  obtain ⟨m, rfl⟩ : ∃ m, n = m + 1 := ⟨n - 1, by omega⟩
  have n1 : (3000 : Int32) ≤ nI 3006 := nI_le (a := 3000) (b := 3006) (by omega) (by omega)
  have n2 : nI 3006 = (3006 : Int32) := rfl
  rw [if_pos n1, if_pos n2, pz_m1, if_pos (pz_ini (a := m) (by omega) (by omega)), nI_clamp (n := m) (by omega), pz_lt, if_pos (pz_ini (a := m) (by omega) (by omega)), pz_lt, pz_lt, nI_1, Nat.add_sub_cancel]
theorem pg_reckif {k fr many i f n c : Nat} {σ : ps_S} (hk : k < 2) (hfm : fr + many ≤ 900) (hn : n ≤ 99) (h6 : σ.1 328 (6 + k) = nI fr) (h8 : σ.1 328 (8 + k) = nI many) (hi : i < many) (e0 : σ.1 328 (950 + fr + i) = nI c) (hc : c = 3009) (hn1 : 3 ≤ n) : qX9_reckons_4 (nI k) (f + 1) (nI n) (nI i) σ = qX9_reckons_4 (nI k) f (nI (n - 2)) (nI (i + 1)) (ps_rI σ 333 (upd (σ.1 333) (n - 3) (if σ.1 333 (n - 3) = 1 then σ.1 333 (n - 2) else σ.1 333 (n - 1)))) := by
  rw [qX9_reckons_4, pz_a8, pz_a6, if_pos (pz_ini (by omega) (by omega)), nI_clamp (by omega), pz_lt, h8, if_neg (nI_ge (by omega) (by omega)), if_pos (pz_ini (by omega) (by omega)), nI_clamp (by omega), pz_lt, h6, pz_a950, nI_add, if_pos (pz_ini (by omega) (by omega)), nI_clamp (by omega), pz_lt, e0]
  subst hc
  obtain ⟨m, rfl⟩ : ∃ m, n = m + 3 := ⟨n - 3, by omega⟩
  have n1 : (3000 : Int32) ≤ nI 3009 := nI_le (a := 3000) (b := 3009) (by omega) (by omega)
  have n2 : ¬ nI 3009 = (3006 : Int32) := fun h => by
    have := (nI_eq (a := 3009) (b := 3006) (by omega) (by omega)).mp h
    omega
  have n3 : nI 3009 = (3009 : Int32) := rfl
  have e1 : nI (m + 3) + -2 = nI (m + 1) := pz_p2 (m + 1)
  have e2 : m + 3 - 3 = m := by omega
  have e3 : m + 3 - 2 = m + 1 := by omega
  have e4 : m + 3 - 1 = m + 2 := by omega
  rw [if_pos n1, if_neg n2, if_pos n3, pz_lt, e1, pz_m1, if_pos (pz_ini (a := m) (by omega) (by omega)), nI_clamp (n := m) (by omega), pz_lt, e2, e3, e4]
  by_cases cq : σ.1 333 m = 1
  · rw [if_pos cq, if_pos cq, if_pos (pz_ini (a := m + 1) (by omega) (by omega)), nI_clamp (n := m + 1) (by omega), pz_lt, if_pos (pz_ini (a := m) (by omega) (by omega)), pz_lt, pz_lt, nI_1]
  · rw [if_neg cq, if_neg cq, nI_1 (m + 1), if_pos (pz_ini (a := m + 1 + 1) (by omega) (by omega)), nI_clamp (n := m + 1 + 1) (by omega), pz_lt, if_pos (pz_ini (a := m) (by omega) (by omega)), pz_lt, pz_lt, nI_1]
theorem pg_reckop {k fr many i f n c : Nat} {σ : ps_S} (hk : k < 2) (hfm : fr + many ≤ 900) (hn : n ≤ 99) (h6 : σ.1 328 (6 + k) = nI fr) (h8 : σ.1 328 (8 + k) = nI many) (hi : i < many) (e0 : σ.1 328 (950 + fr + i) = nI c) (hc : 3000 ≤ c ∧ c ≤ 3005 ∨ c = 3007 ∨ c = 3008) (hn1 : 2 ≤ n) : qX9_reckons_4 (nI k) (f + 1) (nI n) (nI i) σ = qX9_reckons_4 (nI k) f (nI (n - 1)) (nI (i + 1)) (ps_rI σ 333 (upd (σ.1 333) (n - 2) (pa_btw c (σ.1 333 (n - 2)) (σ.1 333 (n - 1))))) := by
  rw [qX9_reckons_4, pz_a8, pz_a6, if_pos (pz_ini (by omega) (by omega)), nI_clamp (by omega), pz_lt, h8, if_neg (nI_ge (by omega) (by omega)), if_pos (pz_ini (by omega) (by omega)), nI_clamp (by omega), pz_lt, h6, pz_a950, nI_add, if_pos (pz_ini (by omega) (by omega)), nI_clamp (by omega), pz_lt, e0]
  obtain ⟨m, rfl⟩ : ∃ m, n = m + 2 := ⟨n - 2, by omega⟩
  have n6 : ¬ nI c = 3006 := fun h => by
    have := (nI_eq (a := c) (b := 3006) (by omega) (by omega)).mp h
    omega
  have n9 : ¬ nI c = 3009 := fun h => by
    have := (nI_eq (a := c) (b := 3009) (by omega) (by omega)).mp h
    omega
  have g3 : (3000 : Int32) ≤ nI c := nI_le (a := 3000) (b := c) (by omega) (by omega)
  have e1 : nI (m + 2) + -1 = nI (m + 1) := pz_p1 (m + 1)
  have e2 : m + 2 - 2 = m := by omega
  have e3 : m + 2 - 1 = m + 1 := by omega
  rw [if_pos g3, if_neg n6, if_neg n9, pz_lt, e1, pz_m1, if_pos (pz_ini (a := m) (by omega) (by omega)), nI_clamp (n := m) (by omega), pz_lt, if_pos (pz_ini (a := m + 1) (by omega) (by omega)), nI_clamp (n := m + 1) (by omega), pz_lt, pz_bde (pg_btw hc _ _ σ), if_pos (pz_ini (a := m) (by omega) (by omega)), pz_lt, pz_lt, nI_1, e2, e3]
theorem pg_reckL {wr : Bool} {w : Nat → Int32} {k fr many : Nat} (hk : k < 2) (hfm : fr + many ≤ 900) : ∀ (l : List Nat) (S : List Int32) (T T' : List Bool) (i fuel : Nat) (σ : ps_S), σ.1 328 (6 + k) = nI fr → σ.1 328 (8 + k) = nI many → (∀ j, j < 4 → σ.1 334 j = w j) → i + l.length = many → (∀ t c, l[t]? = some c → σ.1 328 (950 + fr + i + t) = nI c) → pa_st (σ.1 333) S → pa_vt S T → S.length ≤ 99 → pa_tyR wr l T = some T' → l.length < fuel →
    ∃ τ, qX9_reckons_4 (nI k) fuel (nI S.length) (nI i) σ = some ((nI (pa_evR w l S).length, nI many), τ) ∧ pa_st (τ.1 333) (pa_evR w l S) ∧ (∀ c, c ≠ 333 → τ.1 c = σ.1 c) ∧ τ.2 = σ.2 ∧ pa_vt (pa_evR w l S) T' := by
  intro l
  induction l with
  | nil =>
    intro S T T' i fuel σ h6 h8 hw hi hc hst hv hS ht hf
    obtain ⟨f, rfl⟩ : ∃ f, fuel = f + 1 := ⟨fuel - 1, by omega⟩
    have : i = many := by rw [List.length_nil] at hi; omega
    subst this
    injection ht with ht
    subst ht
    exact ⟨σ, pg_reck0 hk (by omega) h8, hst, fun _ _ => rfl, rfl, hv⟩
  | cons c l ih =>
    intro S T T' i fuel σ h6 h8 hw hi hc hst hv hS ht hf
    obtain ⟨f, rfl⟩ : ∃ f, fuel = f + 1 := ⟨fuel - 1, by omega⟩
    rw [List.length_cons] at hi hf
    obtain ⟨T1, h1, ht1, ht⟩ := pa_tyR_cons ht
    obtain ⟨hv1, hcase⟩ := pa_step (w := w) hv h1
    have hl1 := pa_vt_len hv1
    have e0 := hc 0 c rfl
    rw [Nat.add_zero] at e0
    have go : ∀ (m : Nat) (v : Int32), pa_st (upd (σ.1 333) m v) (pa_evS w c S) → ∃ τ, qX9_reckons_4 (nI k) f (nI (pa_evS w c S).length) (nI (i + 1)) (ps_rI σ 333 (upd (σ.1 333) m v)) = some ((nI (pa_evR w (c :: l) S).length, nI many), τ) ∧ pa_st (τ.1 333) (pa_evR w (c :: l) S) ∧ (∀ c, c ≠ 333 → τ.1 c = σ.1 c) ∧ τ.2 = σ.2 ∧ pa_vt (pa_evR w (c :: l) S) T' := by
      intro m v g3
      have g1 : ∀ x, x ≠ 333 → (ps_rI σ 333 (upd (σ.1 333) m v)).1 x = σ.1 x := fun x hx => ps_rI_ne _ _ hx
      obtain ⟨τ, k1, k2, k3, k4, k5⟩ := ih (pa_evS w c S) T1 T' (i + 1) f (ps_rI σ 333 (upd (σ.1 333) m v)) (by rw [g1 _ (by decide)]; exact h6) (by rw [g1 _ (by decide)]; exact h8) (fun j hj => by rw [g1 _ (by decide)]; exact hw j hj) (by omega) (fun t c' hcc => by
        rw [g1 _ (by decide), show 950 + fr + (i + 1) + t = 950 + fr + i + (t + 1) by omega]
        exact hc (t + 1) c' hcc) (by rw [ps_rI_at]; exact g3) hv1 (by omega) ht (by omega)
      exact ⟨τ, k1, k2, fun x hx => (k3 x hx).trans (g1 x hx), k4, k5⟩
    rcases hcase with ⟨q1, q2, -⟩ | ⟨q1, q2, -, q3, -⟩ | ⟨q1, a, S0, q2, qa, q3⟩ | ⟨q1, e1, t1, q, S0, q2, qq, q3⟩ | ⟨q1, b, a, S0, q2, qq, q3⟩
    · rw [pg_reckn hk hfm hS h6 h8 (by omega) e0 q1]
      have := go S.length (nI c) (by rw [q2]; exact pa_st_push hst)
      rw [q2, List.length_cons] at this
      exact this
    · rw [pg_reckw hk hfm hS h6 h8 (by omega) e0 ⟨q1, q2⟩, hw _ (by omega)]
      have := go S.length (w (c - 1000)) (by rw [q3]; exact pa_st_push hst)
      rw [q3, List.length_cons] at this
      exact this
    · subst q2
      rw [List.length_cons] at hS ⊢
      have ea : σ.1 333 S0.length = a := hst.1
      rw [pg_recknot hk hfm hS h6 h8 (by omega) e0 q1 (by omega), Nat.add_sub_cancel, ea]
      have := go S0.length (1 - a) (by rw [q3]; exact pa_st_push hst.2)
      rw [q3, List.length_cons] at this
      exact this
    · subst q2
      rw [List.length_cons, List.length_cons, List.length_cons] at hS ⊢
      have eq : σ.1 333 S0.length = q := hst.2.2.1
      have et : σ.1 333 (S0.length + 1) = t1 := hst.2.1
      have ee : σ.1 333 (S0.length + 1 + 1) = e1 := hst.1
      rw [pg_reckif hk hfm hS h6 h8 (by omega) e0 q1 (by omega), show S0.length + 1 + 1 + 1 - 3 = S0.length by omega, show S0.length + 1 + 1 + 1 - 2 = S0.length + 1 by omega, show S0.length + 1 + 1 + 1 - 1 = S0.length + 1 + 1 by omega, eq, et, ee]
      have := go S0.length (if q = 1 then t1 else e1) (by rw [q3]; exact pa_st_push hst.2.2.2)
      rw [q3, List.length_cons] at this
      exact this
    · subst q2
      rw [List.length_cons, List.length_cons] at hS ⊢
      have ea : σ.1 333 S0.length = a := hst.2.1
      have eb : σ.1 333 (S0.length + 1) = b := hst.1
      rw [pg_reckop hk hfm hS h6 h8 (by omega) e0 q1 (by omega), show S0.length + 1 + 1 - 2 = S0.length by omega, show S0.length + 1 + 1 - 1 = S0.length + 1 by omega, ea, eb]
      have := go S0.length (pa_btw c a b) (by rw [q3]; exact pa_st_push hst.2.2)
      rw [q3, List.length_cons] at this
      exact this
