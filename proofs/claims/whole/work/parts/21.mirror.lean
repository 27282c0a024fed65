/-! mirrors: what a method does, as a function that may fail; and how a walk follows it -/
def ps_N : Nat := 10000
def ps_ok {α : Type} (o : Option (α × ps_S)) (P : α → ps_S → Prop) : Prop := ∃ x : α × ps_S, o = some x ∧ P x.1 x.2
theorem ps_no {α : Type} {P : α → ps_S → Prop} (h : ps_ok none P) : False := by
  obtain ⟨x, h1, -⟩ := h
  cases h1
theorem ps_so {α : Type} {a : α} {σ : ps_S} {P : α → ps_S → Prop} (h : ps_ok (some (a, σ)) P) : P a σ := by
  obtain ⟨x, h1, h2⟩ := h
  cases h1
  exact h2
theorem ps_os {α : Type} {a : α} {σ : ps_S} {P : α → ps_S → Prop} (h : P a σ) : ps_ok (some (a, σ)) P := ⟨(a, σ), rfl, h⟩
def ps_let {α β : Type} (a : α) (f : α → β) : β := f a
def ps_bd {α β : Type} (o : Option (α × ps_S)) (f : α → ps_S → Option (β × ps_S)) : Option (β × ps_S) := match o with
  | none => none
  | some (a, σ) => f a σ
theorem ps_ltE {α β : Type} {x a : α} {f : α → Option (β × ps_S)} {P : β → ps_S → Prop} (h : x = a) (hK : ps_ok (ps_let a f) P) : ps_ok (f x) P := by subst h; exact hK
theorem ps_ifT {β : Type} {c : Prop} {inst : Decidable c} {A B : Option (β × ps_S)} {P : β → ps_S → Prop} (h : c) (hK : ps_ok (if c then A else B) P) : ps_ok A P := by rw [if_pos h] at hK; exact hK
theorem ps_ifF {β : Type} {c : Prop} {inst : Decidable c} {A B : Option (β × ps_S)} {P : β → ps_S → Prop} (h : ¬ c) (hK : ps_ok (if c then A else B) P) : ps_ok B P := by rw [if_neg h] at hK; exact hK
theorem ps_gd {β : Type} {c : Prop} {inst : Decidable c} {A : Option (β × ps_S)} {P : β → ps_S → Prop} (hK : ps_ok (if c then A else none) P) : c ∧ ps_ok A P := by
  by_cases h : c
  · rw [if_pos h] at hK; exact ⟨h, hK⟩
  · rw [if_neg h] at hK; exact (ps_no hK).elim
theorem ps_bdE {α β : Type} {o : Option (α × ps_S)} {f : α → ps_S → Option (β × ps_S)} {P : β → ps_S → Prop} (hK : ps_ok (ps_bd o f) P) : ps_ok o (fun a σ => ps_ok (f a σ) P) := by
  cases o with
  | none => exact (ps_no hK).elim
  | some x => exact ⟨x, rfl, hK⟩
theorem ps_ok.mono {α : Type} {o : Option (α × ps_S)} {P P' : α → ps_S → Prop} (h : ps_ok o P) (hP : ∀ a σ, P a σ → P' a σ) : ps_ok o P' := by
  obtain ⟨x, h1, h2⟩ := h
  exact ⟨x, h1, hP _ _ h2⟩
def ps_qI (P : Int32 → ps_S → Prop) : Option Value → ps_S → Prop := fun r σ => ∃ x : Int32, r = some (.int x) ∧ P x σ
def ps_qL (P : Int64 → ps_S → Prop) : Option Value → ps_S → Prop := fun r σ => ∃ x : Int64, r = some (.long x) ∧ P x σ
def ps_qD (P : UInt64 → ps_S → Prop) : Option Value → ps_S → Prop := fun r σ => ∃ x : UInt64, r = some (.double x) ∧ P x σ
def ps_qV (P : Unit → ps_S → Prop) : Option Value → ps_S → Prop := fun r σ => r = none ∧ P () σ
/-- an index within, by its bits -/
def ps_in (i : Int32) (n : Nat) : Bool := decide (i.toBitVec.toNat < n ∧ n ≤ 2147483648)
theorem ps_in_nI {i : Int32} {n : Nat} (h : ps_in i n = true) : i.toBitVec.toNat < n ∧ n ≤ 2147483648 ∧ i = nI i.toBitVec.toNat := by
  have h1 : i.toBitVec.toNat < n ∧ n ≤ 2147483648 := of_decide_eq_true h
  refine ⟨h1.1, h1.2, ?_⟩
  apply Int32.toBitVec_inj.mp
  apply BitVec.eq_of_toNat_eq
  rw [show (nI i.toBitVec.toNat).toBitVec.toNat = i.toBitVec.toNat from pk_tn (by omega)]
theorem ps_in_of {i : Int32} {n : Nat} (h : ps_in i n = true) : vp_in i n := by
  obtain ⟨h1, h2, h3⟩ := ps_in_nI h
  rw [h3]
  by_cases hn : n < 2 ^ 31
  · exact vp_in_nI h1 hn
  · rw [vp_in_iff, nI_toInt (by omega)]
    omega
theorem ps_in_lt {i : Int32} {n : Nat} (h : ps_in i n = true) : i.toNatClampNeg < n := Nat.not_le.mp fun z => ps_in_of h (Or.inr z)
def ps_nn (r : UInt64) : Bool := decide (r &&& 0x7fffffffffffffff ≤ 0x7ff0000000000000)
theorem ps_nn_of {r : UInt64} (h : ps_nn r = true) : vf_n64 r := by unfold vf_n64; unfold ps_nn at h; exact of_decide_eq_true h
def ps_b01 (v : Int32) : Bool := v == 0 || v == 1
theorem ps_b01_or {v : Int32} (h : ps_b01 v = true) : v = 0 ∨ v = 1 := by
  unfold ps_b01 at h
  rcases Bool.or_eq_true_iff.mp h with h | h
  · exact Or.inl (by simpa using h)
  · exact Or.inr (by simpa using h)
theorem ps_nb {v : Int32} (h : ps_b01 v = true) : narrow .boolean (.int v) = .int v := by rcases ps_b01_or h with rfl | rfl <;> rfl
theorem ps_fb {v : Int32} (h : ps_b01 v = true) : fits .boolean (.int v) = true := by rcases ps_b01_or h with rfl | rfl <;> rfl
def ps_c16 (v : Int32) : Bool := decide (v.toBitVec.toNat < 65536)
theorem ps_nc {v : Int32} (h : ps_c16 v = true) : narrow .char (.int v) = .int v := by
  have h1 : v.toBitVec.toNat < 65536 := of_decide_eq_true h
  have h2 : v = nI v.toBitVec.toNat := by
    apply Int32.toBitVec_inj.mp
    apply BitVec.eq_of_toNat_eq
    rw [show (nI v.toBitVec.toNat).toBitVec.toNat = v.toBitVec.toNat from pk_tn (by omega)]
  rw [h2]
  exact (pk_charN h1).1
def pm_le : List (Option Value) → List (Option Value) → Prop
  | [], _ => True
  | none :: t, _ :: t' => pm_le t t'
  | none :: t, [] => pm_le t []
  | some v :: t, some w :: t' => v = w ∧ pm_le t t'
  | some _ :: _, none :: _ => False
  | some _ :: _, [] => False
theorem pm_le_at : ∀ (l' l : List (Option Value)) (i : Nat) (v : Value), pm_le l' l → pm_at l' i = some v → pm_at l i = some v
  | [], _, _, _, _, h => by simp [pm_at] at h
  | none :: t, _ :: t', 0, _, _, h => by simp [pm_at] at h
  | none :: t, b :: t', i + 1, v, hl, h => by
    have h1 := pm_le_at t t' i v (by simpa [pm_le] using hl) (by simpa [pm_at] using h)
    simpa [pm_at] using h1
  | none :: t, [], 0, _, _, h => by simp [pm_at] at h
  | none :: t, [], i + 1, v, hl, h => by
    have h1 := pm_le_at t [] i v (by simpa [pm_le] using hl) (by simpa [pm_at] using h)
    simp [pm_at] at h1
  | some a :: t, some b :: t', 0, v, hl, h => by
    have h2 : a = b := hl.1
    subst h2
    exact h
  | some a :: t, some b :: t', i + 1, v, hl, h => by
    have h1 := pm_le_at t t' i v hl.2 (by simpa [pm_at] using h)
    simpa [pm_at] using h1
  | some _ :: _, none :: _, _, _, hl, _ => hl.elim
  | some _ :: _, [], _, _, hl, _ => hl.elim
section PSM
variable {g : pm_G} {M : pm_M} {F : pm_F} {cn sn pc pc' : Nat} {ls : List (Option Value)} {st : List Value} {σ : ps_S} {k kd B off : Nat}
theorem pm_wk {N : Nat} {E : pm_E} {ls' : List (Option Value)} (h : pm_le ls' ls) (K : pm_W g M F cn sn pc ls' st N E) : pm_W g M F cn sn pc ls st N E := by
  intro p l e s m args below meth c hC H locs d0 L hd0 hL hWD hS hz
  exact K p l e s m args below meth c hC H locs d0 L hd0 ⟨hL.1, hL.2.1, fun i v hi => hL.2.2 i v (pm_le_at ls' ls i v h hi)⟩ hWD hS hz
theorem ps_roomC {d : Nat} {Q : Option Value → ps_S → Prop} (h : 1 ≤ d) : 1 ≤ (ps_F g d Q).1.frames ∧ 26 ≤ (ps_F g d Q).1.locals := ⟨h, by show 26 ≤ 48 * d; omega⟩
theorem ps_roomM {d : Nat} {Q : Option Value → ps_S → Prop} (h : 1 ≤ d) : 1 ≤ (ps_F g d Q).1.frames ∧ 21 ≤ (ps_F g d Q).1.locals ∧ 0 ≤ (ps_F g d Q).1.cells ∧ 0 ≤ (ps_F g d Q).1.slots := ⟨h, by show 21 ≤ 48 * d; omega, Nat.zero_le _, Nat.zero_le _⟩
theorem ps_swout {v : Int32} {lo : Int} {n : Nat} (hlo : 0 ≤ lo) (hn : lo + n < 2147483648) (h : ∀ k, k < n → ¬ v = Int32.ofInt (lo + k)) : v.toInt < lo ∨ lo + n - 1 < v.toInt := by
  by_cases h1 : v.toInt < lo
  · exact Or.inl h1
  · by_cases h2 : lo + n - 1 < v.toInt
    · exact Or.inr h2
    · refine absurd ?_ (h (v.toInt - lo).toNat (by omega))
      rw [show lo + ((v.toInt - lo).toNat : Int) = v.toInt by omega]
      exact (Int32.ofInt_toInt v).symm
theorem ps_St.at0 {B : Nat} (h : ps_St B) : ps_at B 5 B 0 := ⟨(h 0 (by decide)).1, rfl, (h 0 (by decide)).2⟩
theorem ps_Ho.at0 {B : Nat} (h : ps_Ho B) : ps_at B 2 B 0 := ⟨(h 0 (by decide)).1, rfl, (h 0 (by decide)).2⟩
theorem ps_Tr.at0 {B : Nat} (h : ps_Tr B) : ps_at B 7 B 0 := ⟨(h 0 (by decide)).1, rfl, (h 0 (by decide)).2⟩
theorem ps_cVI {M' : pm_M} {d' n ci nn : Nat} {As st0 : List Value} {T : u_T} {P' : Int32 → ps_S → Prop} (hd : pm_CV M pc M' pc') (hm : pm_MV M' n) (ha : ps_at k kd B off) (hb : ps_ob kd off ci) (hc : vwCl[ci]? = some (M'.2.1.cls, T, nn)) (hn : As.length = n) (hst : st0 = As.reverse ++ .ref (g.2.2.1 + k) :: st) (hR : ps_room F cn sn d' M'.2.2.2.1) (hs : (st.map fun v => v.category).sum ≤ 8) (hcon : ps_C g M' d' (.ref (g.2.2.1 + k) :: As) σ (ps_qI P')) (K : ∀ (x : Int32) (σ' : ps_S), P' x σ' → pm_W g M F cn sn pc' ls (.int x :: st) 345 (ps_E g σ')) : pm_W g M F cn sn pc ls st0 345 (ps_E g σ) := ps_callV hd hm ha hb hc hn hst hR hs hcon (fun r σ' ⟨x, e, h⟩ => by subst e; exact K x σ' h)
theorem ps_cSI {M' : pm_M} {d' n : Nat} {As st0 : List Value} {P' : Int32 → ps_S → Prop} (hd : pm_CS M pc M' pc') (hm : pm_MS M' n) (hn : As.length = n) (hst : st0 = As.reverse ++ st) (hR : ps_room F cn sn d' M'.2.2.2.1) (hs : (st.map fun v => v.category).sum ≤ 8) (hcon : ps_C g M' d' As σ (ps_qI P')) (K : ∀ (x : Int32) (σ' : ps_S), P' x σ' → pm_W g M F cn sn pc' ls (.int x :: st) 345 (ps_E g σ')) : pm_W g M F cn sn pc ls st0 345 (ps_E g σ) := ps_callS hd hm hn hst hR hs hcon (fun r σ' ⟨x, e, h⟩ => by subst e; exact K x σ' h)
theorem ps_cTI {M' : pm_M} {d' n i : Nat} {As st0 : List Value} {P' : Int32 → ps_S → Prop} (hi : i < 26) (hd : pm_CV M pc M' pc') (hm : pm_MV M' n) (hcl : M'.2.1.cls = "java/lang/String") (hn : As.length = n) (hst : st0 = As.reverse ++ .ref (g.2.2.2.1 i) :: st) (hR : ps_room F cn sn d' M'.2.2.2.1) (hs : (st.map fun v => v.category).sum ≤ 8) (hcon : ps_C g M' d' (.ref (g.2.2.2.1 i) :: As) σ (ps_qI P')) (K : ∀ (x : Int32) (σ' : ps_S), P' x σ' → pm_W g M F cn sn pc' ls (.int x :: st) 345 (ps_E g σ')) : pm_W g M F cn sn pc ls st0 345 (ps_E g σ) := ps_callT hi hd hm hcl hn hst hR hs hcon (fun r σ' ⟨x, e, h⟩ => by subst e; exact K x σ' h)
theorem ps_cVL {M' : pm_M} {d' n ci nn : Nat} {As st0 : List Value} {T : u_T} {P' : Int64 → ps_S → Prop} (hd : pm_CV M pc M' pc') (hm : pm_MV M' n) (ha : ps_at k kd B off) (hb : ps_ob kd off ci) (hc : vwCl[ci]? = some (M'.2.1.cls, T, nn)) (hn : As.length = n) (hst : st0 = As.reverse ++ .ref (g.2.2.1 + k) :: st) (hR : ps_room F cn sn d' M'.2.2.2.1) (hs : (st.map fun v => v.category).sum ≤ 8) (hcon : ps_C g M' d' (.ref (g.2.2.1 + k) :: As) σ (ps_qL P')) (K : ∀ (x : Int64) (σ' : ps_S), P' x σ' → pm_W g M F cn sn pc' ls (.long x :: st) 345 (ps_E g σ')) : pm_W g M F cn sn pc ls st0 345 (ps_E g σ) := ps_callV hd hm ha hb hc hn hst hR hs hcon (fun r σ' ⟨x, e, h⟩ => by subst e; exact K x σ' h)
theorem ps_cSL {M' : pm_M} {d' n : Nat} {As st0 : List Value} {P' : Int64 → ps_S → Prop} (hd : pm_CS M pc M' pc') (hm : pm_MS M' n) (hn : As.length = n) (hst : st0 = As.reverse ++ st) (hR : ps_room F cn sn d' M'.2.2.2.1) (hs : (st.map fun v => v.category).sum ≤ 8) (hcon : ps_C g M' d' As σ (ps_qL P')) (K : ∀ (x : Int64) (σ' : ps_S), P' x σ' → pm_W g M F cn sn pc' ls (.long x :: st) 345 (ps_E g σ')) : pm_W g M F cn sn pc ls st0 345 (ps_E g σ) := ps_callS hd hm hn hst hR hs hcon (fun r σ' ⟨x, e, h⟩ => by subst e; exact K x σ' h)
theorem ps_cTL {M' : pm_M} {d' n i : Nat} {As st0 : List Value} {P' : Int64 → ps_S → Prop} (hi : i < 26) (hd : pm_CV M pc M' pc') (hm : pm_MV M' n) (hcl : M'.2.1.cls = "java/lang/String") (hn : As.length = n) (hst : st0 = As.reverse ++ .ref (g.2.2.2.1 i) :: st) (hR : ps_room F cn sn d' M'.2.2.2.1) (hs : (st.map fun v => v.category).sum ≤ 8) (hcon : ps_C g M' d' (.ref (g.2.2.2.1 i) :: As) σ (ps_qL P')) (K : ∀ (x : Int64) (σ' : ps_S), P' x σ' → pm_W g M F cn sn pc' ls (.long x :: st) 345 (ps_E g σ')) : pm_W g M F cn sn pc ls st0 345 (ps_E g σ) := ps_callT hi hd hm hcl hn hst hR hs hcon (fun r σ' ⟨x, e, h⟩ => by subst e; exact K x σ' h)
theorem ps_cVD {M' : pm_M} {d' n ci nn : Nat} {As st0 : List Value} {T : u_T} {P' : UInt64 → ps_S → Prop} (hd : pm_CV M pc M' pc') (hm : pm_MV M' n) (ha : ps_at k kd B off) (hb : ps_ob kd off ci) (hc : vwCl[ci]? = some (M'.2.1.cls, T, nn)) (hn : As.length = n) (hst : st0 = As.reverse ++ .ref (g.2.2.1 + k) :: st) (hR : ps_room F cn sn d' M'.2.2.2.1) (hs : (st.map fun v => v.category).sum ≤ 8) (hcon : ps_C g M' d' (.ref (g.2.2.1 + k) :: As) σ (ps_qD P')) (K : ∀ (x : UInt64) (σ' : ps_S), P' x σ' → pm_W g M F cn sn pc' ls (.double x :: st) 345 (ps_E g σ')) : pm_W g M F cn sn pc ls st0 345 (ps_E g σ) := ps_callV hd hm ha hb hc hn hst hR hs hcon (fun r σ' ⟨x, e, h⟩ => by subst e; exact K x σ' h)
theorem ps_cSD {M' : pm_M} {d' n : Nat} {As st0 : List Value} {P' : UInt64 → ps_S → Prop} (hd : pm_CS M pc M' pc') (hm : pm_MS M' n) (hn : As.length = n) (hst : st0 = As.reverse ++ st) (hR : ps_room F cn sn d' M'.2.2.2.1) (hs : (st.map fun v => v.category).sum ≤ 8) (hcon : ps_C g M' d' As σ (ps_qD P')) (K : ∀ (x : UInt64) (σ' : ps_S), P' x σ' → pm_W g M F cn sn pc' ls (.double x :: st) 345 (ps_E g σ')) : pm_W g M F cn sn pc ls st0 345 (ps_E g σ) := ps_callS hd hm hn hst hR hs hcon (fun r σ' ⟨x, e, h⟩ => by subst e; exact K x σ' h)
theorem ps_cTD {M' : pm_M} {d' n i : Nat} {As st0 : List Value} {P' : UInt64 → ps_S → Prop} (hi : i < 26) (hd : pm_CV M pc M' pc') (hm : pm_MV M' n) (hcl : M'.2.1.cls = "java/lang/String") (hn : As.length = n) (hst : st0 = As.reverse ++ .ref (g.2.2.2.1 i) :: st) (hR : ps_room F cn sn d' M'.2.2.2.1) (hs : (st.map fun v => v.category).sum ≤ 8) (hcon : ps_C g M' d' (.ref (g.2.2.2.1 i) :: As) σ (ps_qD P')) (K : ∀ (x : UInt64) (σ' : ps_S), P' x σ' → pm_W g M F cn sn pc' ls (.double x :: st) 345 (ps_E g σ')) : pm_W g M F cn sn pc ls st0 345 (ps_E g σ) := ps_callT hi hd hm hcl hn hst hR hs hcon (fun r σ' ⟨x, e, h⟩ => by subst e; exact K x σ' h)
theorem ps_cVV {M' : pm_M} {d' n ci nn : Nat} {As st0 : List Value} {T : u_T} {P' : Unit → ps_S → Prop} (hd : pm_CV M pc M' pc') (hm : pm_MV M' n) (ha : ps_at k kd B off) (hb : ps_ob kd off ci) (hc : vwCl[ci]? = some (M'.2.1.cls, T, nn)) (hn : As.length = n) (hst : st0 = As.reverse ++ .ref (g.2.2.1 + k) :: st) (hR : ps_room F cn sn d' M'.2.2.2.1) (hs : (st.map fun v => v.category).sum ≤ 8) (hcon : ps_C g M' d' (.ref (g.2.2.1 + k) :: As) σ (ps_qV P')) (K : ∀ (σ' : ps_S), P' () σ' → pm_W g M F cn sn pc' ls st 345 (ps_E g σ')) : pm_W g M F cn sn pc ls st0 345 (ps_E g σ) := ps_callV hd hm ha hb hc hn hst hR hs hcon (fun r σ' ⟨e, h⟩ => by subst e; exact K σ' h)
theorem ps_cSV {M' : pm_M} {d' n : Nat} {As st0 : List Value} {P' : Unit → ps_S → Prop} (hd : pm_CS M pc M' pc') (hm : pm_MS M' n) (hn : As.length = n) (hst : st0 = As.reverse ++ st) (hR : ps_room F cn sn d' M'.2.2.2.1) (hs : (st.map fun v => v.category).sum ≤ 8) (hcon : ps_C g M' d' As σ (ps_qV P')) (K : ∀ (σ' : ps_S), P' () σ' → pm_W g M F cn sn pc' ls st 345 (ps_E g σ')) : pm_W g M F cn sn pc ls st0 345 (ps_E g σ) := ps_callS hd hm hn hst hR hs hcon (fun r σ' ⟨e, h⟩ => by subst e; exact K σ' h)
theorem ps_cTV {M' : pm_M} {d' n i : Nat} {As st0 : List Value} {P' : Unit → ps_S → Prop} (hi : i < 26) (hd : pm_CV M pc M' pc') (hm : pm_MV M' n) (hcl : M'.2.1.cls = "java/lang/String") (hn : As.length = n) (hst : st0 = As.reverse ++ .ref (g.2.2.2.1 i) :: st) (hR : ps_room F cn sn d' M'.2.2.2.1) (hs : (st.map fun v => v.category).sum ≤ 8) (hcon : ps_C g M' d' (.ref (g.2.2.2.1 i) :: As) σ (ps_qV P')) (K : ∀ (σ' : ps_S), P' () σ' → pm_W g M F cn sn pc' ls st 345 (ps_E g σ')) : pm_W g M F cn sn pc ls st0 345 (ps_E g σ) := ps_callT hi hd hm hcl hn hst hR hs hcon (fun r σ' ⟨e, h⟩ => by subst e; exact K σ' h)
end PSM
