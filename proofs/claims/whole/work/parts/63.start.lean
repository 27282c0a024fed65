/-! the law's entry: what the Statement gives, as the surroundings have it -/
theorem pq_str : ∀ q ∈ pm_str, Cond.stringRef q.1 q.2.1 q.2.2.1 ∈ tables_1 := by decide +kernel
theorem pq_nest : ∀ q ∈ pm_nest, Cond.methodLinkNest q.1 q.2.1 q.2.2.1 q.2.2.2 ∈ tables_1 := by decide +kernel
theorem pq_ao6 : Cond.arrayOver (.object RX6) ∈ tables_1 := by decide +kernel
theorem pq_ao7 : Cond.arrayOver (.object RX7) ∈ tables_1 := by decide +kernel
theorem pq_ao2 : Cond.arrayOver (.object RX2) ∈ tables_1 := by decide +kernel
theorem pq_ls1 : Cond.laysStatic "java/lang/String" "COMPACT_STRINGS" "Z" ∈ tables_1 := by decide +kernel
theorem pq_ls2 : Cond.laysStatic "jdk/internal/util/Preconditions" "SIOOBE_FORMATTER" "Ljava/util/function/BiFunction;" ∈ tables_1 := by decide +kernel
theorem pq_in1 : Cond.initialized "java/lang/String" ∈ tables_1 := by decide +kernel
theorem pq_in2 : Cond.initialized "jdk/internal/util/Preconditions" ∈ tables_1 := by decide +kernel
def pq_tm (i : Nat) : Term := .string ((pm_str.getD i ("", 0, "", 0)).1) ((pm_str.getD i ("", 0, "", 0)).2.1)
def pq_F : List Cond := flatC (Jvm.Cond.and given_1 narrow_1)
theorem pq_ex : ∀ i, i < 26 → Cond.exactly (pq_tm i) "java/lang/String" ∈ pq_F := by decide +kernel
theorem pq_co : ∀ i, i < 26 → Cond.eq (.field (pq_tm i) "java/lang/String" "coder" "B") (.int 0) ∈ pq_F := by decide +kernel
theorem pq_ar : ∀ i, i < 26 → Cond.arrayOf (.field (pq_tm i) "java/lang/String" "value" "[B") .byte ∈ pq_F := by decide +kernel
theorem pq_le : ∀ i, i < 26 → Cond.eq (.length (.field (pq_tm i) "java/lang/String" "value" "[B")) (.int (Int32.ofNat (pm_len.getD i 0))) ∈ pq_F := by decide +kernel
theorem pq_el0 : ∀ j, j < pm_len.getD 0 0 → pq_F[43 + j]? = some (Cond.eq (.elem (.field (pq_tm 0) "java/lang/String" "value" "[B") (.int (Int32.ofNat j))) (.int ((pm_byt.getD 0 []).getD j 0))) := by decide +kernel
theorem pq_el1 : ∀ j, j < pm_len.getD 1 0 → pq_F[59 + j]? = some (Cond.eq (.elem (.field (pq_tm 1) "java/lang/String" "value" "[B") (.int (Int32.ofNat j))) (.int ((pm_byt.getD 1 []).getD j 0))) := by decide +kernel
theorem pq_el2 : ∀ j, j < pm_len.getD 2 0 → pq_F[67 + j]? = some (Cond.eq (.elem (.field (pq_tm 2) "java/lang/String" "value" "[B") (.int (Int32.ofNat j))) (.int ((pm_byt.getD 2 []).getD j 0))) := by decide +kernel
theorem pq_el3 : ∀ j, j < pm_len.getD 3 0 → pq_F[76 + j]? = some (Cond.eq (.elem (.field (pq_tm 3) "java/lang/String" "value" "[B") (.int (Int32.ofNat j))) (.int ((pm_byt.getD 3 []).getD j 0))) := by decide +kernel
theorem pq_el4 : ∀ j, j < pm_len.getD 4 0 → pq_F[90 + j]? = some (Cond.eq (.elem (.field (pq_tm 4) "java/lang/String" "value" "[B") (.int (Int32.ofNat j))) (.int ((pm_byt.getD 4 []).getD j 0))) := by decide +kernel
theorem pq_el5 : ∀ j, j < pm_len.getD 5 0 → pq_F[97 + j]? = some (Cond.eq (.elem (.field (pq_tm 5) "java/lang/String" "value" "[B") (.int (Int32.ofNat j))) (.int ((pm_byt.getD 5 []).getD j 0))) := by decide +kernel
theorem pq_el6 : ∀ j, j < pm_len.getD 6 0 → pq_F[106 + j]? = some (Cond.eq (.elem (.field (pq_tm 6) "java/lang/String" "value" "[B") (.int (Int32.ofNat j))) (.int ((pm_byt.getD 6 []).getD j 0))) := by decide +kernel
theorem pq_el7 : ∀ j, j < pm_len.getD 7 0 → pq_F[116 + j]? = some (Cond.eq (.elem (.field (pq_tm 7) "java/lang/String" "value" "[B") (.int (Int32.ofNat j))) (.int ((pm_byt.getD 7 []).getD j 0))) := by decide +kernel
theorem pq_el8 : ∀ j, j < pm_len.getD 8 0 → pq_F[125 + j]? = some (Cond.eq (.elem (.field (pq_tm 8) "java/lang/String" "value" "[B") (.int (Int32.ofNat j))) (.int ((pm_byt.getD 8 []).getD j 0))) := by decide +kernel
theorem pq_el9 : ∀ j, j < pm_len.getD 9 0 → pq_F[134 + j]? = some (Cond.eq (.elem (.field (pq_tm 9) "java/lang/String" "value" "[B") (.int (Int32.ofNat j))) (.int ((pm_byt.getD 9 []).getD j 0))) := by decide +kernel
theorem pq_el10 : ∀ j, j < pm_len.getD 10 0 → pq_F[144 + j]? = some (Cond.eq (.elem (.field (pq_tm 10) "java/lang/String" "value" "[B") (.int (Int32.ofNat j))) (.int ((pm_byt.getD 10 []).getD j 0))) := by decide +kernel
theorem pq_el11 : ∀ j, j < pm_len.getD 11 0 → pq_F[153 + j]? = some (Cond.eq (.elem (.field (pq_tm 11) "java/lang/String" "value" "[B") (.int (Int32.ofNat j))) (.int ((pm_byt.getD 11 []).getD j 0))) := by decide +kernel
theorem pq_el12 : ∀ j, j < pm_len.getD 12 0 → pq_F[161 + j]? = some (Cond.eq (.elem (.field (pq_tm 12) "java/lang/String" "value" "[B") (.int (Int32.ofNat j))) (.int ((pm_byt.getD 12 []).getD j 0))) := by decide +kernel
theorem pq_el13 : ∀ j, j < pm_len.getD 13 0 → pq_F[167 + j]? = some (Cond.eq (.elem (.field (pq_tm 13) "java/lang/String" "value" "[B") (.int (Int32.ofNat j))) (.int ((pm_byt.getD 13 []).getD j 0))) := by decide +kernel
theorem pq_el14 : ∀ j, j < pm_len.getD 14 0 → pq_F[177 + j]? = some (Cond.eq (.elem (.field (pq_tm 14) "java/lang/String" "value" "[B") (.int (Int32.ofNat j))) (.int ((pm_byt.getD 14 []).getD j 0))) := by decide +kernel
theorem pq_el15 : ∀ j, j < pm_len.getD 15 0 → pq_F[183 + j]? = some (Cond.eq (.elem (.field (pq_tm 15) "java/lang/String" "value" "[B") (.int (Int32.ofNat j))) (.int ((pm_byt.getD 15 []).getD j 0))) := by decide +kernel
theorem pq_el16 : ∀ j, j < pm_len.getD 16 0 → pq_F[192 + j]? = some (Cond.eq (.elem (.field (pq_tm 16) "java/lang/String" "value" "[B") (.int (Int32.ofNat j))) (.int ((pm_byt.getD 16 []).getD j 0))) := by decide +kernel
theorem pq_el17 : ∀ j, j < pm_len.getD 17 0 → pq_F[198 + j]? = some (Cond.eq (.elem (.field (pq_tm 17) "java/lang/String" "value" "[B") (.int (Int32.ofNat j))) (.int ((pm_byt.getD 17 []).getD j 0))) := by decide +kernel
theorem pq_el18 : ∀ j, j < pm_len.getD 18 0 → pq_F[205 + j]? = some (Cond.eq (.elem (.field (pq_tm 18) "java/lang/String" "value" "[B") (.int (Int32.ofNat j))) (.int ((pm_byt.getD 18 []).getD j 0))) := by decide +kernel
theorem pq_el19 : ∀ j, j < pm_len.getD 19 0 → pq_F[212 + j]? = some (Cond.eq (.elem (.field (pq_tm 19) "java/lang/String" "value" "[B") (.int (Int32.ofNat j))) (.int ((pm_byt.getD 19 []).getD j 0))) := by decide +kernel
theorem pq_el20 : ∀ j, j < pm_len.getD 20 0 → pq_F[218 + j]? = some (Cond.eq (.elem (.field (pq_tm 20) "java/lang/String" "value" "[B") (.int (Int32.ofNat j))) (.int ((pm_byt.getD 20 []).getD j 0))) := by decide +kernel
theorem pq_el21 : ∀ j, j < pm_len.getD 21 0 → pq_F[226 + j]? = some (Cond.eq (.elem (.field (pq_tm 21) "java/lang/String" "value" "[B") (.int (Int32.ofNat j))) (.int ((pm_byt.getD 21 []).getD j 0))) := by decide +kernel
theorem pq_el22 : ∀ j, j < pm_len.getD 22 0 → pq_F[234 + j]? = some (Cond.eq (.elem (.field (pq_tm 22) "java/lang/String" "value" "[B") (.int (Int32.ofNat j))) (.int ((pm_byt.getD 22 []).getD j 0))) := by decide +kernel
theorem pq_el23 : ∀ j, j < pm_len.getD 23 0 → pq_F[241 + j]? = some (Cond.eq (.elem (.field (pq_tm 23) "java/lang/String" "value" "[B") (.int (Int32.ofNat j))) (.int ((pm_byt.getD 23 []).getD j 0))) := by decide +kernel
theorem pq_el24 : ∀ j, j < pm_len.getD 24 0 → pq_F[249 + j]? = some (Cond.eq (.elem (.field (pq_tm 24) "java/lang/String" "value" "[B") (.int (Int32.ofNat j))) (.int ((pm_byt.getD 24 []).getD j 0))) := by decide +kernel
theorem pq_el25 : ∀ j, j < pm_len.getD 25 0 → pq_F[257 + j]? = some (Cond.eq (.elem (.field (pq_tm 25) "java/lang/String" "value" "[B") (.int (Int32.ofNat j))) (.int ((pm_byt.getD 25 []).getD j 0))) := by decide +kernel
theorem pq_el : ∀ i, i < 26 → ∀ j, j < pm_len.getD i 0 → Cond.eq (.elem (.field (pq_tm i) "java/lang/String" "value" "[B") (.int (Int32.ofNat j))) (.int ((pm_byt.getD i []).getD j 0)) ∈ pq_F := fun i hi => match i, hi with
  | 0, _ => fun j hj => List.mem_of_getElem? (pq_el0 j hj)
  | 1, _ => fun j hj => List.mem_of_getElem? (pq_el1 j hj)
  | 2, _ => fun j hj => List.mem_of_getElem? (pq_el2 j hj)
  | 3, _ => fun j hj => List.mem_of_getElem? (pq_el3 j hj)
  | 4, _ => fun j hj => List.mem_of_getElem? (pq_el4 j hj)
  | 5, _ => fun j hj => List.mem_of_getElem? (pq_el5 j hj)
  | 6, _ => fun j hj => List.mem_of_getElem? (pq_el6 j hj)
  | 7, _ => fun j hj => List.mem_of_getElem? (pq_el7 j hj)
  | 8, _ => fun j hj => List.mem_of_getElem? (pq_el8 j hj)
  | 9, _ => fun j hj => List.mem_of_getElem? (pq_el9 j hj)
  | 10, _ => fun j hj => List.mem_of_getElem? (pq_el10 j hj)
  | 11, _ => fun j hj => List.mem_of_getElem? (pq_el11 j hj)
  | 12, _ => fun j hj => List.mem_of_getElem? (pq_el12 j hj)
  | 13, _ => fun j hj => List.mem_of_getElem? (pq_el13 j hj)
  | 14, _ => fun j hj => List.mem_of_getElem? (pq_el14 j hj)
  | 15, _ => fun j hj => List.mem_of_getElem? (pq_el15 j hj)
  | 16, _ => fun j hj => List.mem_of_getElem? (pq_el16 j hj)
  | 17, _ => fun j hj => List.mem_of_getElem? (pq_el17 j hj)
  | 18, _ => fun j hj => List.mem_of_getElem? (pq_el18 j hj)
  | 19, _ => fun j hj => List.mem_of_getElem? (pq_el19 j hj)
  | 20, _ => fun j hj => List.mem_of_getElem? (pq_el20 j hj)
  | 21, _ => fun j hj => List.mem_of_getElem? (pq_el21 j hj)
  | 22, _ => fun j hj => List.mem_of_getElem? (pq_el22 j hj)
  | 23, _ => fun j hj => List.mem_of_getElem? (pq_el23 j hj)
  | 24, _ => fun j hj => List.mem_of_getElem? (pq_el24 j hj)
  | 25, _ => fun j hj => List.mem_of_getElem? (pq_el25 j hj)
  | i + 26, h => absurd h (by omega)
theorem pq_lt : ∀ i, i < 26 → pm_len.getD i 0 < 2 ^ 31 := by decide +kernel
theorem pq_ne : ∀ i, i < 26 → ∀ j, j < 26 → pm_len.getD i 0 = pm_len.getD j 0 → (∀ k, k < pm_len.getD i 0 → (pm_byt.getD i []).getD k 0 = (pm_byt.getD j []).getD k 0) → i = j := by decide +kernel
theorem pq_eq : Cond.eq (.string "WriterPace$Reader" 256) (.string "WriterPaceModel" 119) ∈ pq_F := by decide +kernel
theorem pq_cs : Cond.eq (.static "java/lang/String" "COMPACT_STRINGS" "Z") (.int 1) ∈ pq_F := by decide +kernel
theorem pq_sf : Cond.isRef (.static "jdk/internal/util/Preconditions" "SIOOBE_FORMATTER" "Ljava/util/function/BiFunction;") ∈ pq_F := by decide +kernel
/-- the String constants, apart by what they hold -/
theorem pq_Sof {args : Array Value} {s : State} {A : Nat → Prop} (hF : ∀ c ∈ pq_F, c.before args s = true) (hA : ∀ a : Nat, a < s.heap.size → ¬ A a) :
    ∃ adK adV : Nat → Nat, vk_S 26 pm_len pm_byt adK adV A s s.heap ∧ ∀ i : Nat, i < 26 → (pq_tm i).eval args s none [] s = some (.ref (adK i)) := by
  have h0 : ∀ i : Nat, ∃ q : Nat × Nat, i < 26 → (pq_tm i).eval args s none [] s = some (.ref q.1) ∧ va_O "java/lang/String" q.1 A s s.heap ∧ va_OF "java/lang/String" "coder" "B" (.int 0) q.1 A s s.heap ∧ va_OF "java/lang/String" "value" "[B" (.ref q.2) q.1 A s s.heap ∧ va_T .byte q.2 (pm_len.getD i 0) (fun j => .int ((pm_byt.getD i []).getD j 0)) A s s.heap := by
    intro i
    by_cases hi : i < 26
    · obtain ⟨a, c, cA, kA, q1, q2, q3, q4, q5, q6, -⟩ := Cond.exactly_spec (args := args) (first := s) (o := none) (s := s) (idx := []) (t := pq_tm i) (cls := "java/lang/String") (hF _ (pq_ex i hi))
      obtain ⟨t, ht, hT⟩ := va_Tof (f := fun j => .int ((pm_byt.getD i []).getD j 0)) (A := A) (pq_lt i hi) (hF _ (pq_ar i hi)) (va_eqt (hF _ (pq_le i hi))) (fun j hj => va_eqt (hF _ (pq_el i hi j hj))) hA
      exact ⟨(a, t), fun _ => ⟨q1, ⟨cA, q3, q5, by rw [q6]; exact q2, hA a (Array.getElem?_eq_some_iff.mp q3).1⟩, vk_OFof q1 (va_eqt (hF _ (pq_co i hi))) hA, vk_OFof q1 ht hA, hT⟩⟩
    · exact ⟨(0, 0), fun h => absurd h hi⟩
  obtain ⟨ad, had⟩ := Classical.axiomOfChoice h0
  refine ⟨fun i => (ad i).1, fun i => (ad i).2, ⟨fun i hi => (had i hi).2, fun i j hi hj e => ?_⟩, fun i hi => (had i hi).1⟩
  obtain ⟨-, -, -, ⟨cf, k, fi, f, cell, g1, -, g3, -, g5, -⟩, ⟨c1, a1, -, -, -, a5, a6, -⟩⟩ := had i hi
  obtain ⟨-, -, -, ⟨cf', k', fi', f', cell', g1', -, g3', -, g5', -⟩, ⟨c1', a1', -, -, -, a5', a6', -⟩⟩ := had j hj
  have e0 : (ad i).1 = (ad j).1 := e
  rw [g1] at g1'
  cases g1'
  rw [e0, g3'] at g3
  cases g3
  rw [g5] at g5'
  have e2 : (ad i).2 = (ad j).2 := by injection g5' with z; injection z
  rw [e2, a1'] at a1
  cases a1
  have hl : pm_len.getD i 0 = pm_len.getD j 0 := by
    have h1 := pq_lt i hi
    have h2 := pq_lt j hj
    have h3 : nI (pm_len.getD i 0) = nI (pm_len.getD j 0) := a5.symm.trans a5'
    exact (nI_eq h1 h2).mp h3
  refine pq_ne i hi j hj hl (fun k hk => ?_)
  have h1 := a6 k hk
  rw [a6' k (by omega)] at h1
  injection h1 with z
  injection z with z
  exact z.symm
theorem pq_arr {args : Array Value} {s : State} {ty : FieldType} (h : (Cond.arrayClass ty).before args s = true) (ho : ∀ C, ty ≠ .object C) : ∃ cA : ClassId, ArrOfT s cA ty ∧ va_RA s cA ty := by
  obtain ⟨c, k, comp, h1, h2, h3⟩ := Cond.arrayClass_spec h
  refine ⟨c, fun n z => ⟨fun k h => (by cases h), k, h2, comp, h3⟩, ?_⟩
  cases ty with
  | object C => exact absurd rfl (ho C)
  | _ => exact h1
theorem pq_arq {args : Array Value} {s : State} {C : String} (h : (Cond.arrayOver (.object C)).before args s = true) : ∃ cA : ClassId, ArrOfT s cA (.object C) ∧ va_RA s cA (.object C) := by
  obtain ⟨comp, c, k, h1, h2, h3, h4, h5⟩ := Cond.arrayOver_spec h
  exact ⟨c, fun n z => ⟨fun k h => (by cases h), k, h3, comp, h4⟩, k, comp, h3, h4, h1, h5⟩
theorem pq_at {p : Program} {s : State} {m : MethodId} {meth : Method} {c : Code} {b L : Nat} {xs : Nat → Int32} (C0 : lw_At p s m meth c b L xs) : ∃ g : pm_G, g.2.2.1 = s.heap.size ∧ pm_CX g mL_law (pl_F g b L xs).2.2 p s m #[Value.ref b] meth c := by
  obtain ⟨hx, hb, hr, hml, hown, hts, hX, hbl, hlocks, hgv⟩ := id C0
  have hT : ∀ w ∈ pm_T, w.before #[Value.ref b] s = true := fun w hw => hts w (List.mem_filter.mp hw).1
  have hT1 : ∀ w ∈ tables_1, w.before #[Value.ref b] s = true := fun w hw => hts w (List.mem_append_right _ hw)
  have hF : ∀ w ∈ pq_F, w.before #[Value.ref b] s = true := flat_of_before _ hgv
  obtain ⟨c0, iS0, hKn0⟩ := u_known (C := RX0) (T := TX0) (N := 2) (n := 2) hT in_X0 (hT _ w1_210)
  obtain ⟨c1, iS1, hKn1⟩ := u_known (C := RX1) (T := TX1) (N := 9) (n := 9) hT in_X1 (hT _ w2_11)
  obtain ⟨c2, iS2, hKn2⟩ := u_known (C := RX2) (T := TX2) (N := 18) (n := 18) hT in_X2 (hT _ w1_28)
  obtain ⟨c3, iS3, hKn3⟩ := u_known (C := RX3) (T := TX3) (N := 6) (n := 6) hT in_X3 (hT _ w1_34)
  obtain ⟨c4, iS4, hKn4⟩ := u_known (C := RX4) (T := TX4) (N := 4) (n := 4) hT in_X4 (hT _ w1_216)
  obtain ⟨c5, iS5, hKn5⟩ := u_known (C := RX5) (T := TX5) (N := 12) (n := 12) hT in_X5 (hT _ w1_165)
  obtain ⟨c6, iS6, hKn6⟩ := u_known (C := RX6) (T := TX6) (N := 14) (n := 14) hT in_X6 (hT _ w2_5)
  obtain ⟨c7, iS7, hKn7⟩ := u_known (C := RX7) (T := TX7) (N := 4) (n := 4) hT in_X7 (hT _ w2_140)
  obtain ⟨c8, iS8, hKn8⟩ := u_known (C := RX8) (T := TX8) (N := 17) (n := 17) hT in_X8 (hT _ w1_20)
  obtain ⟨c9, iS9, hKn9⟩ := u_known (C := RX9) (T := TX9) (N := 38) (n := 38) hT in_X9 (hT _ w5_165)
  obtain ⟨a0, ha0⟩ := pq_arr (hT _ w1_65) (fun C => by intro h; cases h)
  obtain ⟨a1, ha1⟩ := pq_arr (hT _ w1_64) (fun C => by intro h; cases h)
  obtain ⟨a2, ha2⟩ := pq_arr (hT _ w2_161) (fun C => by intro h; cases h)
  obtain ⟨a3, ha3⟩ := pq_arr (hT _ w2_162) (fun C => by intro h; cases h)
  obtain ⟨a4, ha4⟩ := pq_arr (hT _ w2_63) (fun C => by intro h; cases h)
  obtain ⟨a5, ha5⟩ := pq_arq (hT1 _ pq_ao6)
  obtain ⟨a6, ha6⟩ := pq_arq (hT1 _ pq_ao7)
  obtain ⟨a7, ha7⟩ := pq_arq (hT1 _ pq_ao2)
  have hA : ∀ a : Nat, a < s.heap.size → ¬ (fun q : Nat => s.heap.size ≤ q) a := fun a h => Nat.not_le.mpr h
  obtain ⟨adK, adV, hS, hev⟩ := pq_Sof (A := fun q : Nat => s.heap.size ≤ q) hF hA
  refine ⟨((fun k => ([c0, c1, c2, c3, c4, c5, c6, c7, c8, c9] : List ClassId).getD k c0, fun k => ([iS0, iS1, iS2, iS3, iS4, iS5, iS6, iS7, iS8, iS9] : List (Nat → Nat)).getD k iS0), fun k => ([a0, a1, a2, a3, a4, a5, a6, a7] : List ClassId).getD k a0, s.heap.size, adK, adV), rfl, hx, hb, hml, hr, hlocks, hown, fun h => absurd h (by decide), hT, ⟨?_, ?_⟩, ⟨hS, ?_, ?_, ?_, ?_, va_AO.of (hT1 _ pq_ao6), va_AO.of (hT1 _ pq_ao7), va_AO.of (hT1 _ pq_ao2)⟩, Nat.le_refl _, hX, hbl, rfl⟩
  · intro k q hq
    match k, hq with
    | 0, hq => cases hq; exact hKn0
    | 1, hq => cases hq; exact hKn1
    | 2, hq => cases hq; exact hKn2
    | 3, hq => cases hq; exact hKn3
    | 4, hq => cases hq; exact hKn4
    | 5, hq => cases hq; exact hKn5
    | 6, hq => cases hq; exact hKn6
    | 7, hq => cases hq; exact hKn7
    | 8, hq => cases hq; exact hKn8
    | 9, hq => cases hq; exact hKn9
    | k + 10, hq => simp [vwCl] at hq
  · intro k q hq
    match k, hq with
    | 0, hq => cases hq; exact ha0
    | 1, hq => cases hq; exact ha1
    | 2, hq => cases hq; exact ha2
    | 3, hq => cases hq; exact ha3
    | 4, hq => cases hq; exact ha4
    | 5, hq => cases hq; exact ha5
    | 6, hq => cases hq; exact ha6
    | 7, hq => cases hq; exact ha7
    | k + 8, hq => simp [pm_tys] at hq
  · intro q hq
    refine vk_R.of (A := #[Value.ref b]) (hT1 _ (pq_str q hq)) ?_
    have e1 : ∀ q ∈ pm_str, q.2.2.2 < 26 ∧ (pq_tm q.2.2.2 = .string q.1 q.2.1 ∨ (q.2.2.2 = 0 ∧ q.1 = "WriterPaceModel" ∧ q.2.1 = 119)) := by decide +kernel
    obtain ⟨h1, h2 | ⟨h2, h3, h4⟩⟩ := e1 q hq
    · rw [← h2]
      exact hev _ h1
    · rw [h2, h3, h4]
      exact va_eqR (hF _ pq_eq) (hev 0 (by decide))
  · exact va_Zof (hT1 _ pq_ls1) (hT1 _ pq_in1) (va_eqt (hF _ pq_cs)) hA
  · exact va_Zqof (hT1 _ pq_ls2) (hT1 _ pq_in2) (hF _ pq_sf) hA
  · exact fun q hq => va_Nw.of rfl (hT1 _ (pq_nest q hq))
/-- what is left: mathematics -/
def pq_ok (L : Nat) (xs : Nat → Int32) : Prop := ps_ok (qX6_begin 26 12 pw_σ) (fun _ σ1 => ps_ok (qX9_plain 328 5550 (pw_m σ1)) (fun _ σ2 => ps_ok (qLaw L xs ps_N 0 σ2) (fun r _ => r = 1)))
set_option maxRecDepth 100000 in
set_option maxHeartbeats 4000000 in
theorem pq_go {g : pm_G} {b L : Nat} {xs : Nat → Int32} (hK : pq_ok L xs) : pm_W g mL_law (pl_F g b L xs) 0 0 0 [some (.ref b), none, none, none] [] 0 (pw_E g [.null, .int 0, .null, .null, .null, .null, .null, .null, .null, .null, .int 0, .int 0, .null, .null, .null, .null, .int 0] 0 0 0 0) := by
  refine pm_new d_L_law_0 (Nat.le_of_ble_eq_true rfl) (Nat.le_of_ble_eq_true rfl) ?_
  refine pw_cg (pw_E g [.null, .int 0, .null, .null, .null, .null, .null, .null, .null, .null, .int 0, .int 0, .null, .null, .null, .null, .int 0] 0 0 0 0) (cn' := 1) (sn' := 17) (N' := 1) rfl rfl rfl (pw_one rfl) ?_
  refine pm_dup d_L_law_3 rfl ?_
  refine pm_callI (q := 0) (As := []) d_L_law_4 mi_X8_init rfl rfl ⟨(Nat.le_of_ble_eq_true rfl), (Nat.le_of_ble_eq_true rfl)⟩ ⟨(Nat.le_of_ble_eq_true rfl), (Nat.le_of_ble_eq_true rfl)⟩ (Nat.le_of_ble_eq_true rfl) (K_X8 _ hK) (fun r E1 hh => ?_)
  obtain ⟨h1, σ1, h2, hP⟩ := hh
  subst h1
  subst h2
  refine pw_cg (ps_E g σ1) (cn' := 327) (sn' := 7784) (N' := 327) rfl rfl rfl (fun _ _ => rfl) ?_
  refine pm_ast1 d_L_law_7 rfl (by decide) ?_
  refine pm_new d_L_law_8 (Nat.le_of_ble_eq_true rfl) (Nat.le_of_ble_eq_true rfl) ?_
  refine pw_cg (pd (ps_E g σ1) 327 [.inr (9, [.int 0, .null, .null, .null, .null, .null, .int 0, .int 0, .int 0, .int 0, .int 0, .int 0, .int 0, .int 0, .int 0, .int 0, .int 0, .null, .null, .null, .null, .int 0, .int 0, .int 0, .int 0, .int 0, .null, .null, .int 0, .int 0, .null, .null, .null, .long 0, .long 0, .null, .null, .null])]) (cn' := 328) (sn' := 7822) (N' := 328) rfl rfl rfl pw_nw ?_
  refine pm_dup d_L_law_11 rfl ?_
  refine pm_callI (q := 327) (As := []) d_L_law_12 mi_X9_init rfl rfl ⟨(Nat.le_of_ble_eq_true rfl), (Nat.le_of_ble_eq_true rfl)⟩ ⟨(Nat.le_of_ble_eq_true rfl), (Nat.le_of_ble_eq_true rfl)⟩ (Nat.le_of_ble_eq_true rfl) (K_X9 (ps_E g σ1) σ1 (fun _ _ => rfl) _ hP) (fun r E1 hh => ?_)
  obtain ⟨h1, σ2, h2, hP2⟩ := hh
  subst h1
  subst h2
  refine pw_cg (ps_E g σ2) (cn' := 345) (sn' := 17769) (N' := 345) rfl rfl rfl (fun _ _ => rfl) ?_
  refine pm_ast2 d_L_law_15 rfl (by decide) ?_
  refine pm_ki d_L_law_16 ?_
  refine pm_ist3 d_L_law_17 rfl (by decide) ?_
  exact L_law _ _ _ hP2
theorem pq_start {p : Program} {e : Env} {s : State} {m : MethodId} {below : List Frame} {meth : Method} {c : Code} (l : Launch) {b L : Nat} {xs : Nat → Int32} (hK : pq_ok L xs) (C0 : lw_At p s m meth c b L xs) : W p l e room_1 s m #[Value.ref b] below meth c s.heap [] 0 0 (lw_Z below #[Value.ref b] s) (entryFrame m ([Value.ref b] : List Value).toArray 4) := by
  obtain ⟨g, hg, hC⟩ := pq_at C0
  rw [lg_entry_eq]
  intro T hT X
  obtain ⟨t, a1, b1⟩ := pq_go (g := g) (b := b) hK p l e s m #[Value.ref b] below meth c hC s.heap [] s.drawn _ (Drawn.sameBut.refl s.drawn lw_cs) (pm_entry [Value.ref b] 4 3 (Nat.le_of_ble_eq_true rfl)) ⟨by rw [hg]; rfl, fun k q h => by simp [pm_wl] at h⟩ va_S.rf rfl T hT X
  exact ⟨t, a1, b1 rfl⟩
