/-! the start: what is told of it, as a jX -/
def jFl : List Cond := flatC (Jvm.Cond.and given_1 narrow_1)
def jSi (i : Nat) : Nat := [125, 127, 129, 113, 119, 121, 123, 101].getD i 0
def jSx (i : Nat) : String := ["row", "from", "copies", "fits", "or", "and", "not", "();+-*%<="].getD i ""
def jSl : List Nat := [3, 4, 6, 4, 2, 3, 3, 9]
def jSb : List (List Int32) := [[114, 111, 119], [102, 114, 111, 109], [99, 111, 112, 105, 101, 115], [102, 105, 116, 115], [111, 114], [97, 110, 100], [110, 111, 116], [40, 41, 59, 43, 45, 42, 37, 60, 61]]
def jSt_tm (i : Nat) : Term := .string RX3 (jSi i)
theorem jf_1 : ∀ i, i < 8 → Cond.exactly (jSt_tm i) "java/lang/String" ∈ jFl := by decide +kernel
theorem jf_2 : ∀ i, i < 8 → Cond.eq (.field (jSt_tm i) "java/lang/String" "coder" "B") (.int 0) ∈ jFl := by decide +kernel
theorem jf_3 : ∀ i, i < 8 → Cond.arrayOf (.field (jSt_tm i) "java/lang/String" "value" "[B") .byte ∈ jFl := by decide +kernel
theorem jf_4 : ∀ i, i < 8 → Cond.eq (.length (.field (jSt_tm i) "java/lang/String" "value" "[B")) (.int (Int32.ofNat (jSl.getD i 0))) ∈ jFl := by decide +kernel
theorem jf_5 : ∀ i, i < 8 → ∀ j, j < jSl.getD i 0 → Cond.eq (.elem (.field (jSt_tm i) "java/lang/String" "value" "[B") (.int (Int32.ofNat j))) (.int ((jSb.getD i []).getD j 0)) ∈ jFl := by decide +kernel
theorem jf_6 : ∀ i, i < 8 → ∀ j, j < 8 → i ≠ j → Cond.not (Cond.eq (jSt_tm i) (jSt_tm j)) ∈ jFl ∨ Cond.not (Cond.eq (jSt_tm j) (jSt_tm i)) ∈ jFl := by decide +kernel
def jISv (j : Nat) : Int32 := [1, 3, 5, 11, 21, 43].getD j 0
theorem jf_7 : Cond.arrayOf (.static "JoinDraws$Relation" "IS" "[I") .int ∈ jFl := by decide +kernel
theorem jf_8 : Cond.eq (.length (.static "JoinDraws$Relation" "IS" "[I")) (.int (Int32.ofNat 6)) ∈ jFl := by decide +kernel
theorem jf_9 : ∀ j, j < 6 → Cond.eq (.elem (.static "JoinDraws$Relation" "IS" "[I") (.int (Int32.ofNat j))) (.int (jISv j)) ∈ jFl := by decide +kernel
theorem jf_10 : Cond.eq (.static "java/lang/String" "COMPACT_STRINGS" "Z") (.int 1) ∈ jFl := by decide +kernel
theorem jf_11 : Cond.isRef (.static "jdk/internal/util/Preconditions" "SIOOBE_FORMATTER" "Ljava/util/function/BiFunction;") ∈ jFl := by decide +kernel
theorem jw_1 : Cond.laysStatic "JoinDraws$Relation" "IS" "[I" ∈ lw_tbl := by decide +kernel
theorem jw_2 : Cond.laysStatic "java/lang/String" "COMPACT_STRINGS" "Z" ∈ lw_tbl := by decide +kernel
theorem jw_3 : Cond.laysStatic "jdk/internal/util/Preconditions" "SIOOBE_FORMATTER" "Ljava/util/function/BiFunction;" ∈ lw_tbl := by decide +kernel
theorem jw_4 : Cond.initialized "JoinDraws$Relation" ∈ lw_tbl ∧ Cond.initialized "java/lang/String" ∈ lw_tbl ∧ Cond.initialized "jdk/internal/util/Preconditions" ∈ lw_tbl := by decide +kernel
theorem jw_5 : ∀ i, i < 8 → Cond.stringRef RX3 (jSi i) (jSx i) ∈ lw_tbl := by decide +kernel
theorem jw_6 : ∀ c, c < 11 → Cond.instantiable (jRR c) (jnf c) ∈ lw_tbl := by decide +kernel
theorem jw_7 : Cond.arrayClass .int ∈ lw_tbl ∧ Cond.arrayClass .long ∈ lw_tbl ∧ Cond.arrayClass .char ∈ lw_tbl ∧ Cond.arrayClass .boolean ∈ lw_tbl := by decide +kernel
theorem jw_8 : Cond.arrayOver (.object RX4) ∈ lw_tbl ∧ Cond.arrayOver (.object RX7) ∈ lw_tbl ∧ Cond.arrayOver (.object RX5) ∈ lw_tbl := by decide +kernel
theorem jodd_kind {w : Cond} (h : w ∈ jOdd) : (∃ a i x q, w = .methodLinkNest a i x q) ∨ (∃ a q, w = .castable a q) ∨ ∃ t, w = .arrayOver t := by
  obtain ⟨-, h⟩ := List.mem_filter.mp h
  cases w <;> first | (cases h; done) | exact Or.inl ⟨_, _, _, _, rfl⟩ | exact Or.inr (Or.inl ⟨_, _, rfl⟩) | exact Or.inr (Or.inr ⟨_, rfl⟩)
theorem jodd_obj : ∀ w ∈ jOdd, ∀ t, w = .arrayOver t → ∃ C, t = .object C := by
  intro w hw t e
  subst e
  obtain ⟨h, -⟩ := List.mem_filter.mp hw
  have : ∀ w ∈ lw_tbl, (match w with | .arrayOver (.object _) => true | .arrayOver _ => false | _ => true) = true := List.all_eq_true.mp (by decide +kernel)
  have h2 := this _ h
  cases t <;> first | (cases h2; done) | exact ⟨_, rfl⟩
/-- the address of a cell -/
def jadr (z tI b tF : Nat) (adK adV : Nat → Nat) (a : Nat) : Nat := if 32 ≤ a then z + (a - 32) else if a = 1 then tI else if a = 2 then b else if a < 3 then tF else if a < 11 then adK (a - 3) else if a < 19 then adV (a - 11) else tF
def jpk (a : Nat) : Nat := if a = 1 then 9 else if a = 2 then 8 else if a < 3 then 0 else if a < 11 then 10 else if a < 19 then 11 else 0
def jpz (L a : Nat) : Nat := if a = 1 then 6 else if a = 2 then L else if a < 11 then 0 else if a < 19 then jSl.getD (a - 11) 0 else 0
def jpi (xs : Nat → Int32) (a j : Nat) : Int32 := if a = 1 then jISv j else if a = 2 then xs j else if a < 11 then 0 else if a < 19 then (jSb.getD (a - 11) []).getD j 0 else 0
/-- the memory at the start -/
def jm00 (L : Nat) (xs : Nat → Int32) : jMe := (0, 0, jpk, jpz L, jpi xs, fun _ _ => 0, fun _ _ => 0)
def jFS0 (z tI b tF L : Nat) (xs : Nat → Int32) (adK adV : Nat → Nat) (U : State) : Prop :=
  (∀ w ∈ jOdd, va_Nw w U) ∧ z ≤ U.heap.size ∧ (va_X b L xs U U.heap ∧ b < z) ∧ (va_T .int tI 6 (fun j => .int (jISv j)) (fun q => z ≤ q) U U.heap ∧ tI < z) ∧ va_Z RX4 "IS" "[I" (.ref tI) (fun q => z ≤ q) U U.heap ∧
  (∀ i, i < 8 → va_O "java/lang/String" (adK i) (fun q => z ≤ q) U U.heap ∧ va_OF "java/lang/String" "coder" "B" (.int 0) (adK i) (fun q => z ≤ q) U U.heap ∧ va_OF "java/lang/String" "value" "[B" (.ref (adV i)) (adK i) (fun q => z ≤ q) U U.heap ∧ va_T .byte (adV i) (jSl.getD i 0) (fun j => .int ((jSb.getD i []).getD j 0)) (fun q => z ≤ q) U U.heap) ∧
  (∀ i, i < 8 → vk_R RX3 (jSi i) (jSx i) (adK i) U) ∧ va_Z "java/lang/String" "COMPACT_STRINGS" "Z" (.int 1) (fun q => z ≤ q) U U.heap ∧
  (va_Z "jdk/internal/util/Preconditions" "SIOOBE_FORMATTER" "Ljava/util/function/BiFunction;" .null (fun q => z ≤ q) U U.heap ∨ va_Z "jdk/internal/util/Preconditions" "SIOOBE_FORMATTER" "Ljava/util/function/BiFunction;" (.ref tF) (fun q => z ≤ q) U U.heap)
def jX0 (D : va_G) (cA : Nat → ClassId) (z tI b tF L : Nat) (xs : Nat → Int32) (adK adV : Nat → Nat) : jX := (D, cA, jadr z tI b tF adK adV, jFS0 z tI b tF L xs adK adV, jpk, jpz L, jpi xs)
section JX0
variable {D : va_G} {cA : Nat → ClassId} {z tI b tF L : Nat} {xs : Nat → Int32} {adK adV : Nat → Nat}
theorem jadr_z : jadr z tI b tF adK adV 32 = z := by simp [jadr]
theorem jFS0_kept {U U' : State} (h : jFS0 z tI b tF L xs adK adV U) (hW : U.WarmedH U'.vm) (hq : ∀ q, q < z → U'.heap[q]? = U.heap[q]?) : jFS0 z tI b tF L xs adK adV U' := by
  obtain ⟨h1, h2, ⟨h3, h3b⟩, ⟨h4, h4b⟩, h5, h6, h7, h8, h9⟩ := h
  have hA := hW.alike
  have hk : ∀ a : Nat, a < U.heap.size → ¬ (fun q => z ≤ q) a → U'.heap[a]? = U.heap[a]? := fun a _ h => hq a (Nat.not_le.mp h)
  refine ⟨fun w hw => ?_, ?_, ⟨(va_X.moved hA h3).kept (hq b h3b), h3b⟩, ⟨(h4.moved hA).kept hk, h4b⟩, (h5.moved hA).kept hk, fun i hi => ?_, fun i hi => (h7 i hi).warm hW, (h8.moved hA).kept hk, ?_⟩
  · rcases jodd_kind hw with ⟨a, i, x, q, rfl⟩ | ⟨a, q, rfl⟩ | ⟨t, rfl⟩
    · exact va_Nw.warmM hW (h1 _ hw)
    · exact va_Nw.warmC hW (h1 _ hw)
    · obtain ⟨C, rfl⟩ := jodd_obj _ hw t rfl
      exact va_AO.moved hA (h1 _ hw)
  · rcases Nat.eq_zero_or_pos z with q | q
    · omega
    · have e := hq (z - 1) (by omega)
      have e2 : z - 1 < U.heap.size := by omega
      rw [Array.getElem?_eq_getElem e2] at e
      have := (Array.getElem?_eq_some_iff.mp e).1
      omega
  · obtain ⟨g1, g2, g3, g4⟩ := h6 i hi
    exact ⟨(va_O.moved hA g1).kept hk, (va_OF.moved hA g2).kept hk, (va_OF.moved hA g3).kept hk, (g4.moved hA).kept hk⟩
  · rcases h9 with h9 | h9
    · exact Or.inl ((h9.moved hA).kept hk)
    · exact Or.inr ((h9.moved hA).kept hk)
theorem jX0_ok : jOk (jX0 D cA z tI b tF L xs adK adV) := by
  have e32 : jad (jX0 D cA z tI b tF L xs adK adV) 32 = z := jadr_z (tI := tI) (b := b) (tF := tF) (adK := adK) (adV := adV)
  have eA : jA (jX0 D cA z tI b tF L xs adK adV) = fun q => z ≤ q := by
    funext q
    show (jad _ 32 ≤ q) = _
    rw [e32]
  refine ⟨fun j => ?_, fun a ha => ?_, fun U U' h hW hq => ?_, fun U h => ?_, fun U h a ha hk => ?_, fun U h a ha hk => ?_, fun U h => ?_, fun U h => ⟨fun i hi => ?_, fun q hq => ?_, ?_, ?_⟩⟩
  · show jadr z tI b tF adK adV (32 + j) = jadr z tI b tF adK adV 32 + j
    simp [jadr]
  · show jpk a = 0 ∨ _
    unfold jX0 jpk
    dsimp only
    split <;> (try split) <;> (try split) <;> (try split) <;> (try split) <;> omega
  · rw [e32] at hq
    exact jFS0_kept h hW hq
  · exact ⟨h.1, by rw [e32]; exact h.2.1⟩
  · have ha2 : a = 2 := by
      have hk : jpk a = 8 := hk
      unfold jpk at hk
      split at hk <;> (try split at hk) <;> (try split at hk) <;> (try split at hk) <;> (try split at hk) <;> omega
    subst ha2
    rw [e32]
    exact h.2.2.1
  · have ha2 : a = 1 := by
      have hk : jpk a = 9 := hk
      unfold jpk at hk
      split at hk <;> (try split at hk) <;> (try split at hk) <;> (try split at hk) <;> (try split at hk) <;> omega
    subst ha2
    rw [e32, eA]
    exact h.2.2.2.1
  · rw [eA]
    exact h.2.2.2.2.1
  · have e1 : jad (jX0 D cA z tI b tF L xs adK adV) (3 + i) = adK i := by
      show jadr z tI b tF adK adV (3 + i) = _
      unfold jadr
      rw [if_neg (by omega), if_neg (by omega), if_neg (by omega), if_neg (by omega), if_pos (by omega)]
      congr 1
      omega
    have e2 : jad (jX0 D cA z tI b tF L xs adK adV) (11 + i) = adV i := by
      show jadr z tI b tF adK adV (11 + i) = _
      unfold jadr
      rw [if_neg (by omega), if_neg (by omega), if_neg (by omega), if_neg (by omega), if_neg (by omega), if_pos (by omega)]
      congr 1
      omega
    have e3 : (jX0 D cA z tI b tF L xs adK adV).2.2.2.2.2.1 (11 + i) = jSl.getD i 0 := by
      show jpz L (11 + i) = _
      unfold jpz
      rw [if_neg (by omega), if_neg (by omega), if_neg (by omega), if_pos (by omega)]
      congr 1
      omega
    have e4 : (fun j => Value.int ((jX0 D cA z tI b tF L xs adK adV).2.2.2.2.2.2 (11 + i) j)) = fun j => Value.int ((jSb.getD i []).getD j 0) := by
      funext j
      show Value.int (jpi xs (11 + i) j) = _
      unfold jpi
      rw [if_neg (by omega), if_neg (by omega), if_neg (by omega), if_pos (by omega), show 11 + i - 11 = i by omega]
    rw [e1, e2, e3, e4, eA]
    exact h.2.2.2.2.2.1 i hi
  · have h7 := h.2.2.2.2.2.2.1
    simp only [jStrs, List.mem_cons, List.not_mem_nil, or_false] at hq
    rcases hq with rfl | rfl | rfl | rfl | rfl | rfl | rfl | rfl
    · exact h7 0 (by omega)
    · exact h7 1 (by omega)
    · exact h7 2 (by omega)
    · exact h7 3 (by omega)
    · exact h7 4 (by omega)
    · exact h7 5 (by omega)
    · exact h7 6 (by omega)
    · exact h7 7 (by omega)
  · rw [eA]
    exact h.2.2.2.2.2.2.2.1
  · rw [eA]
    exact h.2.2.2.2.2.2.2.2
end JX0
