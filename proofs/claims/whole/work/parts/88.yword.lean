/-! the reference's reader: words -/
def jzwd (b : Nat → Nat) (p q : Nat) : List Nat := (List.range (q - p)).map fun i => b (p + i)
theorem jzwd_len {b : Nat → Nat} {p q : Nat} : (jzwd b p q).length = q - p := by
  unfold jzwd
  rw [List.length_map, List.length_range]
theorem jzwd_at {b : Nat → Nat} {p q i : Nat} (h : i < q - p) : (jzwd b p q).getD i 0 = b (p + i) := by
  unfold jzwd
  rw [List.getD_eq_getElem?_getD, List.getElem?_map, List.getElem?_range h]
  rfl
theorem jlist_ext {l r : List Nat} (h : l.length = r.length) (k : ∀ i, i < l.length → l.getD i 0 = r.getD i 0) : l = r := by
  apply List.ext_getElem h
  intro i h1 h2
  have := k i h1
  rw [List.getD_eq_getElem?_getD, List.getD_eq_getElem?_getD, List.getElem?_eq_getElem h1, List.getElem?_eq_getElem h2] at this
  exact this
theorem jzw_iff {b : Nat → Nat} {p q : Nat} {w : List Nat} : jzw b p q w = true ↔ jzwd b p q = w := by
  unfold jzw
  rw [Bool.and_eq_true, decide_eq_true_eq, List.all_eq_true]
  constructor
  · rintro ⟨h1, h2⟩
    refine jlist_ext (by rw [jzwd_len, h1]) (fun i hi => ?_)
    rw [jzwd_len] at hi
    have := h2 i (List.mem_range.mpr (by omega))
    rw [beq_iff_eq] at this
    rw [jzwd_at hi, this]
  · intro h
    have hl : q - p = w.length := by rw [← h, jzwd_len]
    refine ⟨hl, fun i hi => ?_⟩
    have hi := List.mem_range.mp hi
    rw [beq_iff_eq, ← h, jzwd_at (by omega)]
theorem jzw_e {b : Nat → Nat} {p q : Nat} {w : List Nat} : jzw b p q w = decide (jzwd b p q = w) := by
  rw [Bool.eq_iff_iff, decide_eq_true_eq]
  exact jzw_iff
def jznl (w : List Nat) : Nat × Nat := if w.length = 1 ∧ w.getD 0 0 ≤ 102 then (3, w.getD 0 0 - 97) else if w = [114, 111, 119] then (3, 6) else if w = [102, 114, 111, 109] then (3, 7)
  else if w = [99, 111, 112, 105, 101, 115] then (3, 8) else if w = [102, 105, 116, 115] then (4, 0) else if w = [111, 114] then (5, 0)
  else if w = [97, 110, 100] then (6, 0) else if w = [110, 111, 116] then (7, 0) else (0, 0)
theorem jzn_e {b : Nat → Nat} {p q : Nat} : jzn b p q = jznl (jzwd b p q) := by
  unfold jzn jznl
  rw [jzwd_len]
  simp only [jzw_iff]
  by_cases h : q - p = 1
  · have e := jzwd_at (b := b) (p := p) (q := q) (i := 0) (by omega)
    rw [Nat.add_zero] at e
    rw [e]
  · rw [if_neg (show ¬ (q - p = 1 ∧ b p ≤ 102) from fun k => h k.1), if_neg (show ¬ (q - p = 1 ∧ (jzwd b p q).getD 0 0 ≤ 102) from fun k => h k.1)]
/-- the words that are told by number: 0 .. 5 names a .. f, 6 row, 7 from, 8 copies, 9 fits, 10 or, 11 and, 12 not -/
def jwN (i : Nat) : List Nat := [[97], [98], [99], [100], [101], [102], [114, 111, 119], [102, 114, 111, 109], [99, 111, 112, 105, 101, 115], [102, 105, 116, 115], [111, 114], [97, 110, 100], [110, 111, 116]].getD i []
def jwT (i : Nat) : Nat × Nat := [(3, 0), (3, 1), (3, 2), (3, 3), (3, 4), (3, 5), (3, 6), (3, 7), (3, 8), (4, 0), (5, 0), (6, 0), (7, 0)].getD i (0, 0)
theorem jwN_T : ∀ i, i < 13 → jznl (jwN i) = jwT i := by decide
theorem jwT_inj : ∀ i, i < 13 → ∀ j, j < 13 → jwT i = jwT j → i = j := by decide
theorem jwT_ne : ∀ i, i < 13 → jwT i ≠ (0, 0) := by decide
/-- a word is one of these, or none -/
theorem jznl_c {w : List Nat} (h : ∀ i, i < w.length → 97 ≤ w.getD i 0) : (∃ i, i < 13 ∧ w = jwN i) ∨ ((∀ i, i < 13 → w ≠ jwN i) ∧ jznl w = (0, 0)) := by
  by_cases q : ∃ i, i < 13 ∧ w = jwN i
  · exact Or.inl q
  · refine Or.inr ⟨fun i hi e => q ⟨i, hi, e⟩, ?_⟩
    have hn : ∀ i, i < 13 → w ≠ jwN i := fun i hi e => q ⟨i, hi, e⟩
    unfold jznl
    rw [if_neg, if_neg (show ¬ w = [114, 111, 119] from hn 6 (by omega)), if_neg (show ¬ w = [102, 114, 111, 109] from hn 7 (by omega)), if_neg (show ¬ w = [99, 111, 112, 105, 101, 115] from hn 8 (by omega)), if_neg (show ¬ w = [102, 105, 116, 115] from hn 9 (by omega)), if_neg (show ¬ w = [111, 114] from hn 10 (by omega)), if_neg (show ¬ w = [97, 110, 100] from hn 11 (by omega)), if_neg (show ¬ w = [110, 111, 116] from hn 12 (by omega))]
    rintro ⟨h1, h2⟩
    have h3 := h 0 (by omega)
    have e : ∀ i, i < 6 → w.getD 0 0 = 97 + i → w = jwN i := by
      intro i hi he
      have : ∀ i, i < 6 → (jwN i).length = 1 ∧ (jwN i).getD 0 0 = 97 + i := by decide
      obtain ⟨g1, g2⟩ := this i hi
      refine jlist_ext (by rw [h1, g1]) (fun j hj => ?_)
      have : j = 0 := by omega
      subst this
      rw [he, g2]
    exact hn (w.getD 0 0 - 97) (by omega) (e _ (by omega) (by omega))
/-- whether it is the i-th -/
theorem jznl_i {w : List Nat} (h : ∀ i, i < w.length → 97 ≤ w.getD i 0) {i : Nat} (hi : i < 13) : w = jwN i ↔ jznl w = jwT i := by
  constructor
  · rintro rfl
    exact jwN_T i hi
  · intro e
    rcases jznl_c h with ⟨j, hj, rfl⟩ | ⟨h1, h2⟩
    · rw [jwN_T j hj] at e
      rw [jwT_inj j hj i hi e]
    · rw [h2] at e
      exact absurd e.symm (jwT_ne i hi)
theorem jzwd_97 {b : Nat → Nat} {p q : Nat} (h : jyw b p q) : ∀ i, i < (jzwd b p q).length → 97 ≤ (jzwd b p q).getD i 0 := by
  intro i hi
  rw [jzwd_len] at hi
  rw [jzwd_at hi]
  exact (h (p + i) (by omega) (by omega)).1
section YWORD
variable {F : Nat} {t : Nat} {b : Nat → Nat} {n : Nat}
def jlet1 (b : Nat → Nat) (p q i x : Nat) : Bool := if q ≤ p + i then decide (x = 0) else decide (b (p + i) = x)
theorem y_isLetter {m : jMe} (hB : jyB t b n m) {p q i x : Nat} (h21 : jI m 101 21 = Int32.ofNat p) (h19 : jI m 101 19 = Int32.ofNat q) (hq : q ≤ n) (hp : p ≤ n) (hi : i < 8) (hx : x < 256) : c_X10_isLetter F m 101 (Int32.ofNat i) (Int32.ofNat x) = some (jbi (jlet1 b p q i x)) := by
  have hn := hB.2.2.2.2.1
  unfold c_X10_isLetter jlet1
  rw [jgd_t hB.1.1, h21, h19, ji_add]
  by_cases e : q ≤ p + i
  · rw [if_pos (ji_lep (by omega) (by omega) e), if_pos e]
    by_cases z : x = 0
    · rw [if_pos (show Int32.ofNat x = 0 by rw [z]; rfl), decide_eq_true z]
      rfl
    · rw [if_neg (show ¬ Int32.ofNat x = 0 from ji_eqn (b := 0) (by omega) (by omega) z), decide_eq_false z]
      rfl
  · have hb := (hB.2.2.2.2.2 (p + i) (by omega)).2
    rw [if_neg (ji_len (by omega) (by omega) e), if_neg e, y_byteAt hB (by omega), if_pos (show p + i < n by omega), jb_some]
    by_cases z : b (p + i) = x
    · rw [if_pos (by rw [z]), decide_eq_true z]
      rfl
    · rw [if_neg (ji_eqn (by omega) (by omega) z), decide_eq_false z]
      rfl
theorem jlet_all {p q : Nat} {w : List Nat} (hw : w.length ≤ 8) (hn : ∀ i, i < w.length → w.getD i 0 ≠ 0) (hb : jyw b p q) (hpq : p < q) : (q ≤ p + 8 ∧ ∀ i, i < 8 → jlet1 b p q i (w.getD i 0) = true) ↔ jzwd b p q = w := by
  unfold jlet1
  have hg : ∀ i, w.length ≤ i → w.getD i 0 = 0 := fun i hi => by
    rw [List.getD_eq_getElem?_getD, List.getElem?_eq_none hi]
    rfl
  constructor
  · rintro ⟨h1, h2⟩
    have hl : q - p = w.length := by
      rcases Nat.lt_trichotomy (q - p) w.length with h | h | h
      · have h3 := h2 (q - p) (by omega)
        rw [if_pos (by omega), decide_eq_true_eq] at h3
        exact absurd h3 (hn _ h)
      · exact h
      · have h3 := h2 w.length (by omega)
        rw [if_neg (by omega), decide_eq_true_eq, hg _ (Nat.le_refl _)] at h3
        have := (hb (p + w.length) (by omega) (by omega)).1
        omega
    refine jlist_ext (by rw [jzwd_len, hl]) (fun i hi => ?_)
    rw [jzwd_len] at hi
    have h3 := h2 i (by omega)
    rw [if_neg (by omega), decide_eq_true_eq] at h3
    rw [jzwd_at hi, h3]
  · intro h
    have hl : q - p = w.length := by rw [← h, jzwd_len]
    refine ⟨by omega, fun i hi => ?_⟩
    by_cases e : q ≤ p + i
    · rw [if_pos e, decide_eq_true_eq]
      exact hg i (by omega)
    · rw [if_neg e, decide_eq_true_eq, ← h, jzwd_at (by omega)]
theorem y_isWord1 {m : jMe} (hB : jyB t b n m) {p q : Nat} (h24 : jI m 101 24 = 0) (h20 : jI m 101 20 = 1) (h21 : jI m 101 21 = Int32.ofNat p) (h19 : jI m 101 19 = Int32.ofNat q) (hq : q ≤ n) (hpq : p < q) (hb : jyw b p q) {w : List Nat} (hw : w.length ≤ 8) (hn : ∀ i, i < w.length → w.getD i 0 ≠ 0) (hx : ∀ i, i < 8 → w.getD i 0 < 256) : c_X10_isWord F m 101 (Int32.ofNat (w.getD 0 0)) (Int32.ofNat (w.getD 1 0)) (Int32.ofNat (w.getD 2 0)) (Int32.ofNat (w.getD 3 0)) (Int32.ofNat (w.getD 4 0)) (Int32.ofNat (w.getD 5 0)) (Int32.ofNat (w.getD 6 0)) (Int32.ofNat (w.getD 7 0)) = some (jbi (decide (jzwd b p q = w))) := by
  have hn160 := hB.2.2.2.2.1
  have hl := fun i hi => y_isLetter (F := F) hB h21 h19 hq (by omega) (i := i) hi (hx i hi)
  have h0 : c_X10_isLetter F m 101 (0 : Int32) (Int32.ofNat (w.getD 0 0)) = _ := hl 0 (by omega)
  have h1 : c_X10_isLetter F m 101 (1 : Int32) (Int32.ofNat (w.getD 1 0)) = _ := hl 1 (by omega)
  have h2 : c_X10_isLetter F m 101 (2 : Int32) (Int32.ofNat (w.getD 2 0)) = _ := hl 2 (by omega)
  have h3 : c_X10_isLetter F m 101 (3 : Int32) (Int32.ofNat (w.getD 3 0)) = _ := hl 3 (by omega)
  have h4 : c_X10_isLetter F m 101 (4 : Int32) (Int32.ofNat (w.getD 4 0)) = _ := hl 4 (by omega)
  have h5 : c_X10_isLetter F m 101 (5 : Int32) (Int32.ofNat (w.getD 5 0)) = _ := hl 5 (by omega)
  have h6 : c_X10_isLetter F m 101 (6 : Int32) (Int32.ofNat (w.getD 6 0)) = _ := hl 6 (by omega)
  have h7 : c_X10_isLetter F m 101 (7 : Int32) (Int32.ofNat (w.getD 7 0)) = _ := hl 7 (by omega)
  have hall := jlet_all (b := b) hw hn hb hpq
  unfold c_X10_isWord
  rw [jgd_t hB.1.1, if_pos h24, if_pos h20, h21, h19, show (8 : Int32) = Int32.ofNat 8 from rfl, ji_add, h0, h1, h2, h3, h4, h5, h6, h7]
  simp only [jb_some]
  by_cases e : q ≤ p + 8
  · rw [if_neg (ji_ltn (by omega) (by omega) (by omega))]
    have hd : decide (jzwd b p q = w) = (jlet1 b p q 0 (w.getD 0 0) && (jlet1 b p q 1 (w.getD 1 0) && (jlet1 b p q 2 (w.getD 2 0) && (jlet1 b p q 3 (w.getD 3 0) && (jlet1 b p q 4 (w.getD 4 0) && (jlet1 b p q 5 (w.getD 5 0) && (jlet1 b p q 6 (w.getD 6 0) && jlet1 b p q 7 (w.getD 7 0)))))))) := by
      rw [Bool.eq_iff_iff, decide_eq_true_eq, ← hall]
      simp only [Bool.and_eq_true]
      constructor
      · rintro ⟨-, h⟩
        exact ⟨h 0 (by omega), h 1 (by omega), h 2 (by omega), h 3 (by omega), h 4 (by omega), h 5 (by omega), h 6 (by omega), h 7 (by omega)⟩
      · rintro ⟨g0, g1, g2, g3, g4, g5, g6, g7⟩
        refine ⟨e, fun i hi => ?_⟩
        rcases (by omega : i = 0 ∨ i = 1 ∨ i = 2 ∨ i = 3 ∨ i = 4 ∨ i = 5 ∨ i = 6 ∨ i = 7) with rfl | rfl | rfl | rfl | rfl | rfl | rfl | rfl <;> assumption
    rw [hd]
    cases jlet1 b p q 0 (w.getD 0 0) with
    | false => rfl
    | true =>
      cases jlet1 b p q 1 (w.getD 1 0) with
      | false => rfl
      | true =>
        cases jlet1 b p q 2 (w.getD 2 0) with
        | false => rfl
        | true =>
          cases jlet1 b p q 3 (w.getD 3 0) with
          | false => rfl
          | true =>
            cases jlet1 b p q 4 (w.getD 4 0) with
            | false => rfl
            | true =>
              cases jlet1 b p q 5 (w.getD 5 0) with
              | false => rfl
              | true =>
                cases jlet1 b p q 6 (w.getD 6 0) with
                | false => rfl
                | true => cases jlet1 b p q 7 (w.getD 7 0) <;> rfl
  · rw [if_pos (ji_ltp (by omega) (by omega) (by omega)), decide_eq_false (fun h => e (hall.mpr h).1)]
    rfl
theorem jwN_ok : ∀ i, i < 13 → (jwN i).length ≤ 8 ∧ (∀ j, j < 8 → j < (jwN i).length → (jwN i).getD j 0 ≠ 0) ∧ (∀ j, j < 8 → (jwN i).getD j 0 < 256) := by decide
/-- is it the i-th word? -/
def c_iw (F : Nat) (m : jMe) (i : Nat) : Option Int32 := c_X10_isWord F m 101 (Int32.ofNat ((jwN i).getD 0 0)) (Int32.ofNat ((jwN i).getD 1 0)) (Int32.ofNat ((jwN i).getD 2 0)) (Int32.ofNat ((jwN i).getD 3 0)) (Int32.ofNat ((jwN i).getD 4 0)) (Int32.ofNat ((jwN i).getD 5 0)) (Int32.ofNat ((jwN i).getD 6 0)) (Int32.ofNat ((jwN i).getD 7 0))
theorem y_isWordC {m : jMe} {s : jS0} (hB : jyB t b n m) (hC : jyC b s m) (hW : jzW n s) {i : Nat} (hi : i < 13) : c_iw F m i = some (jbi (decide ((s.1, s.2.1) = jwT i ∧ 3 ≤ s.1 ∧ s.1 ≤ 7))) := by
  obtain ⟨c1, c2, c3, c4, c5, c6, c7, c8⟩ := hC
  obtain ⟨w1, w2, w3⟩ := jwN_ok i hi
  unfold c_iw
  by_cases h : 3 ≤ s.1 ∧ s.1 ≤ 7
  · obtain ⟨d1, d2, d3, d4⟩ := c7 h.1 h.2
    rw [y_isWord1 hB c1 d1 c2 c3 hW.2.1 d4 d3 w1 (fun j hj => w2 j (by omega) hj) w3]
    congr 2
    apply decide_eq_decide.mpr
    rw [jznl_i (jzwd_97 d3) hi, ← jzn_e, d2]
    exact ⟨fun e => ⟨e, h⟩, fun e => e.1⟩
  · rw [decide_eq_false (fun e => h e.2)]
    unfold c_X10_isWord
    have h20 : ¬ jI m 101 20 = 1 := by
      rcases (by omega : s.1 = 1 ∨ s.1 = 2 ∨ 8 ≤ s.1) with e | e | e
      · rw [c5 e]; decide
      · rw [(c6 e).1]; decide
      · rw [(c8 e).1]; decide
    rw [jgd_t hB.1.1, if_pos c1, if_neg h20]
    rfl
theorem y_isWordD {m : jMe} {p : Nat} (hB : jyB t b n m) (hD : jyD b n p m) {i : Nat} (hi : i < 13) : c_iw F m i = some 0 := by
  obtain ⟨w1, w2, w3⟩ := jwN_ok i hi
  unfold c_iw
  rcases hD.2 with ⟨d1, -⟩ | ⟨d1, d2, d3 | ⟨d3, q, d4, d5, d6, d7, d8⟩⟩
  · unfold c_X10_isWord
    rw [jgd_t hB.1.1, if_neg (by rw [d1]; decide)]
  · unfold c_X10_isWord
    rw [jgd_t hB.1.1, if_pos d1, if_neg (by rw [d3]; decide)]
  · rw [y_isWord1 hB d1 d3 d2 d4 d5 d6 d7 w1 (fun j hj => w2 j (by omega) hj) w3, decide_eq_false]
    · rfl
    · rw [jznl_i (jzwd_97 d7) hi, ← jzn_e]
      intro e
      rw [e] at d8
      have : ∀ i, i < 13 → (jwT i).1 ≠ 0 := by decide
      exact this i hi d8
end YWORD
