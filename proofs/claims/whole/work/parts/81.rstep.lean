/-! the class's reader: tokens -/
def jzT (m : jMe) : Prop := jK m 36 = 35 ∧ jP m 36 0 = 37 ∧ jP m 36 1 = 38 ∧ jK m 37 = 3 ∧ jZ m 37 = 160 ∧ jK m 38 = 1 ∧ jZ m 38 = 160 ∧ ∀ i, i < 8 → jK m (3 + i) = 10 ∧ jK m (11 + i) = 11 ∧ jZ m (11 + i) = jSl.getD i 0 ∧ ∀ j, j < jSl.getD i 0 → jI m (11 + i) j = (jSb.getD i []).getD j 0
/-- the tape holds n bytes b -/
def jzB (b : Nat → Nat) (n : Nat) (m : jMe) : Prop := jzT m ∧ jI m 36 2 = Int32.ofNat n ∧ n ≤ 160 ∧ ∀ i, i < n → jI m 37 i = Int32.ofNat (b i) ∧ b i < 256
abbrev jzF (m m' : jMe) : Prop := jfx (fun a i => (a = 36 ∧ i ≠ 2) ∨ a = 38) m m'
abbrev jzFs (m m' : jMe) : Prop := jfx (fun a i => a = 36 ∧ 4 ≤ i) m m'
theorem jzFs_F {m m' : jMe} (h : jzFs m m') : jzF m m' := h.weak (fun a i h => Or.inl ⟨h.1, by omega⟩)
theorem jzT_of {S : Nat → Nat → Prop} {m m' : jMe} (hS : ∀ a i, S a i → 19 ≤ a) (h : jfx S m m') (k : jzT m) : jzT m' := by
  obtain ⟨k1, k2, k3, k4, k5, k6, k7, k8⟩ := k
  refine ⟨by rw [h.K]; exact k1, by rw [h.P]; exact k2, by rw [h.P]; exact k3, by rw [h.K]; exact k4, by rw [h.Z]; exact k5, by rw [h.K]; exact k6, by rw [h.Z]; exact k7, fun i hi => ?_⟩
  obtain ⟨g1, g2, g3, g4⟩ := k8 i hi
  refine ⟨by rw [h.K]; exact g1, by rw [h.K]; exact g2, by rw [h.Z]; exact g3, fun j hj => ?_⟩
  rw [h.I (fun q => by have := hS _ _ q; omega)]
  exact g4 j hj
theorem jzB_of {b : Nat → Nat} {n : Nat} {m m' : jMe} (h : jzF m m') (k : jzB b n m) : jzB b n m' := by
  obtain ⟨k1, k2, k3, k4⟩ := k
  refine ⟨jzT_of (fun a i q => by omega) h k1, by rw [h.I (by omega)]; exact k2, k3, fun i hi => ?_⟩
  rw [h.I (by omega)]
  exact k4 i hi
/-- the letters of words -/
def jWl (i : Nat) : List Nat := [[114, 111, 119], [102, 114, 111, 109], [99, 111, 112, 105, 101, 115], [102, 105, 116, 115], [111, 114], [97, 110, 100], [110, 111, 116]].getD i []
theorem jWl_len : ∀ i, i < 7 → (jWl i).length = jSl.getD i 0 := by decide
theorem jSl_lt : ∀ i, i < 8 → jSl.getD i 0 < 10 := by decide
theorem jWl_at : ∀ i, i < 7 → ∀ j, j < 9 → j < jSl.getD i 0 → ji2c ((jSb.getD i []).getD j 0 &&& (255 : Int32)) = Int32.ofNat ((jWl i).getD j 0) ∧ (jWl i).getD j 0 < 256 := by decide +kernel
theorem jvn_c (x : Int32) : vp_nar .char (ji2c x) = ji2c x := by
  unfold ji2c
  exact pk_vc x
section RSTEP
variable {F : Nat} {m : jMe} {b : Nat → Nat} {n : Nat}
theorem q_slen (hT : jzT m) {i : Nat} (hi : i < 8) : c_J0_length_8abf5 F m (3 + i) = some (Int32.ofNat (jSl.getD i 0)) := by
  obtain ⟨g1, g2, g3, g4⟩ := hT.2.2.2.2.2.2.2 i hi
  unfold c_J0_length_8abf5 c_J0_coder_7d493
  rw [jgd_t g1, show 3 + i + 8 = 11 + i by omega, jgd_t g2, if_neg (by decide), jgd_t g1, jgd_t (by decide +kernel), jb_some, g3]
  have : ∀ z : Fin 10, jshr (Int32.ofNat z.1) 0 = Int32.ofNat z.1 := by decide +kernel
  rw [this ⟨_, jSl_lt i hi⟩]
theorem q_schar (hT : jzT m) {i j : Nat} (hi : i < 7) (hj : j < jSl.getD i 0) : c_J0_charAt_5068e F m (3 + i) (Int32.ofNat j) = some (Int32.ofNat ((jWl i).getD j 0)) := by
  obtain ⟨g1, g2, g3, g4⟩ := hT.2.2.2.2.2.2.2 i (by omega)
  have hl := jSl_lt i (by omega)
  obtain ⟨e1, e2⟩ := jWl_at i hi j (by omega) hj
  unfold c_J0_charAt_5068e c_J0_isLatin1_aae02 c_J1_charAt_3b067 c_J0_checkIndex_df160 c_J3_checkIndex_8e157
  rw [jgd_t g1, if_neg (by decide), jgd_t g1, if_pos rfl, jb_some, if_neg (by decide), show 3 + i + 8 = 11 + i by omega, jgd_t g2, g3, if_neg (ji_ge0 (by omega)), if_pos (ji_ltp (by omega) (by omega) hj), jb_some, jb_some, jgd_t (ji_int (by omega) hj), ji_n (by omega), g4 j hj, jgd_t (jvn_c _), jb_some, jgd_t (jvn_c _), e1]
theorem jall_s {w k : Nat} {f : Nat → Bool} : (List.range' k (w + 1)).all f = (f k && (List.range' (k + 1) w).all f) := by
  rw [List.range'_succ, List.all_cons]
theorem q_risWord_l20 (hB : jzB b n m) {i p q : Nat} (hi : i < 7) (hp : jI m 36 5 = Int32.ofNat p) (hq : q ≤ n) (hl : q - p = (jWl i).length) (hpq : p ≤ q) : ∀ (t j f : Nat), j + t = (jWl i).length → t < f → c_X3_isWord_l20 F m f 36 (3 + i) (Int32.ofNat j) = some (if (List.range' j t).all (fun x => b (p + x) == (jWl i).getD x 0) = true then .inr () else .inl (0 : Int32)) := by
  obtain ⟨hT, hn, hn160, hb⟩ := hB
  have hlen := jWl_len i hi
  have hlt := jSl_lt i (by omega)
  have g1 := (hT.2.2.2.2.2.2.2 i (by omega)).1
  intro t
  induction t with
  | zero =>
    intro j f h1 h2
    obtain ⟨f, rfl⟩ := jsucc h2
    show c_X3_isWord_l20_b F _ m _ _ _ = _
    unfold c_X3_isWord_l20_b
    rw [jgd_t g1, q_slen hT (by omega), jb_some, if_pos (ji_lep (by omega) (by omega) (by omega))]
    rfl
  | succ t ih =>
    intro j f h1 h2
    obtain ⟨f, rfl⟩ := jsucc h2
    show c_X3_isWord_l20_b F _ m _ _ _ = _
    unfold c_X3_isWord_l20_b
    have hb2 := hb (p + j) (by omega)
    have hj2 := (jWl_at i hi j (by omega) (by omega)).2
    rw [jgd_t g1, q_slen hT (by omega), jb_some, if_neg (ji_len (by omega) (by omega) (by omega)), jgd_t hT.1, hT.2.1, jgd_t hT.2.2.2.1, hp, ji_add, hT.2.2.2.2.1, jgd_t (ji_int (by omega) (by omega)), q_schar hT hi (by omega), jb_some, ji_n (by omega), hb2.1, jl_1, ji_add, jall_s]
    by_cases e : b (p + j) = (jWl i).getD j 0
    · rw [if_pos (by rw [e])]
      dsimp only
      rw [ih (j + 1) f (by omega) (by omega), e, beq_self_eq_true, Bool.true_and]
    · rw [if_neg (ji_eqn (by omega) (by omega) e)]
      have : (b (p + j) == (jWl i).getD j 0) = false := beq_eq_false_iff_ne.mpr e
      rw [this, Bool.false_and]
      rfl
theorem q_risWord (hF : 1000 < F) (hB : jzB b n m) {i p q : Nat} (hi : i < 7) (hp : jI m 36 5 = Int32.ofNat p) (hq' : jI m 36 4 = Int32.ofNat q) (hq : q ≤ n) (hpq : p ≤ q) : c_X3_isWord F m 36 (3 + i) = some (jbi (jzw b p q (jWl i))) := by
  have hT := hB.1
  have hn160 := hB.2.2.1
  have g1 := (hT.2.2.2.2.2.2.2 i (by omega)).1
  have hlen := jWl_len i hi
  have hlt := jSl_lt i (by omega)
  unfold c_X3_isWord jzw
  rw [jgd_t hT.1, jgd_t g1, q_slen hT (by omega), jb_some, hp, hq', ji_sub hpq]
  by_cases hl : q - p = (jWl i).length
  · rw [if_pos (by rw [hl, hlen]), jl_0, q_risWord_l20 hB hi hp hq hl hpq (jWl i).length 0 F (by omega) (by omega), decide_eq_true hl, Bool.true_and, List.range_eq_range']
    cases (List.range' 0 (jWl i).length).all fun x => b (p + x) == (jWl i).getD x 0 <;> rfl
  · rw [if_neg (ji_eqn (by omega) (by omega) (by omega)), decide_eq_false hl, Bool.false_and]
    rfl
theorem q_rname (hF : 1000 < F) (hB : jzB b n m) {p q : Nat} (hp : jI m 36 5 = Int32.ofNat p) (hq' : jI m 36 4 = Int32.ofNat q) (hq : q ≤ n) (hpq : p < q) (h97 : 97 ≤ b p) : c_X3_nameOf F m 36 = some (if (jzn b p q).1 = 3 then Int32.ofNat (jzn b p q).2 else -1) := by
  have hT := hB.1
  have hn160 := hB.2.2.1
  have hb := hB.2.2.2 p (by omega)
  have hw := fun i hi => q_risWord (F := F) hF hB (i := i) hi hp hq' hq (by omega)
  have h40 : ¬ (q - p = 1 ∧ b p ≤ 102) → c_X3_nameOf_j40 F m 36 = some (if (jzn b p q).1 = 3 then Int32.ofNat (jzn b p q).2 else -1) := by
    intro hc
    unfold c_X3_nameOf_j40 jzn
    rw [if_neg hc, jgd_t hT.1, hw 0 (by omega), hw 1 (by omega), hw 2 (by omega), jb_some, jb_some, jb_some]
    show (if jbi (jzw b p q [114, 111, 119]) = 0 then (if jbi (jzw b p q [102, 114, 111, 109]) = 0 then (if jbi (jzw b p q [99, 111, 112, 105, 101, 115]) = 0 then some (-1) else some 8) else some 7) else some 6) = _
    cases jzw b p q [114, 111, 119] with
    | true => rfl
    | false =>
      cases jzw b p q [102, 114, 111, 109] with
      | true => rfl
      | false =>
        cases jzw b p q [99, 111, 112, 105, 101, 115] with
        | true => rfl
        | false =>
          have hz : ∀ c4 c5 c6 c7 : Bool, (if c4 = true then ((4, 0) : Nat × Nat) else if c5 = true then (5, 0) else if c6 = true then (6, 0) else if c7 = true then (7, 0) else (0, 0)).1 ≠ 3 := by decide
          rw [if_pos (by decide), if_pos (by decide), if_pos (by decide)]
          exact congrArg some (if_neg (hz _ _ _ _)).symm
  unfold c_X3_nameOf
  rw [jgd_t hT.1, hq', hp, ji_sub (by omega)]
  by_cases h1 : q - p = 1
  · rw [h1, if_pos (show Int32.ofNat 1 = 1 from rfl), hT.2.1, jgd_t hT.2.2.2.1, hT.2.2.2.2.1, jgd_t (ji_int (by omega) (by omega)), ji_n (by omega), hb.1]
    by_cases h2 : b p ≤ 102
    · rw [if_neg (show ¬ (102 : Int32) < Int32.ofNat (b p) from ji_ltn (a := 102) (by omega) (by omega) (by omega)), jgd_t (ji_int (by omega) (by omega)), show (97 : Int32) = Int32.ofNat 97 from rfl, ji_sub h97]
      have e : jzn b p q = (3, b p - 97) := by
        unfold jzn
        rw [if_pos ⟨h1, h2⟩]
      rw [e, if_pos rfl]
    · rw [if_pos (show (102 : Int32) < Int32.ofNat (b p) from ji_ltp (a := 102) (by omega) (by omega) (by omega))]
      exact h40 (fun h => h2 h.2)
  · rw [if_neg (show ¬ Int32.ofNat (q - p) = 1 from ji_eqn (b := 1) (by omega) (by omega) h1)]
    exact h40 (fun h => h1 h.1)
theorem q_risL (hB : jzB b n m) {i : Nat} (hi : i < 2147483648) : c_X3_isLetter F m 36 (Int32.ofNat i) = some (jbi (decide (i < n ∧ 97 ≤ b i ∧ b i ≤ 122))) := by
  obtain ⟨hT, hn, hn160, hb⟩ := hB
  unfold c_X3_isLetter
  rw [jgd_t hT.1, hn]
  by_cases h : n ≤ i
  · rw [if_pos (ji_lep (by omega) hi h), decide_eq_false (by omega)]
    rfl
  · have hb := hb i (by omega)
    rw [if_neg (ji_len (by omega) hi h), hT.2.1, jgd_t hT.2.2.2.1, hT.2.2.2.2.1, jgd_t (ji_int (by omega) (by omega)), jgd_t (ji_int (by omega) (by omega)), ji_n (by omega), hb.1]
    by_cases h1 : b i < 97
    · rw [if_pos (show Int32.ofNat (b i) < 97 from ji_ltp (b := 97) (by omega) (by omega) h1), decide_eq_false (by omega)]
      rfl
    · rw [if_neg (show ¬ Int32.ofNat (b i) < 97 from ji_ltn (b := 97) (by omega) (by omega) h1)]
      by_cases h2 : 122 < b i
      · rw [if_pos (show (122 : Int32) < Int32.ofNat (b i) from ji_ltp (a := 122) (by omega) (by omega) h2), decide_eq_false (by omega)]
        rfl
      · rw [if_neg (show ¬ (122 : Int32) < Int32.ofNat (b i) from ji_ltn (a := 122) (by omega) (by omega) h2), decide_eq_true (by omega)]
        rfl
theorem q_risD (hB : jzB b n m) {i : Nat} (hi : i < 2147483648) : c_X3_isDigit F m 36 (Int32.ofNat i) = some (jbi (decide (i < n ∧ 48 ≤ b i ∧ b i ≤ 57))) := by
  obtain ⟨hT, hn, hn160, hb⟩ := hB
  unfold c_X3_isDigit
  rw [jgd_t hT.1, hn]
  by_cases h : n ≤ i
  · rw [if_pos (ji_lep (by omega) hi h), decide_eq_false (by omega)]
    rfl
  · have hb := hb i (by omega)
    rw [if_neg (ji_len (by omega) hi h), hT.2.1, jgd_t hT.2.2.2.1, hT.2.2.2.2.1, jgd_t (ji_int (by omega) (by omega)), jgd_t (ji_int (by omega) (by omega)), ji_n (by omega), hb.1]
    by_cases h1 : b i < 48
    · rw [if_pos (show Int32.ofNat (b i) < 48 from ji_ltp (b := 48) (by omega) (by omega) h1), decide_eq_false (by omega)]
      rfl
    · rw [if_neg (show ¬ Int32.ofNat (b i) < 48 from ji_ltn (b := 48) (by omega) (by omega) h1)]
      by_cases h2 : 57 < b i
      · rw [if_pos (show (57 : Int32) < Int32.ofNat (b i) from ji_ltp (a := 57) (by omega) (by omega) h2), decide_eq_false (by omega)]
        rfl
      · rw [if_neg (show ¬ (57 : Int32) < Int32.ofNat (b i) from ji_ltn (a := 57) (by omega) (by omega) h2), decide_eq_true (by omega)]
        rfl
theorem q_indexOf_l7 (hT : jzT m) {x : Int32} : ∀ (t i f : Nat), i + t = 9 → t < f → ∃ z, c_J1_indexOfChar_4cfef_l7 F m f 18 (Int32.ofNat 9) x (Int32.ofNat i) = some z ∧ ((z = .inr () ∧ ∀ j, i ≤ j → j < 9 → (jSb.getD 7 []).getD j 0 ≠ x) ∨ (∃ j, i ≤ j ∧ j < 9 ∧ (jSb.getD 7 []).getD j 0 = x ∧ z = .inl (Int32.ofNat j))) := by
  obtain ⟨g1, g2, g3, g4⟩ := hT.2.2.2.2.2.2.2 7 (by omega)
  have g3 : jZ m 18 = 9 := g3
  have g4 : ∀ j, j < 9 → jI m 18 j = (jSb.getD 7 []).getD j 0 := g4
  intro t
  induction t with
  | zero =>
    intro i f h1 h2
    obtain ⟨f, rfl⟩ := jsucc h2
    refine ⟨.inr (), ?_, Or.inl ⟨rfl, fun j h3 h4 => by omega⟩⟩
    show c_J1_indexOfChar_4cfef_l7_b F _ m _ _ _ _ = _
    unfold c_J1_indexOfChar_4cfef_l7_b
    rw [if_pos (ji_lep (by omega) (by omega) (by omega))]
  | succ t ih =>
    intro i f h1 h2
    obtain ⟨f, rfl⟩ := jsucc h2
    have hst : ∀ z, (if (jSb.getD 7 []).getD i 0 = x then some (.inl (Int32.ofNat i)) else c_J1_indexOfChar_4cfef_l7 F m f 18 (Int32.ofNat 9) x (Int32.ofNat (i + 1))) = z → c_J1_indexOfChar_4cfef_l7 F m (f + 1) 18 (Int32.ofNat 9) x (Int32.ofNat i) = z := by
      intro z h
      rw [← h]
      show c_J1_indexOfChar_4cfef_l7_b F _ m _ _ _ _ = _
      unfold c_J1_indexOfChar_4cfef_l7_b
      rw [if_neg (ji_len (by omega) (by omega) (by omega)), jgd_t g2, g3, jgd_t (ji_int (by omega) (by omega)), ji_n (by omega), g4 i (by omega), jl_1, ji_add]
    by_cases e : (jSb.getD 7 []).getD i 0 = x
    · exact ⟨_, hst _ (if_pos e), Or.inr ⟨i, Nat.le_refl _, by omega, e, rfl⟩⟩
    · obtain ⟨z, a1, a2⟩ := ih (i + 1) f (by omega) (by omega)
      refine ⟨z, hst _ (by rw [if_neg e]; exact a1), ?_⟩
      rcases a2 with ⟨a2, a3⟩ | ⟨j, a2, a3, a4, a5⟩
      · refine Or.inl ⟨a2, fun j h3 h4 => ?_⟩
        by_cases q : j = i
        · subst q; exact e
        · exact a3 j (by omega) h4
      · exact Or.inr ⟨j, by omega, a3, a4, a5⟩
theorem jzg_s : ∀ c, c < 256 → ((∃ j, j < 9 ∧ (jSb.getD 7 []).getD j 0 = ji2b (Int32.ofNat c)) ↔ jzg c = true) := by decide +kernel
theorem ji2c_n {c : Nat} (hc : c < 256) : ji2c (Int32.ofNat c) = Int32.ofNat c := by
  have : ∀ c : Fin 256, ji2c (Int32.ofNat c.1) = Int32.ofNat c.1 := by decide +kernel
  exact this ⟨c, hc⟩
theorem q_risSign (hF : 1000 < F) (hT : jzT m) {c : Nat} (hc : c < 256) : c_X3_isSign F m (ji2c (Int32.ofNat c)) = some (jbi (jzg c)) := by
  obtain ⟨g1, g2, g3, g4⟩ := hT.2.2.2.2.2.2.2 7 (by omega)
  have g1 : jK m 10 = 10 := g1
  have g2 : jK m 18 = 11 := g2
  have g3 : jZ m 18 = 9 := g3
  have hlen := q_slen (F := F) hT (i := 7) (by omega)
  have hlen : c_J0_length_8abf5 F m 10 = some (Int32.ofNat 9) := hlen
  obtain ⟨z, a1, a2⟩ := q_indexOf_l7 (F := F) hT (x := ji2b (Int32.ofNat c)) 9 0 F (by omega) (by omega)
  have hg := jzg_s c hc
  rw [ji2c_n hc]
  unfold c_X3_isSign c_J0_indexOf_0f7a4 c_J0_indexOf_7cf53 c_J0_isLatin1_aae02 c_J1_indexOf_4cfef c_J1_canEncode_9a6ad c_J1_indexOfChar_4cfef
  rw [jgd_t g1, jgd_t g1, jgd_t g1, if_neg (show ¬ (1 : Int32) = 0 by decide), jgd_t g1, if_pos (show (0 : Int32) = 0 from rfl), jb_some, if_neg (show ¬ (1 : Int32) = 0 by decide), hlen, jb_some, if_neg (ji_ge0 (by omega)), if_neg (show ¬ (255 : Int32) < Int32.ofNat c from ji_ltn (a := 255) (by omega) (by omega) (by omega)), jb_some, if_neg (show ¬ (1 : Int32) = 0 by decide), g2, jgd_t rfl, g3, if_neg (show ¬ (0 : Int32) < 0 by decide), if_neg (show ¬ Int32.ofNat 9 < Int32.ofNat 9 by decide), if_pos (show (0 : Int32) < Int32.ofNat 9 by decide), show (0 : Int32) = Int32.ofNat 0 from rfl]
  show jb (jb (jb (jb (jb2 (c_J1_indexOfChar_4cfef_l7 F m F 18 (Int32.ofNat 9) (ji2b (Int32.ofNat c)) (Int32.ofNat 0)) _ _) _) _) _) _ = _
  rw [a1]
  rcases a2 with ⟨rfl, a3⟩ | ⟨j, a2, a3, a4, rfl⟩
  · have : jzg c = false := by
      cases q : jzg c with
      | false => rfl
      | true =>
        obtain ⟨j, h1, h2⟩ := hg.mpr q
        exact absurd h2 (a3 j (by omega) h1)
    rw [this]
    rfl
  · have : jzg c = true := hg.mp ⟨j, a3, a4⟩
    rw [this, jb2_l]
    show (if Int32.ofNat j < Int32.ofNat 0 then some (Int32.ofNat 0) else some 1) = some (jbi true)
    rw [if_neg (ji_ltn (by omega) (by omega) (by omega))]
    rfl
end RSTEP
