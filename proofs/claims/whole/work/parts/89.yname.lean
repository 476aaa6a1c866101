/-! the reference's reader: names, signs; what is open -/
/-- the row that names speak of -/
def jyE (r k : Nat) (f : Nat → Int32) (cp : Int32) (m : jMe) : Prop := r < 4 ∧ k < 8 ∧ jI m 101 15 = Int32.ofNat r ∧ jI m 101 16 = Int32.ofNat k ∧ (∀ a, a < 6 → jI m 108 (48 * r + 6 * k + a) = f a) ∧ jI m 109 (8 * r + k) = cp
theorem jyE_of {r k : Nat} {f : Nat → Int32} {cp : Int32} {m m' : jMe} (h : jyF m m') (q : jyE r k f cp m) : jyE r k f cp m' := by
  obtain ⟨q1, q2, q3, q4, q5, q6⟩ := q
  exact ⟨q1, q2, by rw [h.I (by omega)]; exact q3, by rw [h.I (by omega)]; exact q4, fun a ha => by rw [h.I (by omega)]; exact q5 a ha, by rw [h.I (by omega)]; exact q6⟩
section YNAME
variable {F : Nat} {t : Nat} {b : Nat → Nat} {n : Nat} {r k : Nat} {f : Nat → Int32} {cp : Int32}
theorem y_ofVal {m : jMe} (hL : jLM m) (hE : jyE r k f cp m) {a : Nat} (ha : a < 6) : c_X10_ofVal F m 101 (Int32.ofNat a) = some (f a) := by
  unfold c_X10_ofVal
  rw [jgd_t hL.1, hE.2.2.1, hE.2.2.2.1, y_val hL hE.1 hE.2.1 ha, jb_some, hE.2.2.2.2.1 a ha]
theorem jenv_a {w : Nat} (hw : w < 6) : jenv r k f cp (Int32.ofNat w) = f w := by
  unfold jenv
  rw [if_neg (show ¬ Int32.ofNat w = 6 from ji_eqn (b := 6) (by omega) (by omega) (by omega)), if_neg (show ¬ Int32.ofNat w = 7 from ji_eqn (b := 7) (by omega) (by omega) (by omega)), if_neg (show ¬ Int32.ofNat w = 8 from ji_eqn (b := 8) (by omega) (by omega) (by omega)), if_pos (ji_int (by omega) hw), ji_n (by omega)]
theorem jwT_3 : ∀ i, i < 13 → (jwT i).1 = 3 → i < 9 ∧ (jwT i).2 = i := by decide
theorem jwT_9 : ∀ i, i < 9 → jwT i = (3, i) := by decide
theorem jyC_3 {m : jMe} {s : jS0} (hC : jyC b s m) (h3 : s.1 = 3) : s.2.1 < 9 := by
  obtain ⟨d1, d2, d3, d4⟩ := hC.2.2.2.2.2.2.1 (by omega) (by omega)
  rcases jznl_c (jzwd_97 d3) with ⟨i, hi, e⟩ | ⟨-, e⟩
  · rw [jzn_e, e, jwN_T i hi] at d2
    have := jwT_3 i hi (by rw [d2]; exact h3)
    rw [d2] at this
    have h2 : s.2.1 = i := this.2
    omega
  · rw [jzn_e, e] at d2
    have : (0 : Nat) = s.1 := congrArg Prod.fst d2
    omega
theorem y_name {m : jMe} {s : jS0} (hB : jyB t b n m) (hE : jyE r k f cp m) (hC : jyC b s m) (hW : jzW n s) (h3 : s.1 = 3) : c_X10_name F m 101 = some (jenv r k f cp (Int32.ofNat s.2.1), m) := by
  have h9 := jyC_3 hC h3
  have hL := hB.1
  have hw : ∀ i, i < 9 → c_iw F m i = some (jbi (decide (s.2.1 = i))) := by
    intro i hi
    rw [y_isWordC hB hC hW (by omega), jwT_9 i hi, h3]
    congr 2
    apply decide_eq_decide.mpr
    constructor
    · rintro ⟨e, -⟩
      exact congrArg Prod.snd e
    · intro e
      exact ⟨by rw [e], by omega, by omega⟩
  have w0 : c_X10_isWord F m 101 (97 : Int32) (0 : Int32) (0 : Int32) (0 : Int32) (0 : Int32) (0 : Int32) (0 : Int32) (0 : Int32) = some (jbi (decide (s.2.1 = 0))) := hw 0 (by omega)
  have w1 : c_X10_isWord F m 101 (98 : Int32) (0 : Int32) (0 : Int32) (0 : Int32) (0 : Int32) (0 : Int32) (0 : Int32) (0 : Int32) = some (jbi (decide (s.2.1 = 1))) := hw 1 (by omega)
  have w2 : c_X10_isWord F m 101 (99 : Int32) (0 : Int32) (0 : Int32) (0 : Int32) (0 : Int32) (0 : Int32) (0 : Int32) (0 : Int32) = some (jbi (decide (s.2.1 = 2))) := hw 2 (by omega)
  have w3 : c_X10_isWord F m 101 (100 : Int32) (0 : Int32) (0 : Int32) (0 : Int32) (0 : Int32) (0 : Int32) (0 : Int32) (0 : Int32) = some (jbi (decide (s.2.1 = 3))) := hw 3 (by omega)
  have w4 : c_X10_isWord F m 101 (101 : Int32) (0 : Int32) (0 : Int32) (0 : Int32) (0 : Int32) (0 : Int32) (0 : Int32) (0 : Int32) = some (jbi (decide (s.2.1 = 4))) := hw 4 (by omega)
  have w5 : c_X10_isWord F m 101 (102 : Int32) (0 : Int32) (0 : Int32) (0 : Int32) (0 : Int32) (0 : Int32) (0 : Int32) (0 : Int32) = some (jbi (decide (s.2.1 = 5))) := hw 5 (by omega)
  have w6 : c_X10_isWord F m 101 (114 : Int32) (111 : Int32) (119 : Int32) (0 : Int32) (0 : Int32) (0 : Int32) (0 : Int32) (0 : Int32) = some (jbi (decide (s.2.1 = 6))) := hw 6 (by omega)
  have w7 : c_X10_isWord F m 101 (102 : Int32) (114 : Int32) (111 : Int32) (109 : Int32) (0 : Int32) (0 : Int32) (0 : Int32) (0 : Int32) = some (jbi (decide (s.2.1 = 7))) := hw 7 (by omega)
  have w8 : c_X10_isWord F m 101 (99 : Int32) (111 : Int32) (112 : Int32) (105 : Int32) (101 : Int32) (115 : Int32) (0 : Int32) (0 : Int32) = some (jbi (decide (s.2.1 = 8))) := hw 8 (by omega)
  have hv := fun a ha => y_ofVal (F := F) hL hE (a := a) ha
  have v0 : c_X10_ofVal F m 101 (0 : Int32) = some (f 0) := hv 0 (by omega)
  have v1 : c_X10_ofVal F m 101 (1 : Int32) = some (f 1) := hv 1 (by omega)
  have v2 : c_X10_ofVal F m 101 (2 : Int32) = some (f 2) := hv 2 (by omega)
  have v3 : c_X10_ofVal F m 101 (3 : Int32) = some (f 3) := hv 3 (by omega)
  have v4 : c_X10_ofVal F m 101 (4 : Int32) = some (f 4) := hv 4 (by omega)
  have v5 : c_X10_ofVal F m 101 (5 : Int32) = some (f 5) := hv 5 (by omega)
  unfold c_X10_name
  simp only [jgd_t hL.1, w0, w1, w2, w3, w4, w5, w6, w7, w8, v0, v1, v2, v3, v4, v5, jb_some]
  obtain ⟨e1, e2, e3, e4, e5, e6⟩ := hE
  rw [e3, e4, jp_109 hL, jgd_t (jk_109 hL), jz_109 hL, show (8 : Int32) = Int32.ofNat 8 from rfl, ji_mul, ji_add, jgd_t (ji_int (by omega) (by omega)), ji_n (by omega), e6]
  rcases (by omega : s.2.1 = 0 ∨ s.2.1 = 1 ∨ s.2.1 = 2 ∨ s.2.1 = 3 ∨ s.2.1 = 4 ∨ s.2.1 = 5 ∨ s.2.1 = 6 ∨ s.2.1 = 7 ∨ s.2.1 = 8) with e | e | e | e | e | e | e | e | e <;> rw [e]
  · rw [if_neg (by decide), jenv_a (by omega)]
  · rw [if_pos (by decide), if_neg (by decide), jenv_a (by omega)]
  · rw [if_pos (by decide), if_pos (by decide), if_neg (by decide), jenv_a (by omega)]
  · rw [if_pos (by decide), if_pos (by decide), if_pos (by decide), if_neg (by decide), jenv_a (by omega)]
  · rw [if_pos (by decide), if_pos (by decide), if_pos (by decide), if_pos (by decide), if_neg (by decide), jenv_a (by omega)]
  · rw [if_pos (by decide), if_pos (by decide), if_pos (by decide), if_pos (by decide), if_pos (by decide), if_neg (by decide), jenv_a (by omega)]
  · rw [if_pos (by decide), if_pos (by decide), if_pos (by decide), if_pos (by decide), if_pos (by decide), if_pos (by decide), if_neg (by decide)]
    rfl
  · rw [if_pos (by decide), if_pos (by decide), if_pos (by decide), if_pos (by decide), if_pos (by decide), if_pos (by decide), if_pos (by decide), if_neg (by decide)]
    rfl
  · rw [if_pos (by decide), if_pos (by decide), if_pos (by decide), if_pos (by decide), if_pos (by decide), if_pos (by decide), if_pos (by decide), if_pos (by decide), if_neg (by decide)]
    rfl
/-- a word that is no name -/
theorem y_name_no {m : jMe} (hB : jyB t b n m) (hw : ∀ i, i < 9 → c_iw F m i = some 0) {p : Nat} (hp : p ≤ 160) (h : (jI m 101 24 = 0 ∧ jI m 101 21 = Int32.ofNat p) ∨ (jI m 101 24 = 1 ∧ jI m 101 25 = Int32.ofNat p)) : ∃ m', c_X10_name F m 101 = some (0, m') ∧ jyF m m' ∧ jI m' 101 23 = jI m 101 23 ∧ jI m' 101 24 = 1 ∧ jI m' 101 25 = Int32.ofNat p := by
  have hL := hB.1
  obtain ⟨m', a1, a2, a3, a4⟩ := y_fail (F := F) hL hp h
  have w0 : c_X10_isWord F m 101 (97 : Int32) (0 : Int32) (0 : Int32) (0 : Int32) (0 : Int32) (0 : Int32) (0 : Int32) (0 : Int32) = some 0 := hw 0 (by omega)
  have w1 : c_X10_isWord F m 101 (98 : Int32) (0 : Int32) (0 : Int32) (0 : Int32) (0 : Int32) (0 : Int32) (0 : Int32) (0 : Int32) = some 0 := hw 1 (by omega)
  have w2 : c_X10_isWord F m 101 (99 : Int32) (0 : Int32) (0 : Int32) (0 : Int32) (0 : Int32) (0 : Int32) (0 : Int32) (0 : Int32) = some 0 := hw 2 (by omega)
  have w3 : c_X10_isWord F m 101 (100 : Int32) (0 : Int32) (0 : Int32) (0 : Int32) (0 : Int32) (0 : Int32) (0 : Int32) (0 : Int32) = some 0 := hw 3 (by omega)
  have w4 : c_X10_isWord F m 101 (101 : Int32) (0 : Int32) (0 : Int32) (0 : Int32) (0 : Int32) (0 : Int32) (0 : Int32) (0 : Int32) = some 0 := hw 4 (by omega)
  have w5 : c_X10_isWord F m 101 (102 : Int32) (0 : Int32) (0 : Int32) (0 : Int32) (0 : Int32) (0 : Int32) (0 : Int32) (0 : Int32) = some 0 := hw 5 (by omega)
  have w6 : c_X10_isWord F m 101 (114 : Int32) (111 : Int32) (119 : Int32) (0 : Int32) (0 : Int32) (0 : Int32) (0 : Int32) (0 : Int32) = some 0 := hw 6 (by omega)
  have w7 : c_X10_isWord F m 101 (102 : Int32) (114 : Int32) (111 : Int32) (109 : Int32) (0 : Int32) (0 : Int32) (0 : Int32) (0 : Int32) = some 0 := hw 7 (by omega)
  have w8 : c_X10_isWord F m 101 (99 : Int32) (111 : Int32) (112 : Int32) (105 : Int32) (101 : Int32) (115 : Int32) (0 : Int32) (0 : Int32) = some 0 := hw 8 (by omega)
  refine ⟨m', ?_, a2.weak (fun a i h => by omega), a2.I (by omega), a3, a4⟩
  unfold c_X10_name
  simp only [jgd_t hL.1, w0, w1, w2, w3, w4, w5, w6, w7, w8, jb_some, a1]
  rw [if_pos trivial, if_pos trivial, if_pos trivial, if_pos trivial, if_pos trivial, if_pos trivial, if_pos trivial, if_pos trivial, if_pos trivial]
theorem y_isSignC {m : jMe} {s : jS0} (hB : jyB t b n m) (hC : jyC b s m) (hW : jzW n s) {x : Nat} (hx : 8 ≤ x) (hx2 : x < 256) : c_X10_isSign F m 101 (Int32.ofNat x) = some (jbi (decide (s.1 = x))) := by
  obtain ⟨c1, c2, c3, c4, c5, c6, c7, c8⟩ := hC
  unfold c_X10_isSign
  rw [jgd_t hB.1.1, if_pos c1]
  by_cases h : 8 ≤ s.1
  · obtain ⟨d1, d2⟩ := c8 h
    have h256 := hW.2.2.2.2.1
    rw [if_pos d1, d2, jt64 (by omega)]
    by_cases e : s.1 = x
    · rw [if_pos (jc_eq0.mpr (by rw [e])), decide_eq_true e]
      rfl
    · rw [if_neg (fun h => e ((jq_eq (by unfold jMX; omega) (by unfold jMX; omega)).mp (jc_eq0.mp h))), decide_eq_false e]
      rfl
  · have h20 : ¬ jI m 101 20 = 3 := by
      rcases (by omega : s.1 = 1 ∨ s.1 = 2 ∨ (3 ≤ s.1 ∧ s.1 ≤ 7)) with e | e | e
      · rw [c5 e]; decide
      · rw [(c6 e).1]; decide
      · rw [(c7 e.1 e.2).1]; decide
    rw [if_neg h20, decide_eq_false (by omega)]
    rfl
theorem y_isSignD {m : jMe} {p : Nat} (hB : jyB t b n m) (hD : jyD b n p m) {x : Int32} : c_X10_isSign F m 101 x = some 0 := by
  unfold c_X10_isSign
  rw [jgd_t hB.1.1]
  rcases hD.2 with ⟨d1, -⟩ | ⟨d1, d2, d3 | ⟨d3, -⟩⟩
  · rw [if_neg (by rw [d1]; decide)]
  · rw [if_pos d1, if_neg (by rw [d3]; decide)]
  · rw [if_pos d1, if_neg (by rw [d3]; decide)]
theorem jyC_23 {m : jMe} {s : jS0} {x : Int32} (h : jyC b s m) : jyC b s (jsI m 101 23 x) := by
  obtain ⟨c1, c2, c3, c4, c5, c6, c7, c8⟩ := h
  exact ⟨by rw [jsI_no (by omega)]; exact c1, by rw [jsI_no (by omega)]; exact c2, by rw [jsI_no (by omega)]; exact c3, c4, fun e => by rw [jsI_no (by omega)]; exact c5 e, fun e => ⟨by rw [jsI_no (by omega)]; exact (c6 e).1, (c6 e).2⟩, fun e1 e2 => ⟨by rw [jsI_no (by omega)]; exact (c7 e1 e2).1, (c7 e1 e2).2⟩, fun e => ⟨by rw [jsI_no (by omega)]; exact (c8 e).1, (c8 e).2⟩⟩
theorem jyD_23 {m : jMe} {p : Nat} {x : Int32} (h : jyD b n p m) : jyD b n p (jsI m 101 23 x) := by
  obtain ⟨h0, h⟩ := h
  refine ⟨h0, ?_⟩
  rcases h with ⟨d1, d2⟩ | ⟨d1, d2, d3⟩
  · exact Or.inl ⟨by rw [jsI_no (by omega)]; exact d1, by rw [jsI_no (by omega)]; exact d2⟩
  · refine Or.inr ⟨by rw [jsI_no (by omega)]; exact d1, by rw [jsI_no (by omega)]; exact d2, ?_⟩
    rcases d3 with d3 | ⟨d3, q, d4, d5⟩
    · exact Or.inl (by rw [jsI_no (by omega)]; exact d3)
    · exact Or.inr ⟨by rw [jsI_no (by omega)]; exact d3, q, by rw [jsI_no (by omega)]; exact d4, d5⟩
/-- at a fault -/
theorem y_failC {m : jMe} {s : jS0} (hB : jyB t b n m) (hC : jyC b s m) (hW : jzW n s) : ∃ m', c_X10_fail F m 101 = some m' ∧ jyF m m' ∧ jI m' 101 23 = jI m 101 23 ∧ jyD b n s.2.2.1 m' := by
  have := hW.1
  have := hB.2.2.2.2.1
  obtain ⟨m', a1, a2, a3, a4⟩ := y_fail (F := F) hB.1 (p := s.2.2.1) (by omega) (Or.inl ⟨hC.1, hC.2.1⟩)
  exact ⟨m', a1, a2.weak (fun a i h => by omega), a2.I (by omega), by omega, Or.inl ⟨a3, a4⟩⟩
theorem y_failD {m : jMe} {p : Nat} (hB : jyB t b n m) (hD : jyD b n p m) : ∃ m', c_X10_fail F m 101 = some m' ∧ jyF m m' ∧ jI m' 101 23 = jI m 101 23 ∧ jyD b n p m' ∧ jI m' 101 24 = 1 := by
  obtain ⟨m', a1, a2, a3, a4⟩ := y_fail (F := F) hB.1 hD.1 (by
    rcases hD.2 with ⟨d1, d2⟩ | ⟨d1, d2, -⟩
    · exact Or.inr ⟨d1, d2⟩
    · exact Or.inl ⟨d1, d2⟩)
  exact ⟨m', a1, a2.weak (fun a i h => by omega), a2.I (by omega), ⟨hD.1, Or.inl ⟨a3, a4⟩⟩, a3⟩
theorem y_opens (hF : 1000 < F) {m : jMe} {s : jS0} {op : Nat} (hop : op ≤ 5) (hB : jyB t b n m) (hC : jyC b s m) (hW : jzW n s) (h23 : jI m 101 23 = Int32.ofNat op) : if op < 5 then ∃ m', c_X10_opens F m 101 = some (1, m') ∧ jyF m m' ∧ jI m' 101 23 = Int32.ofNat (op + 1) ∧ jyU b n m' (jzs b n s.2.2.2) else ∃ m', c_X10_opens F m 101 = some (0, m') ∧ jyF m m' ∧ jI m' 101 23 = Int32.ofNat op ∧ jyD b n s.2.2.1 m' := by
  unfold c_X10_opens
  rw [jgd_t hB.1.1, h23]
  by_cases q : op < 5
  · rw [if_pos q, if_neg (show ¬ Int32.ofNat op = 5 from ji_eqn (b := 5) (by omega) (by omega) (by omega)), jl_1, ji_add]
    have f1 : jyF m (jsI m 101 23 (Int32.ofNat (op + 1))) := jfx_I ⟨rfl, by omega⟩
    have hC1 := jyC_23 (x := Int32.ofNat (op + 1)) hC
    obtain ⟨m', a1, a2, a3⟩ := y_next (F := F) hF (jyB_of f1 hB) hC1.2.2.1 hW.2.1 hC1.1
    rw [a1, jb_some]
    exact ⟨m', rfl, f1.trans (jyFs_F a2), by rw [a2.I (by omega), jsI_y], a3⟩
  · rw [if_neg q, if_pos (show Int32.ofNat op = 5 by rw [show op = 5 by omega]; rfl)]
    obtain ⟨m', a1, a2, a3, a4⟩ := y_failC (F := F) hB hC hW
    rw [a1, jb_some]
    exact ⟨m', rfl, a2, by rw [a3, h23], a4⟩
end YNAME
