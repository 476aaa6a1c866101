/-! the tree, as the reference tells it -/
def jer (A : Nat → Nat) (s r q : Nat) : Bool := decide (r ≠ q) && decide ((A r &&& joth A s r 4 0 0) &&& (63 ^^^ A q) = 0)
abbrev jyFt (m m' : jMe) : Prop := jfx (fun a i => a = 113 ∨ (a = 101 ∧ i = 29)) m m'
/-- the reference's attributes -/
def jyA (A : Nat → Nat) (m : jMe) : Prop := jLM m ∧ (∀ q, q < 4 → jI m 106 q = Int32.ofNat (A q) ∧ A q < 64)
theorem jyA_of {A : Nat → Nat} {m m' : jMe} (h : jyFt m m') (k : jyA A m) : jyA A m' := ⟨jLM_fx h k.1, fun q hq => ⟨by rw [h.I (by omega)]; exact (k.2 q hq).1, (k.2 q hq).2⟩⟩
section YTREE
variable {F : Nat} {A : Nat → Nat}
theorem y_isEar_l6 {m : jMe} (hA : jyA A m) {s r q : Nat} (hs : s < 16) (hr : r < 4) : ∀ (t a x f : Nat), a + t = 4 → t < f → x < 64 → c_X10_isEar_l6 F m f 101 (Int32.ofNat r) (Int32.ofNat q) (Int32.ofNat s) (Int32.ofNat x) (Int32.ofNat a) = some (101, Int32.ofNat r, Int32.ofNat q, Int32.ofNat (joth A s r t a x)) := by
  intro t
  induction t with
  | zero =>
    intro a x f h1 h2 h3
    obtain ⟨f, rfl⟩ := jsucc h2
    show c_X10_isEar_l6_b F _ m _ _ _ _ _ _ = _
    unfold c_X10_isEar_l6_b
    rw [if_pos (show (4 : Int32) ≤ Int32.ofNat a from ji_lep (a := 4) (by omega) (by omega) (by omega))]
    rfl
  | succ t ih =>
    intro a x f h1 h2 h3
    obtain ⟨f, rfl⟩ := jsucc h2
    have ha := (hA.2 a (by omega)).2
    show c_X10_isEar_l6_b F _ m _ _ _ _ _ _ = _
    unfold c_X10_isEar_l6_b
    rw [if_neg (show ¬ (4 : Int32) ≤ Int32.ofNat a from ji_len (a := 4) (by omega) (by omega) (by omega)), jgd_t hA.1.1, jp_106 hA.1, jgd_t (jk_106 hA.1), jz_106 hA.1, jgd_t (ji_int (by omega) (by omega)), ji_n (by omega), (hA.2 a (by omega)).1, jshr_1 (by omega) (by omega), show (0 : Int32) = Int32.ofNat 0 from rfl, ji_or (by omega) (by omega), ji_or (by omega) (by omega), jl_1, ji_add]
    unfold joth
    by_cases e : a = r
    · rw [if_pos (by rw [e]), if_neg (fun h => h.1 e)]
      exact ih (a + 1) (x ||| 0) f (by omega) (by omega) (Nat.or_lt_two_pow (n := 6) h3 (by omega))
    · rw [if_neg (ji_eqn (by omega) (by omega) e)]
      cases z : s.testBit a with
      | true =>
        rw [if_pos (show jbi true = Int32.ofNat 1 from rfl), if_pos ⟨e, rfl⟩]
        exact ih (a + 1) (x ||| A a) f (by omega) (by omega) (Nat.or_lt_two_pow (n := 6) h3 ha)
      | false =>
        rw [if_neg (show ¬ jbi false = Int32.ofNat 1 by decide), if_neg (fun h => by cases h.2)]
        exact ih (a + 1) (x ||| 0) f (by omega) (by omega) (Nat.or_lt_two_pow (n := 6) h3 (by omega))
theorem y_isEar (hF : 100 < F) {m : jMe} (hA : jyA A m) {s r q : Nat} (hs : s < 16) (hr : r < 4) (hq : q < 4) : c_X10_isEar F m 101 (Int32.ofNat r) (Int32.ofNat q) (Int32.ofNat s) = some (jbi (jer A s r q)) := by
  have hj := joth_lt (fun q hq => (hA.2 q hq).2) (s := s) (r := r) 4 0 0 (by omega) (by omega)
  have hAr := (hA.2 r hr).2
  have hAq := (hA.2 q hq).2
  unfold c_X10_isEar jer
  rw [show (0 : Int32) = Int32.ofNat 0 from rfl, y_isEar_l6 hA hs hr 4 0 0 F (by omega) (by omega) (by omega), jb_some]
  dsimp only
  by_cases e : r = q
  · rw [if_pos (by rw [e]), decide_eq_false (fun h => h e), Bool.false_and]
    rfl
  · rw [if_neg (ji_eqn (by omega) (by omega) e), decide_eq_true e, Bool.true_and, jgd_t hA.1.1, jp_106 hA.1, jgd_t (jk_106 hA.1), jz_106 hA.1, jgd_t (ji_int (by omega) hr), jgd_t (ji_int (by omega) hq), ji_n (by omega), ji_n (by omega), (hA.2 r hr).1, (hA.2 q hq).1, ji_and (by omega) (by omega)]
    have hlt : A r &&& joth A s r 4 0 0 < 64 := Nat.lt_of_le_of_lt Nat.and_le_left hAr
    by_cases z : (A r &&& joth A s r 4 0 0) &&& (63 ^^^ A q) = 0
    · rw [if_pos (show _ = Int32.ofNat 0 from (ji_less hlt hAq).mpr z), decide_eq_true z]
      rfl
    · rw [if_neg (show ¬ _ = Int32.ofNat 0 from fun h => z ((ji_less hlt hAq).mp h)), decide_eq_false z]
      rfl
/-- the first below t, or what was there -/
def jlow (p : Nat → Bool) (d : Int32) : Nat → Int32
  | 0 => d
  | t + 1 => jlow p (if p t = true then Int32.ofNat t else d) t
theorem jlow_c {p p' : Nat → Bool} : ∀ (t : Nat) (d : Int32), (∀ i, i < t → p i = p' i) → jlow p d t = jlow p' d t := by
  intro t
  induction t with
  | zero => intro d _; rfl
  | succ t ih =>
    intro d h
    unfold jlow
    rw [h t (by omega)]
    exact ih _ (fun i hi => h i (by omega))
theorem jlow_k {p : Nat → Bool} {k : Nat} (hp : p k = true) (hl : ∀ i, i < k → p i = false) : ∀ (t : Nat) (d : Int32), k < t ∨ (t ≤ k ∧ d = Int32.ofNat k) → jlow p d t = Int32.ofNat k := by
  intro t
  induction t with
  | zero =>
    intro d h
    rcases h with h | ⟨-, h⟩
    · omega
    · exact h
  | succ t ih =>
    intro d h
    unfold jlow
    by_cases e : t = k
    · subst e
      rw [hp, if_pos rfl]
      exact ih _ (Or.inr ⟨Nat.le_refl _, rfl⟩)
    · rcases h with h | ⟨h1, h2⟩
      · exact ih _ (Or.inl (by omega))
      · rw [hl t (by omega), if_neg (by decide), h2]
        exact ih _ (Or.inr ⟨by omega, rfl⟩)
theorem jlow_n {p : Nat → Bool} : ∀ (t : Nat) (d : Int32), (∀ i, i < t → p i = false) → jlow p d t = d := by
  intro t
  induction t with
  | zero => intro d _; rfl
  | succ t ih =>
    intro d h
    unfold jlow
    rw [h t (by omega), if_neg (by decide)]
    exact ih _ (fun i hi => h i (by omega))
theorem ji_dn (t : Nat) : Int32.ofNat t - 1 + (-1) = Int32.ofNat t - 1 - 1 := by rw [Int32.sub_eq_add_neg (Int32.ofNat t - 1) 1]
/-- whether one is an ear of q: both of the set -/
def jes (A : Nat → Nat) (s r q : Nat) : Bool := s.testBit r && (s.testBit q && jer A s r q)
theorem y_isTree_l23 (hF : 100 < F) {s r : Nat} (hs : s < 16) (hr : r < 4) : ∀ (t f : Nat) (d : Int32) (m : jMe), t ≤ 4 → t < f → jyA A m → ∃ m', c_X10_isTree_l23 F f m 101 (Int32.ofNat s) d (Int32.ofNat r) (Int32.ofNat t - 1) = some (m', 101, Int32.ofNat s, (if (List.range t).any (jes A s r) = true then Int32.ofNat r else d), Int32.ofNat r) ∧ jyFt m m' ∧ jI m' 101 29 = jI m 101 29 ∧ (∀ x, x ≠ r → jI m' 113 x = jI m 113 x) ∧ jI m' 113 r = jlow (jes A s r) (jI m 113 r) t := by
  intro t
  induction t with
  | zero =>
    intro f d m h1 h2 hA
    obtain ⟨f, rfl⟩ := jsucc h2
    refine ⟨m, ?_, jfx.rfl, rfl, fun _ _ => rfl, rfl⟩
    show c_X10_isTree_l23_b F _ m _ _ _ _ _ = _
    unfold c_X10_isTree_l23_b
    rw [if_pos jdown0]
    rfl
  | succ t ih =>
    intro f d m h1 h2 hA
    obtain ⟨f, rfl⟩ := jsucc h2
    have hst : ∀ z, (if jes A s r t = true then c_X10_isTree_l23 F f (jsI m 113 r (Int32.ofNat t)) 101 (Int32.ofNat s) (Int32.ofNat r) (Int32.ofNat r) (Int32.ofNat t - 1) else c_X10_isTree_l23 F f m 101 (Int32.ofNat s) d (Int32.ofNat r) (Int32.ofNat t - 1)) = z → c_X10_isTree_l23 F (f + 1) m 101 (Int32.ofNat s) d (Int32.ofNat r) (Int32.ofNat (t + 1) - 1) = z := by
      intro z h
      rw [← h]
      show c_X10_isTree_l23_b F _ m _ _ _ _ _ = _
      unfold c_X10_isTree_l23_b
      rw [jdown_s, if_neg (ji_ge0 (by omega)), jshr_1 (by omega) (by omega), jshr_1 (by omega) (by omega), jgd_t hA.1.1, y_isEar hF hA hs hr (by omega), jb_some, jp_113 hA.1, jgd_t (jk_113 hA.1), jz_113 hA.1, jgd_t (ji_int (by omega) hr), ji_n (by omega), jdown]
      unfold jes
      cases s.testBit r with
      | false => rfl
      | true =>
        cases s.testBit t with
        | false => rfl
        | true => cases jer A s r t <;> rfl
    have hany : (List.range (t + 1)).any (jes A s r) = ((List.range t).any (jes A s r) || jes A s r t) := by
      rw [List.range_succ, List.any_append]
      simp
    cases e : jes A s r t with
    | true =>
      have f1 : jyFt m (jsI m 113 r (Int32.ofNat t)) := jfx_I (Or.inl rfl)
      obtain ⟨m', a1, a2, a3, a4, a5⟩ := ih f (Int32.ofNat r) _ (by omega) (by omega) (jyA_of f1 hA)
      refine ⟨m', hst _ ?_, f1.trans a2, ?_, fun x hx => ?_, ?_⟩
      · rw [if_pos e, a1, hany, e, Bool.or_true, if_pos rfl, ite_self]
      · rw [a3, jsI_no (by omega)]
      · rw [a4 x hx, jsI_no (by omega)]
      · rw [a5, jsI_y]
        conv => rhs; unfold jlow
        rw [e, if_pos rfl]
    | false =>
      obtain ⟨m', a1, a2, a3, a4, a5⟩ := ih f d m (by omega) (by omega) hA
      refine ⟨m', hst _ ?_, a2, a3, a4, ?_⟩
      · rw [e, if_neg (by decide), a1, hany, e, Bool.or_false]
      · rw [a5]
        conv => rhs; unfold jlow
        rw [e, if_neg (by decide)]
theorem jstf_none {s r x : Nat} : ∀ (t a : Nat), jstf A s r x t a = none → ∀ q, a ≤ q → q < a + t → ¬ (q ≠ r ∧ s.testBit q = true ∧ x &&& (63 ^^^ A q) = 0) := by
  intro t
  induction t with
  | zero => intro a _ q h1 h2; omega
  | succ t ih =>
    intro a h q h1 h2
    unfold jstf at h
    split at h
    · cases h
    · rename_i h3
      by_cases e : q = a
      · subst e; exact h3
      · exact ih (a + 1) h q (by omega) (by omega)
theorem jstf_least {s r x : Nat} : ∀ (t a q : Nat), jstf A s r x t a = some q → ∀ i, a ≤ i → i < q → ¬ (i ≠ r ∧ s.testBit i = true ∧ x &&& (63 ^^^ A i) = 0) := by
  intro t
  induction t with
  | zero => intro a q h; cases h
  | succ t ih =>
    intro a q h i h1 h2
    unfold jstf at h
    split at h
    · cases h
      omega
    · rename_i h3
      by_cases e : i = a
      · subst e; exact h3
      · exact ih (a + 1) q h i (by omega) h2
theorem jes_iff {s r q : Nat} (hr : s.testBit r = true) : jes A s r q = true ↔ (q ≠ r ∧ s.testBit q = true ∧ (A r &&& joth A s r 4 0 0) &&& (63 ^^^ A q) = 0) := by
  unfold jes jer
  simp only [hr, Bool.true_and, Bool.and_eq_true, decide_eq_true_eq]
  constructor
  · rintro ⟨h1, h2, h3⟩
    exact ⟨fun e => h2 e.symm, h1, h3⟩
  · rintro ⟨h1, h2, h3⟩
    exact ⟨h2, fun e => h1 e.symm, h3⟩
/-- of a relation of the set: its parent, if it is an ear -/
theorem jes_stem {s r : Nat} (hr : s.testBit r = true) (d : Int32) : (List.range 4).any (jes A s r) = (jstem A s r).isSome ∧ (∀ q, jstem A s r = some q → jlow (jes A s r) d 4 = Int32.ofNat q) := by
  cases h : jstem A s r with
  | none =>
    have hn := jstf_none (A := A) 4 0 h
    refine ⟨?_, fun q h => by cases h⟩
    show _ = false
    rw [List.any_eq_false]
    intro x hx
    rw [jes_iff hr]
    exact hn x (Nat.zero_le _) (by have := List.mem_range.mp hx; omega)
  | some q =>
    obtain ⟨g1, g2, g3, g4, g5⟩ := jstf_in h
    have hl := jstf_least (A := A) 4 0 q h
    have hq : jes A s r q = true := (jes_iff hr).mpr ⟨g3, g4, g5⟩
    refine ⟨?_, fun q' e => ?_⟩
    · show _ = true
      rw [List.any_eq_true]
      exact ⟨q, List.mem_range.mpr (by omega), hq⟩
    · cases e
      refine jlow_k hq (fun i hi => ?_) 4 d (Or.inl (by omega))
      have := hl i (Nat.zero_le _) hi
      rw [← jes_iff hr] at this
      simpa using this
theorem jes_out {s r : Nat} (hr : s.testBit r = false) : (List.range 4).any (jes A s r) = false := by
  rw [List.any_eq_false]
  intro x _
  unfold jes
  rw [hr, Bool.false_and]
  decide
/-- whether one is an ear of some of the set -/
def jea (A : Nat → Nat) (s r : Nat) : Bool := s.testBit r && (jstem A s r).isSome
theorem y_isTree_l15 (hF : 100 < F) {s : Nat} (hs : s < 16) : ∀ (t f : Nat) (d : Int32) (m : jMe), t ≤ 4 → t < f → jyA A m → ∃ m', c_X10_isTree_l15 F f m 101 (Int32.ofNat s) d (Int32.ofNat t - 1) = some (m', 101, Int32.ofNat s, jlow (jea A s) d t) ∧ jyFt m m' ∧ jI m' 101 29 = jI m 101 29 ∧ (∀ x, t ≤ x ∨ s.testBit x = false → jI m' 113 x = jI m 113 x) ∧ (∀ x q, x < t → s.testBit x = true → jstem A s x = some q → jI m' 113 x = Int32.ofNat q) := by
  intro t
  induction t with
  | zero =>
    intro f d m h1 h2 hA
    obtain ⟨f, rfl⟩ := jsucc h2
    refine ⟨m, ?_, jfx.rfl, rfl, fun _ _ => rfl, fun x q h => by omega⟩
    show c_X10_isTree_l15_b F _ m _ _ _ _ = _
    unfold c_X10_isTree_l15_b
    rw [if_pos jdown0]
    rfl
  | succ t ih =>
    intro f d m h1 h2 hA
    obtain ⟨f, rfl⟩ := jsucc h2
    obtain ⟨m1, a1, a2, a3, a4, a5⟩ := y_isTree_l23 (F := F) hF hs (r := t) (by omega) 4 F d m (by omega) (by omega) hA
    have e1 : (if (List.range 4).any (jes A s t) = true then Int32.ofNat t else d) = (if jea A s t = true then Int32.ofNat t else d) := by
      cases hb : s.testBit t with
      | true => rw [(jes_stem hb d).1]; unfold jea; rw [hb, Bool.true_and]
      | false => rw [jes_out hb]; unfold jea; rw [hb, Bool.false_and]
    rw [e1] at a1
    obtain ⟨m', b1, b2, b3, b4, b5⟩ := ih f (if jea A s t = true then Int32.ofNat t else d) m1 (by omega) (by omega) (jyA_of a2 hA)
    refine ⟨m', ?_, a2.trans b2, by rw [b3, a3], fun x hx => ?_, fun x q hx hb hq => ?_⟩
    · show c_X10_isTree_l15_b F _ m _ _ _ _ = _
      unfold c_X10_isTree_l15_b
      rw [jdown_s, if_neg (ji_ge0 (by omega)), show (3 : Int32) = Int32.ofNat 4 - 1 from rfl, a1, jb_some]
      dsimp only
      rw [jdown, b1]
      rfl
    · by_cases e : x = t
      · subst e
        have hb : s.testBit x = false := by
          rcases hx with hx | hx
          · omega
          · exact hx
        rw [b4 x (Or.inr hb), a5]
        refine jlow_n 4 _ (fun i _ => ?_)
        unfold jes
        rw [hb, Bool.false_and]
      · rw [b4 x (by rcases hx with hx | hx; exact Or.inl (by omega); exact Or.inr hx), a4 x e]
    · by_cases e : x = t
      · subst e
        rw [b4 x (Or.inl (Nat.le_refl _)), a5]
        exact (jes_stem hb _).2 q hq
      · exact b5 x q (by omega) hb hq
theorem jfef_none {s : Nat} : ∀ (t a : Nat), jfef A s t a = none → ∀ r, a ≤ r → r < a + t → jea A s r = false := by
  intro t
  induction t with
  | zero => intro a _ r h1 h2; omega
  | succ t ih =>
    intro a h r h1 h2
    unfold jfef at h
    split at h
    · cases h
    · rename_i h3
      by_cases e : r = a
      · subst e
        cases q : jea A s r with
        | false => rfl
        | true =>
          unfold jea at q
          rw [Bool.and_eq_true] at q
          exact absurd q h3
      · exact ih (a + 1) h r (by omega) (by omega)
theorem jfef_least {s : Nat} : ∀ (t a r : Nat), jfef A s t a = some r → ∀ i, a ≤ i → i < r → jea A s i = false := by
  intro t
  induction t with
  | zero => intro a r h; cases h
  | succ t ih =>
    intro a r h i h1 h2
    unfold jfef at h
    split at h
    · cases h
      omega
    · rename_i h3
      by_cases e : i = a
      · subst e
        cases q : jea A s i with
        | false => rfl
        | true =>
          unfold jea at q
          rw [Bool.and_eq_true] at q
          exact absurd q h3
      · exact ih (a + 1) r h i (by omega) h2
theorem jea_fear {s : Nat} : jlow (jea A s) (-1) 4 = jo1 (jfear A s) := by
  cases h : jfear A s with
  | none => exact jlow_n 4 _ (fun i hi => jfef_none (A := A) 4 0 h i (Nat.zero_le _) (by omega))
  | some r =>
    obtain ⟨-, g2, g3, g4⟩ := jfef_in h
    refine jlow_k ?_ (fun i hi => jfef_least (A := A) 4 0 r h i (Nat.zero_le _) hi) 4 _ (Or.inl (by omega))
    unfold jea
    rw [g3, g4]
    rfl
theorem y_isTree_l2 (hF : 100 < F) : ∀ (t s f : Nat) (m : jMe), s < 16 → jpop 8 s ≤ t + 1 → t < f → jyA A m → ∃ z, c_X10_isTree_l2 F f m 101 (Int32.ofNat s) = some z ∧ match jplant A t s with
    | none => ∃ m', z = .inl (0, m') ∧ jyFt m m' ∧ jI m' 101 29 = jI m 101 29
    | some p => ∃ m', z = .inr (m', 101, Int32.ofNat p.2) ∧ jyFt m m' ∧ jI m' 101 29 = jI m 101 29 ∧ (∀ x, s.testBit x = false → jI m' 113 x = jI m 113 x) ∧ (∀ q, q ∈ p.1 → jI m' 113 q.1 = Int32.ofNat q.2) := by
  intro t
  induction t with
  | zero =>
    intro s f m hs hp hf hA
    obtain ⟨f, rfl⟩ := jsucc hf
    refine ⟨.inr (m, 101, Int32.ofNat s), ?_, m, rfl, jfx.rfl, rfl, fun _ _ => rfl, fun q hq => by cases hq⟩
    show c_X10_isTree_l2_b F _ m _ _ = _
    unfold c_X10_isTree_l2_b
    rw [q_bitsOf hF (by omega), jb_some, if_pos (show Int32.ofNat (jpop 8 s) ≤ 1 from ji_lep (b := 1) (by omega) (by omega) hp)]
  | succ t ih =>
    intro s f m hs hp hf hA
    obtain ⟨f, rfl⟩ := jsucc hf
    have hp8 := jpop_le 8 s
    unfold jplant
    by_cases h1 : jpop 8 s ≤ 1
    · rw [if_pos h1]
      refine ⟨.inr (m, 101, Int32.ofNat s), ?_, m, rfl, jfx.rfl, rfl, fun _ _ => rfl, fun q hq => by cases hq⟩
      show c_X10_isTree_l2_b F _ m _ _ = _
      unfold c_X10_isTree_l2_b
      rw [q_bitsOf hF (by omega), jb_some, if_pos (show Int32.ofNat (jpop 8 s) ≤ 1 from ji_lep (b := 1) (by omega) (by omega) h1)]
    · rw [if_neg h1]
      obtain ⟨m1, a1, a2, a3, a4, a5⟩ := y_isTree_l15 (F := F) (A := A) hF hs 4 F (-1) m (by omega) (by omega) hA
      rw [jea_fear] at a1
      have hst : ∀ z, (if jo1 (jfear A s) = -1 then some (.inl (0, m1)) else c_X10_isTree_l2 F f m1 101 (Int32.ofNat s &&& (jshl (1 : Int32) (jo1 (jfear A s)) ^^^ (-1 : Int32)))) = z → c_X10_isTree_l2 F (f + 1) m 101 (Int32.ofNat s) = z := by
        intro z h
        rw [← h]
        show c_X10_isTree_l2_b F _ m _ _ = _
        unfold c_X10_isTree_l2_b
        rw [q_bitsOf hF (by omega), jb_some, if_neg (show ¬ Int32.ofNat (jpop 8 s) ≤ 1 from ji_len (b := 1) (by omega) (by omega) h1), show (3 : Int32) = Int32.ofNat 4 - 1 from rfl, a1, jb_some]
      cases h : jfear A s with
      | none =>
        rw [h] at hst
        exact ⟨_, hst _ (if_pos rfl), m1, rfl, a2, a3⟩
      | some r =>
        obtain ⟨-, g2, g3, g4⟩ := jfef_in h
        obtain ⟨q, hq⟩ := Option.isSome_iff_exists.mp g4
        rw [h] at hst
        have hne : ¬ jo1 (some r) = -1 := ji_m1 (show r < 2147483648 by omega)
        have hpc := jclr_pop hs (by omega) g3
        obtain ⟨z, b1, b2⟩ := ih (jclr s r) f m1 (jclr_lt hs) (by omega) (by omega) (jyA_of a2 hA)
        refine ⟨z, hst _ ?_, ?_⟩
        · rw [if_neg hne]
          show c_X10_isTree_l2 F f m1 101 (Int32.ofNat s &&& (jshl (1 : Int32) (Int32.ofNat r) ^^^ (-1 : Int32))) = _
          rw [jset_clr (by omega) (by omega)]
          exact b1
        · dsimp only
          rw [hq]
          dsimp only
          cases hpl : jplant A t (jclr s r) with
          | none =>
            rw [hpl] at b2
            obtain ⟨m', c1, c2, c3⟩ := b2
            exact ⟨m', c1, a2.trans c2, by rw [c3, a3]⟩
          | some p =>
            rw [hpl] at b2
            obtain ⟨m', c1, c2, c3, c4, c5⟩ := b2
            have hcb : ∀ x, s.testBit x = false ∨ x = r → (jclr s r).testBit x = false := by
              intro x hx
              rcases Nat.lt_or_ge x 4 with h4 | h4
              · rw [jclr_bit hs (by omega) h4]
                rcases hx with hx | hx
                · rw [hx, Bool.false_and]
                · rw [hx]
                  simp
              · exact Nat.testBit_lt_two_pow (Nat.lt_of_lt_of_le (jclr_lt hs) (jp2 h4))
            refine ⟨m', c1, a2.trans c2, by rw [c3, a3], fun x hx => ?_, fun y hy => ?_⟩
            · rw [c4 x (hcb x (Or.inl hx)), a4 x (Or.inr hx)]
            · rcases List.mem_cons.mp hy with rfl | hy
              · rw [c4 r (hcb r (Or.inr rfl))]
                exact a5 r q (by omega) g3 hq
              · exact c5 y hy
end YTREE
