/-! the tree of a query, as it is thought of and as the class holds it -/
theorem jgrow_ok {A : Nat → Nat} {q : Nat} : ∀ (t a k c : Nat), (jplant A 3 k).isSome = true → (jplant A 3 (jgrow A q t a k c).1).isSome = true := by
  intro t
  induction t with
  | zero => intro a k c h; exact h
  | succ t ih =>
    intro a k c h
    unfold jgrow
    split
    · split
      · exact ih _ _ _ (by assumption)
      · exact ih _ _ _ h
    · exact ih _ _ _ h
theorem jgrow_bits {A : Nat → Nat} {q : Nat} : ∀ (t a k c x : Nat), ((jgrow A q t a k c).1.testBit x = true → k.testBit x = true ∨ (a ≤ x ∧ x < a + t ∧ q.testBit x = true)) ∧ (k.testBit x = true → (jgrow A q t a k c).1.testBit x = true) ∧ ((jgrow A q t a k c).2.testBit x = true → c.testBit x = true ∨ (a ≤ x ∧ x < a + t ∧ q.testBit x = true)) ∧ (c.testBit x = true → (jgrow A q t a k c).2.testBit x = true) ∧ (a ≤ x → x < a + t → q.testBit x = true → (jgrow A q t a k c).1.testBit x = true ∨ (jgrow A q t a k c).2.testBit x = true) ∧ ((k.testBit x = true → x < a) → (c.testBit x = true → x < a) → ¬ (k.testBit x = true ∧ c.testBit x = true) → ¬ ((jgrow A q t a k c).1.testBit x = true ∧ (jgrow A q t a k c).2.testBit x = true)) := by
  intro t
  induction t with
  | zero =>
    intro a k c x
    exact ⟨fun h => Or.inl h, fun h => h, fun h => Or.inl h, fun h => h, fun h1 h2 => by omega, fun _ _ h => h⟩
  | succ t ih =>
    intro a k c x
    unfold jgrow
    by_cases e : q.testBit a = true
    · rw [if_pos e]
      have hb : ∀ y, (y ||| 2 ^ a).testBit x = true ↔ y.testBit x = true ∨ a = x := by
        intro y
        rw [Nat.testBit_or, Nat.testBit_two_pow, Bool.or_eq_true, decide_eq_true_eq]
      by_cases e2 : (jplant A 3 (k ||| 2 ^ a)).isSome = true
      · rw [if_pos e2]
        obtain ⟨i1, i2, i3, i4, i5, i6⟩ := ih (a + 1) (k ||| 2 ^ a) c x
        refine ⟨fun h => ?_, fun h => i2 ((hb k).mpr (Or.inl h)), fun h => ?_, i4, fun h1 h2 h3 => ?_, fun h1 h2 h3 => i6 (fun h => ?_) (fun h => Nat.lt_succ_of_lt (h2 h)) (fun h => ?_)⟩
        · rcases i1 h with h | h
          · rcases (hb k).mp h with h | h
            · exact Or.inl h
            · subst h
              exact Or.inr ⟨Nat.le_refl _, by omega, e⟩
          · exact Or.inr ⟨by omega, by omega, h.2.2⟩
        · rcases i3 h with h | h
          · exact Or.inl h
          · exact Or.inr ⟨by omega, by omega, h.2.2⟩
        · by_cases ex : a = x
          · exact Or.inl (i2 ((hb k).mpr (Or.inr ex)))
          · exact i5 (by omega) (by omega) h3
        · rcases (hb k).mp h with h | h
          · exact Nat.lt_succ_of_lt (h1 h)
          · omega
        · rcases (hb k).mp h.1 with h4 | h4
          · exact h3 ⟨h4, h.2⟩
          · have := h2 h.2
            omega
      · rw [if_neg e2]
        obtain ⟨i1, i2, i3, i4, i5, i6⟩ := ih (a + 1) k (c ||| 2 ^ a) x
        refine ⟨fun h => ?_, i2, fun h => ?_, fun h => i4 ((hb c).mpr (Or.inl h)), fun h1 h2 h3 => ?_, fun h1 h2 h3 => i6 (fun h => Nat.lt_succ_of_lt (h1 h)) (fun h => ?_) (fun h => ?_)⟩
        · rcases i1 h with h | h
          · exact Or.inl h
          · exact Or.inr ⟨by omega, by omega, h.2.2⟩
        · rcases i3 h with h | h
          · rcases (hb c).mp h with h | h
            · exact Or.inl h
            · subst h
              exact Or.inr ⟨Nat.le_refl _, by omega, e⟩
          · exact Or.inr ⟨by omega, by omega, h.2.2⟩
        · by_cases ex : a = x
          · exact Or.inr (i4 ((hb c).mpr (Or.inr ex)))
          · exact i5 (by omega) (by omega) h3
        · rcases (hb c).mp h with h | h
          · exact Nat.lt_succ_of_lt (h2 h)
          · omega
        · rcases (hb c).mp h.2 with h4 | h4
          · exact h3 ⟨h.1, h4⟩
          · have := h1 h.1
            omega
    · rw [if_neg e]
      obtain ⟨i1, i2, i3, i4, i5, i6⟩ := ih (a + 1) k c x
      refine ⟨fun h => ?_, i2, fun h => ?_, i4, fun h1 h2 h3 => ?_, fun h1 h2 h3 => i6 (fun h => Nat.lt_succ_of_lt (h1 h)) (fun h => Nat.lt_succ_of_lt (h2 h)) h3⟩
      · rcases i1 h with h | h
        · exact Or.inl h
        · exact Or.inr ⟨by omega, by omega, h.2.2⟩
      · rcases i3 h with h | h
        · exact Or.inl h
        · exact Or.inr ⟨by omega, by omega, h.2.2⟩
      · by_cases ex : a = x
        · subst ex
          exact absurd h3 e
        · exact i5 (by omega) (by omega) h3
/-- of a query: KEPT, CHECKS, what is taken out, PARENTS, the ROOT, the order -/
def jdK (D : jD) : Nat := jkept (jDa D) (jDq D)
def jdC (D : jD) : Nat := jchk (jDa D) (jDq D)
def jdP (D : jD) : List (Nat × Nat) × Nat := (jplant (jDa D) 3 (jdK D)).getD ([], 0)
def jpar (D : jD) (x : Nat) : Option Nat := jlk (jdP D).1 x
def jrt (D : jD) : Option Nat := jfst (jdP D).2 4 0
def jord (D : jD) : List Nat := (jdP D).1.map Prod.fst ++ (jrt D).toList
def jkid (D : jD) (c r : Nat) : Bool := (jdK D).testBit c && (jpar D c == some r)
theorem jdK_bits {D : jD} (x : Nat) (hx : x < 4) : ((jdK D).testBit x = true → (jDq D).testBit x = true) ∧ ((jdC D).testBit x = true ↔ (jDq D).testBit x = true ∧ ¬ (jdK D).testBit x = true) := by
  obtain ⟨i1, i2, i3, i4, i5, i6⟩ := jgrow_bits (A := jDa D) (q := jDq D) 4 0 0 0 x
  have z : ¬ (0 : Nat).testBit x = true := by simp
  refine ⟨fun h => ?_, fun h => ⟨?_, fun h2 => ?_⟩, fun h => ?_⟩
  · rcases i1 h with h | h
    · exact absurd h z
    · exact h.2.2
  · rcases i3 h with h | h
    · exact absurd h z
    · exact h.2.2
  · exact i6 (fun h => absurd h z) (fun h => absurd h z) (fun h => z h.1) ⟨h2, h⟩
  · rcases i5 (by omega) (by omega) h.1 with h2 | h2
    · exact absurd h2 h.2
    · exact h2
theorem jlk_mem {l : List (Nat × Nat)} {x q : Nat} (h : jlk l x = some q) : (x, q) ∈ l := by
  induction l with
  | nil => cases h
  | cons p l ih =>
    unfold jlk at h
    cases e : jlk l x with
    | some y =>
      rw [e] at h
      cases h
      exact List.mem_cons_of_mem _ (ih e)
    | none =>
      rw [e] at h
      by_cases e2 : p.1 = x
      · rw [if_pos e2] at h
        cases h
        subst e2
        exact List.mem_cons_self ..
      · rw [if_neg e2] at h
        cases h
theorem jlk_none {l : List (Nat × Nat)} {x : Nat} (h : x ∉ l.map Prod.fst) : jlk l x = none := by
  cases e : jlk l x with
  | none => rfl
  | some q => exact absurd (List.mem_map_of_mem (f := Prod.fst) (jlk_mem e)) h
theorem jlk_of {l : List (Nat × Nat)} (hn : (l.map Prod.fst).Nodup) {p : Nat × Nat} (h : p ∈ l) : jlk l p.1 = some p.2 := by
  induction l with
  | nil => cases h
  | cons a l ih =>
    rw [List.map_cons, List.nodup_cons] at hn
    unfold jlk
    rcases List.mem_cons.mp h with rfl | h
    · rw [jlk_none hn.1, if_pos rfl]
    · rw [ih hn.2 h]
theorem jkidw_bit {l : List (Nat × Nat)} {x c : Nat} : (jkidw l x).testBit c = true ↔ (c, x) ∈ l := by
  induction l with
  | nil => simp [jkidw]
  | cons p l ih =>
    unfold jkidw
    rw [Nat.testBit_or, Bool.or_eq_true, ih, List.mem_cons]
    have : (if p.2 = x then 2 ^ p.1 else 0).testBit c = true ↔ (c, x) = p := by
      by_cases e : p.2 = x
      · rw [if_pos e, Nat.testBit_two_pow, decide_eq_true_eq]
        constructor
        · intro h
          rw [← h, ← e]
        · intro h
          rw [← h]
      · rw [if_neg e]
        constructor
        · intro h
          simp at h
        · intro h
          rw [← h] at e
          exact absurd rfl e
    rw [this]
theorem jplc_nodup {A : Nat → Nat} : ∀ {l : List (Nat × Nat)} {s s' : Nat}, s < 16 → jplc A l s s' → (l.map Prod.fst).Nodup ∧ ∀ x, x ∈ l.map Prod.fst → s.testBit x = true ∧ x < 4 := by
  intro l
  induction l with
  | nil => intro s s' _ _; exact ⟨List.nodup_nil, fun x hx => by cases hx⟩
  | cons p l ih =>
    intro s s' hs h
    obtain ⟨h1, h2, h3, h4, h5, h6, h7⟩ := h
    obtain ⟨i1, i2⟩ := ih (jclr_lt hs) h7
    rw [List.map_cons]
    refine ⟨List.nodup_cons.mpr ⟨fun h => ?_, i1⟩, fun x hx => ?_⟩
    · have := (i2 _ h).1
      rw [jclr_bit hs h1 h1] at this
      simp at this
    · rcases List.mem_cons.mp hx with rfl | hx
      · exact ⟨h2, h1⟩
      · obtain ⟨j1, j2⟩ := i2 x hx
        rw [jclr_bit hs h1 j2, Bool.and_eq_true] at j1
        exact ⟨j1.1, j2⟩
theorem jfst_pow {r : Nat} (hr : r < 4) : jfst (2 ^ r) 4 0 = some r := by
  have : ∀ r : Fin 4, jfst (2 ^ r.1) 4 0 = some r.1 := by decide +kernel
  exact this ⟨r, hr⟩
theorem jplant_0 {A : Nat → Nat} : jplant A 3 0 = some ([], 0) := rfl
theorem jdP_some {D : jD} : jplant (jDa D) 3 (jdK D) = some (jdP D) := by
  have h := jgrow_ok (A := jDa D) (q := jDq D) 4 0 0 0 (by rw [jplant_0]; rfl)
  have h : (jplant (jDa D) 3 (jdK D)).isSome = true := h
  unfold jdP
  cases e : jplant (jDa D) 3 (jdK D) with
  | none => rw [e] at h; cases h
  | some p => rfl
theorem jdK_lt {D : jD} (hq : jDq D < 16) : jdK D < 16 := by
  have : ∀ x, ¬ x < 4 → (jdK D).testBit x = false := by
    intro x hx
    cases e : (jdK D).testBit x with
    | false => rfl
    | true =>
      rcases (jgrow_bits (A := jDa D) (q := jDq D) 4 0 0 0 x).1 e with h | h
      · simp at h
      · omega
  exact Nat.lt_pow_two_of_testBit (n := 4) _ (fun i hi => this i (by omega))
/-- what holds of the tree of a query that isn't empty -/
theorem jtree {D : jD} (hA : ∀ q, q < 4 → jDa D q < 64) (hq : jDq D < 16) (hq0 : jDq D ≠ 0) : ∃ root, jrt D = some root ∧ root < 4 ∧ jTre (jDa D) (jdK D) root (jpar D) (jord D) ∧ jord D = (jdP D).1.map Prod.fst ++ [root] := by
  have hK := jdK_lt hq
  have hp := jplant_c hK (jdP_some (D := D))
  obtain ⟨p1, p2, p3, p4, p5, p6⟩ := hp
  have hpop : jpop 8 (jdK D) ≤ 4 := by
    have : ∀ s : Fin 16, jpop 8 s.1 ≤ 4 := by decide +kernel
    exact this ⟨_, hK⟩
  have hne : jdK D ≠ 0 := by
    intro h0
    have hbit : ∃ x, x < 4 ∧ (jDq D).testBit x = true ∧ ∀ y, y < x → (jDq D).testBit y = false := by
      have : ∀ s : Fin 16, s.1 ≠ 0 → ∃ x : Fin 4, s.1.testBit x.1 = true ∧ ∀ y : Fin 4, y.1 < x.1 → s.1.testBit y.1 = false := by decide +kernel
      obtain ⟨x, h1, h2⟩ := this ⟨_, hq⟩ hq0
      exact ⟨x.1, x.2, h1, fun y hy => h2 ⟨y, by omega⟩ hy⟩
    obtain ⟨x, x1, x2, x3⟩ := hbit
    have hc := (jdK_bits (D := D) x x1).2
    have hk0 : ¬ (jdK D).testBit x = true := by rw [h0]; simp
    have hs1 : ∀ (x : Nat), x < 4 → (jplant (jDa D) 3 (2 ^ x)).isSome = true := by
      intro x hx
      have : jpop 8 (2 ^ x) ≤ 1 := by
        have : ∀ x : Fin 4, jpop 8 (2 ^ x.1) ≤ 1 := by decide +kernel
        exact this ⟨x, hx⟩
      unfold jplant
      rw [if_pos this]
      rfl
    have hstep : ∀ (t a : Nat), a + t = 4 → a ≤ x → (jgrow (jDa D) (jDq D) t a 0 0).1.testBit x = true := by
      intro t
      induction t with
      | zero => intro a h1 h2; omega
      | succ t ih =>
        intro a h1 h2
        unfold jgrow
        by_cases e : a = x
        · subst e
          rw [if_pos x2, Nat.zero_or, if_pos (hs1 a x1)]
          exact (jgrow_bits (A := jDa D) (q := jDq D) t (a + 1) (2 ^ a) 0 a).2.1 Nat.testBit_two_pow_self
        · rw [if_neg (by rw [x3 a (by omega)]; simp)]
          exact ih (a + 1) (by omega) (by omega)
    exact hk0 (hstep 4 0 (by omega) (by omega))
  have hpos : 1 ≤ jpop 8 (jdK D) := by
    have : ∀ s : Fin 16, s.1 ≠ 0 → 1 ≤ jpop 8 s.1 := by decide +kernel
    exact this ⟨_, hK⟩ hne
  rcases jpop_one p5 (p4 hpop) with h | ⟨root, h1, h2⟩
  · have := p6 hpos
    rw [h] at this
    exact absurd this (by decide)
  · have hr : jrt D = some root := by
      unfold jrt
      rw [h2]
      exact jfst_pow h1
    have hord : jord D = (jdP D).1.map Prod.fst ++ [root] := by
      unfold jord
      rw [hr]
      rfl
    obtain ⟨n1, n2⟩ := jplc_nodup hK p1
    refine ⟨root, hr, h1, ?_, hord⟩
    rw [hord]
    have hroot : root ∉ (jdP D).1.map Prod.fst := by
      have hx : ∀ {l : List (Nat × Nat)} {s s' : Nat}, s < 16 → jplc (jDa D) l s s' → ∀ x, x ∈ l.map Prod.fst → s'.testBit x = false := by
        intro l
        induction l with
        | nil => intro s s' _ _ x hx; cases hx
        | cons p l ih =>
          intro s s' hs h x hx
          obtain ⟨g1, g2, g3, g4, g5, g6, g7⟩ := h
          rw [List.map_cons] at hx
          rcases List.mem_cons.mp hx with rfl | hx
          · have hsub : ∀ {l : List (Nat × Nat)} {s s' : Nat} {y : Nat}, s < 16 → y < 4 → jplc (jDa D) l s s' → s.testBit y = false → s'.testBit y = false := by
              intro l
              induction l with
              | nil =>
                intro s s' y _ _ h h2
                have h : s' = s := h
                rw [h]
                exact h2
              | cons p l ih2 =>
                intro s s' y hs hy h h2
                refine ih2 (jclr_lt hs) hy h.2.2.2.2.2.2 ?_
                rw [jclr_bit hs h.1 hy, h2]
                rfl
            refine hsub (jclr_lt hs) g1 g7 ?_
            rw [jclr_bit hs g1 g1]
            simp
          · exact ih (jclr_lt hs) g7 x hx
      intro h
      have := hx hK p1 _ h
      rw [h2, Nat.testBit_two_pow_self] at this
      cases this
    have hpr : jpar D root = none := jlk_none hroot
    exact jplc_tr hA (par := jpar D) hK h1 h2 p1 (fun p hp => jlk_of n1 hp) hpr
/-- of the class: a tree at b holds what is told of D's query -/
def jTM (D : jD) (b : Nat) (m : jMe) : Prop := jI m b 6 = Int32.ofNat (jdK D) ∧ jI m b 7 = Int32.ofNat (jdC D) ∧ (∀ x, x < 4 → jI m (b + 1) x = jo1 (jpar D x)) ∧ (∀ x, x < 4 → jI m (b + 2) x = Int32.ofNat (jkidw (jdP D).1 x)) ∧ (∀ i, i < (jord D).length → jI m (b + 3) i = Int32.ofNat ((jord D).getD i 0)) ∧ jI m b 4 = Int32.ofNat (jord D).length ∧ jI m b 5 = jo1 (jrt D)
theorem jTM_of {D : jD} {b : Nat} {m m' : jMe} (h : ∀ a, b ≤ a → a ≤ b + 4 → jI m' a = jI m a) (k : jTM D b m) : jTM D b m' := by
  unfold jTM at k ⊢
  rw [h b (by omega) (by omega), h (b + 1) (by omega) (by omega), h (b + 2) (by omega) (by omega), h (b + 3) (by omega) (by omega)]
  exact k
theorem jkid_w {D : jD} (hq : jDq D < 16) {r c : Nat} (hc : c < 4) : (jkidw (jdP D).1 r).testBit c = jkid D c r := by
  have hK := jdK_lt hq
  obtain ⟨n1, n2⟩ := jplc_nodup hK (jplant_c hK (jdP_some (D := D))).1
  rw [Bool.eq_iff_iff, jkidw_bit]
  unfold jkid
  rw [Bool.and_eq_true, beq_iff_eq]
  constructor
  · intro h
    exact ⟨(n2 c (List.mem_map_of_mem (f := Prod.fst) h)).1, jlk_of n1 h⟩
  · intro h
    exact jlk_mem h.2
theorem jkidw_16 {D : jD} (hq : jDq D < 16) {r : Nat} : jkidw (jdP D).1 r < 16 := by
  have hK := jdK_lt hq
  exact jkidw_lt (jplc_lt (jplant_c hK (jdP_some (D := D))).1)
theorem q_grow {F b : Nat} (hF : 2000 < F) (hb : b + 4 < 77 ∧ 33 < b) {D : jD} {m : jMe} (hA : ∀ q, q < 4 → jDa D q < 64) (hq : jDq D < 16) (hL : jLT m b) (hR : jRA m (jDa D)) : ∃ m', c_X8_grow F m b 33 (Int32.ofNat (jDq D)) = some m' ∧ jfr (jSg b) m m' ∧ jTM D b m' := by
  generalize hm0 : jsI (jsI m b 6 (0 : Int32)) b 7 (0 : Int32) = m0
  have hf0 : jfr (jSg b) m m0 := by
    rw [← hm0]
    exact (jsI_f (S := jSg b) ⟨by omega, by omega⟩).trans (jsI_f ⟨by omega, by omega⟩)
  have hL0 : jLT m0 b := jLT_of hf0.2.2.1 hf0.2.2.2.1 hf0.2.2.2.2.1 hL
  have hrc : ∀ r, r < 4 → ¬ jSg b (jrc r) := fun r hr => by unfold jSg jrc; omega
  have hR0 : jRA m0 (jDa D) := jRA_of hf0.2.2.1 hf0.2.2.2.1 hf0.2.2.2.2.1 (fun r hr => hf0.2.2.2.2.2.1 _ (hrc r hr)) hR
  obtain ⟨m1, a1, a2, a3, a4, a5, a6, a7⟩ := q_grow_l12 hF hb hA hq 4 0 0 0 F m0 hL0 hR0 (by omega) (by omega) (by omega) (by omega) (by rw [← hm0, jsI_e, jupd_n (by omega), jsI_e, jupd_e]; rfl) (by rw [← hm0, jsI_e, jupd_e]; rfl) (fun x hx => by omega)
  have hL1 : jLT m1 b := jLT_of a2.2.2.1 a2.2.2.2.1 a2.2.2.2.2.1 hL0
  obtain ⟨m2, b1, b2, b3, b4⟩ := q_plant hF hA (s := jdK D) hL1 (fun q hq _ => a7 q hq) (jdK_lt hq)
  have hK := jdK_lt hq
  have hpc := jplant_c hK (jdP_some (D := D))
  rw [jdP_some] at b4
  obtain ⟨c1, c2, c3, c4, c5, c6⟩ := b4
  have hlen : (jord D).length = (jdP D).1.length + (if (jfst (jdP D).2 4 0).isSome = true then 1 else 0) := by
    unfold jord jrt
    rw [List.length_append, List.length_map]
    cases jfst (jdP D).2 4 0 <;> rfl
  refine ⟨m2, ?_, (hf0.trans a2).trans (b2.weak jSp_g), ?_, ?_, c1, c2, fun i hi => ?_, ?_, c4⟩
  · unfold c_X8_grow
    rw [jgd_t hL.1, hm0, show (0 : Int32) = Int32.ofNat 0 from rfl, a1, jb_some]
    dsimp only
    rw [jgd_t hL1.1, a3, show Int32.ofNat (jgrow (jDa D) (jDq D) 4 0 0 0).1 = Int32.ofNat (jdK D) from rfl, b1, jb_some]
  · rw [b3 6 (by omega) (by omega), a3]
    rfl
  · rw [b3 7 (by omega) (by omega), a4]
    rfl
  · by_cases e : i < (jdP D).1.length
    · rw [c3 i e]
      unfold jord
      simp only [List.getD_eq_getElem?_getD]
      rw [List.getElem?_append_left (by rw [List.length_map]; exact e)]
    · rw [hlen] at hi
      cases er : jfst (jdP D).2 4 0 with
      | none =>
        rw [er] at hi
        exact absurd hi (by simp; omega)
      | some x =>
        rw [er] at hi
        have hi2 : i = (jdP D).1.length := by
          have : i < (jdP D).1.length + 1 := hi
          omega
        rw [hi2, c5 x er]
        unfold jord jrt
        rw [er]
        simp [List.getD]
  · rw [c6, hlen]
