/-! what holds of a tree that was grown -/
def jlk (l : List (Nat × Nat)) (x : Nat) : Option Nat := match l with
  | [] => none
  | p :: l => match jlk l x with | some q => some q | none => if p.1 = x then some p.2 else none
/-- K: a tree's members, root its root, par: parents, o: the members in an order in which children stand ahead of their parents -/
def jTre (A : Nat → Nat) (K root : Nat) (par : Nat → Option Nat) (o : List Nat) : Prop := o.Nodup ∧ (∀ r, r ∈ o ↔ r < 4 ∧ K.testBit r = true) ∧ (∀ pre r post, o = pre ++ r :: post → (post = [] → r = root ∧ par r = none) ∧ (post ≠ [] → ∃ q, par r = some q ∧ q ∈ post ∧ ∀ x, x ∈ post → ∀ a, (A r).testBit a = true → (A x).testBit a = true → (A q).testBit a = true))
theorem joth_bit {A : Nat → Nat} {s r a : Nat} : ∀ (t b x : Nat), (joth A s r t b x).testBit a = true ↔ x.testBit a = true ∨ ∃ y, b ≤ y ∧ y < b + t ∧ y ≠ r ∧ s.testBit y = true ∧ (A y).testBit a = true := by
  intro t
  induction t with
  | zero =>
    intro b x
    refine ⟨fun h => Or.inl h, fun h => h.elim (fun h => h) (fun ⟨y, h1, h2, _⟩ => by omega)⟩
  | succ t ih =>
    intro b x
    unfold joth
    rw [ih, Nat.testBit_or, Bool.or_eq_true]
    constructor
    · rintro ((h | h) | ⟨y, h1, h2, h3⟩)
      · exact Or.inl h
      · by_cases q : b ≠ r ∧ s.testBit b = true
        · rw [if_pos q] at h
          exact Or.inr ⟨b, Nat.le_refl _, by omega, q.1, q.2, h⟩
        · rw [if_neg q] at h
          simp at h
      · exact Or.inr ⟨y, by omega, by omega, h3⟩
    · rintro (h | ⟨y, h1, h2, h3, h4, h5⟩)
      · exact Or.inl (Or.inl h)
      · by_cases e : y = b
        · subst e
          refine Or.inl (Or.inr ?_)
          rw [if_pos ⟨h3, h4⟩]
          exact h5
        · exact Or.inr ⟨y, by omega, by omega, h3, h4, h5⟩
theorem jand_0 {x y : Nat} (hx : x < 64) (h : x &&& (63 ^^^ y) = 0) {a : Nat} (ha : x.testBit a = true) : y.testBit a = true := by
  have h6 : a < 6 := by
    rcases Nat.lt_or_ge a 6 with q | q
    · exact q
    · rw [Nat.testBit_lt_two_pow (Nat.lt_of_lt_of_le hx (jp2 q))] at ha
      cases ha
  have e := congrArg (fun n => n.testBit a) h
  simp only [Nat.testBit_and, Nat.testBit_xor, Nat.zero_testBit, ha, Bool.true_and] at e
  have e63 : (63 : Nat).testBit a = true := by
    have : ∀ a : Fin 6, (63 : Nat).testBit a.1 = true := by decide
    exact this ⟨a, h6⟩
  rw [e63] at e
  simpa using e
theorem jplc_tr {A : Nat → Nat} (hA : ∀ q, q < 4 → A q < 64) {root : Nat} {par : Nat → Option Nat} : ∀ {l : List (Nat × Nat)} {s s' : Nat}, s < 16 → root < 4 → s' = 2 ^ root → jplc A l s s' → (∀ p, p ∈ l → par p.1 = some p.2) → par root = none → jTre A s root par (l.map Prod.fst ++ [root]) := by
  intro l
  induction l with
  | nil =>
    intro s s' hs hr e h hp h0
    have h : s' = s := h
    subst h
    subst e
    refine ⟨by simp, fun r => ?_, fun pre r post e => ?_⟩
    · simp only [List.map_nil, List.nil_append, List.mem_singleton]
      constructor
      · rintro rfl
        exact ⟨hr, Nat.testBit_two_pow_self⟩
      · rintro ⟨h1, h2⟩
        rw [Nat.testBit_two_pow] at h2
        exact (of_decide_eq_true h2).symm
    · cases pre with
      | nil =>
        simp only [List.map_nil, List.nil_append, List.cons.injEq] at e
        obtain ⟨rfl, rfl⟩ := e
        exact ⟨fun _ => ⟨Eq.refl _, h0⟩, fun h => absurd (Eq.refl _) h⟩
      | cons a pre => simp at e
  | cons p l ih =>
    intro s s' hs hr e h hp h0
    obtain ⟨h1, h2, h3, h4, h5, h6, h7⟩ := h
    obtain ⟨i1, i2, i3⟩ := ih (jclr_lt hs) hr e h7 (fun p hp' => hp p (List.mem_cons_of_mem _ hp')) h0
    have hm : ∀ x, x ∈ l.map Prod.fst ++ [root] ↔ x < 4 ∧ s.testBit x = true ∧ x ≠ p.1 := by
      intro x
      rw [i2]
      constructor
      · rintro ⟨a1, a2⟩
        rw [jclr_bit hs h1 a1] at a2
        simp at a2
        exact ⟨a1, a2⟩
      · rintro ⟨a1, a2, a3⟩
        refine ⟨a1, ?_⟩
        rw [jclr_bit hs h1 a1, a2]
        simp [a3]
    refine ⟨?_, fun r => ?_, fun pre r post e => ?_⟩
    · rw [List.map_cons, List.cons_append, List.nodup_cons]
      exact ⟨fun q => ((hm _).mp q).2.2 (Eq.refl _), i1⟩
    · rw [List.map_cons, List.cons_append, List.mem_cons, hm]
      constructor
      · rintro (rfl | ⟨a1, a2, a3⟩)
        · exact ⟨h1, h2⟩
        · exact ⟨a1, a2⟩
      · rintro ⟨a1, a2⟩
        by_cases q : r = p.1
        · exact Or.inl q
        · exact Or.inr ⟨a1, a2, q⟩
    · rw [List.map_cons, List.cons_append] at e
      cases pre with
      | nil =>
        rw [List.nil_append, List.cons.injEq] at e
        obtain ⟨rfl, rfl⟩ := e
        refine ⟨fun q => by simp at q, fun _ => ⟨p.2, hp p (List.mem_cons_self ..), (hm _).mpr ⟨h3, h5, h4⟩, fun x hx a ha hxa => ?_⟩⟩
        have hx := (hm x).mp hx
        have hb : (A p.1 &&& joth A s p.1 4 0 0).testBit a = true := by
          rw [Nat.testBit_and, ha, Bool.true_and, joth_bit]
          exact Or.inr ⟨x, by omega, by omega, hx.2.2, hx.2.1, hxa⟩
        exact jand_0 (Nat.lt_of_le_of_lt Nat.and_le_left (hA _ h1)) h6 hb
      | cons a pre =>
        rw [List.cons_append, List.cons.injEq] at e
        exact i3 pre r post e.2
theorem jsplit {r : Nat} : ∀ {a c b d : List Nat}, r ∉ a → r ∉ c → a ++ r :: b = c ++ r :: d → a = c := by
  intro a
  induction a with
  | nil =>
    intro c b d h1 h2 e
    cases c with
    | nil => rfl
    | cons x c =>
      rw [List.nil_append, List.cons_append, List.cons.injEq] at e
      exact absurd (e.1 ▸ List.mem_cons_self ..) h2
  | cons x a ih =>
    intro c b d h1 h2 e
    cases c with
    | nil =>
      rw [List.nil_append, List.cons_append, List.cons.injEq] at e
      exact absurd (e.1 ▸ List.mem_cons_self ..) h1
    | cons y c =>
      rw [List.cons_append, List.cons_append, List.cons.injEq] at e
      rw [e.1, ih (fun q => h1 (List.mem_cons_of_mem _ q)) (fun q => h2 (List.mem_cons_of_mem _ q)) e.2]
/-- children stand ahead -/
theorem jTr_kid {A : Nat → Nat} {K root : Nat} {par : Nat → Option Nat} {o : List Nat} (h : jTre A K root par o) {pre post : List Nat} {r c : Nat} (e : o = pre ++ r :: post) (hc : c < 4) (hk : K.testBit c = true) (hp : par c = some r) : c ∈ pre := by
  obtain ⟨h1, h2, h3⟩ := h
  have hm := (h2 c).mpr ⟨hc, hk⟩
  obtain ⟨p1, p2, e2⟩ := List.append_of_mem hm
  have h4 := h3 p1 c p2 e2
  have hn : p2 ≠ [] := by
    intro q
    rw [(h4.1 q).2] at hp
    cases hp
  obtain ⟨q, g1, g2, -⟩ := h4.2 hn
  rw [hp] at g1
  cases g1
  obtain ⟨p3, p4, e3⟩ := List.append_of_mem g2
  subst e3
  rw [e2] at e h1
  have e5 : p1 ++ c :: (p3 ++ r :: p4) = (p1 ++ c :: p3) ++ r :: p4 := by simp
  rw [e5] at e h1
  have : p1 ++ c :: p3 = pre := by
    have hx := List.nodup_append.mp h1
    have hr1 : r ∉ p1 ++ c :: p3 := fun q => hx.2.2 r q r (List.mem_cons_self ..) (Eq.refl _)
    have hy := h1
    rw [e] at hy
    have hx2 := List.nodup_append.mp hy
    have hr2 : r ∉ pre := fun q => hx2.2.2 r q r (List.mem_cons_self ..) (Eq.refl _)
    exact jsplit hr1 hr2 e
  rw [← this]
  simp
