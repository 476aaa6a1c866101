/-! the least position of an answer, as it is thought of (as a Nat; the programs hold it in a long's ring) -/
/-- children's numbers, the first n of them, one into the other -/
def jhn (D : jD) (R : Nat → Nat) (h : Nat → Nat) (r : Nat) : Nat → Nat
  | 0 => 0
  | n + 1 => if jkid D n r = true then jhn D R h r n * jS1 D r (R r) n + h n else jhn D R h r n
/-- whether a row of r matches the parent's row -/
def jMp (D : jD) (R : Nat → Nat) (r k : Nat) : Bool := match jpar D r with
  | none => true
  | some u => jmt D u (R u) r k
def jwa (D : jD) (R : Nat → Nat) (r : Nat) : Nat := jsum (R r) (fun k => if jMp D R r k = true then jW1 D r k else 0)
def jlst (D : jD) (R : Nat → Nat) : Nat → Nat → Nat
  | 0, _ => 0
  | f + 1, r => jwa D R r + jhn D R (jlst D R f) r 4
theorem jlst_s {D : jD} {R : Nat → Nat} (f r : Nat) : jlst D R (f + 1) r = jwa D R r + jhn D R (jlst D R f) r 4 := by
  rw [jlst]
theorem jhn_c {D : jD} {R : Nat → Nat} {h h' : Nat → Nat} {r : Nat} : ∀ (n : Nat), (∀ c, c < n → jkid D c r = true → h c = h' c) → jhn D R h r n = jhn D R h' r n := by
  intro n
  induction n with
  | zero => intro _; rfl
  | succ n ih =>
    intro hh
    unfold jhn
    rw [ih (fun c hc hk => hh c (by omega) hk)]
    by_cases e : jkid D n r = true
    · rw [if_pos e, if_pos e, hh n (by omega) e]
    · rw [if_neg e, if_neg e]
theorem jlst_st {D : jD} {R : Nat → Nat} {root : Nat} (hT : jTre (jDa D) (jdK D) root (jpar D) (jord D)) : ∀ (n : Nat) (pre : List Nat) (r : Nat) (post : List Nat), pre.length ≤ n → jord D = pre ++ r :: post → ∀ (f f' : Nat), n < f → n < f' → jlst D R f r = jlst D R f' r := by
  intro n
  induction n with
  | zero =>
    intro pre r post h1 h2 f f' h3 h4
    obtain ⟨f, rfl⟩ := jsucc h3
    obtain ⟨f', rfl⟩ := jsucc h4
    have hp : pre = [] := List.eq_nil_of_length_eq_zero (by omega)
    subst hp
    rw [jlst_s, jlst_s, jhn_c (h := jlst D R f) (h' := jlst D R f') 4 (fun c hc hk => by
      unfold jkid at hk
      rw [Bool.and_eq_true, beq_iff_eq] at hk
      exact absurd (jTr_kid hT h2 hc hk.1 hk.2) (by simp))]
  | succ n ih =>
    intro pre r post h1 h2 f f' h3 h4
    obtain ⟨f, rfl⟩ := jsucc (show 0 < f by omega)
    obtain ⟨f', rfl⟩ := jsucc (show 0 < f' by omega)
    rw [jlst_s, jlst_s, jhn_c (h := jlst D R f) (h' := jlst D R f') 4 (fun c hc hk => by
      unfold jkid at hk
      rw [Bool.and_eq_true, beq_iff_eq] at hk
      have hc' := jTr_kid hT h2 hc hk.1 hk.2
      obtain ⟨p1, p2, e2⟩ := List.append_of_mem hc'
      subst e2
      exact ih p1 c (p2 ++ r :: post) (by simp at h1; omega) (by rw [h2]; simp) f f' (by omega) (by omega))]
theorem jlst_e {D : jD} {R : Nat → Nat} {root : Nat} (hT : jTre (jDa D) (jdK D) root (jpar D) (jord D)) {r : Nat} (hr : r ∈ jord D) : jlst D R 4 r = jwa D R r + jhn D R (jlst D R 4) r 4 := by
  obtain ⟨pre, post, e⟩ := List.append_of_mem hr
  have hlen := jord_le hT
  rw [e] at hlen
  simp only [List.length_append, List.length_cons] at hlen
  have h3 := jlst_s (D := D) (R := R) 3 r
  rw [h3]
  rw [jhn_c (h := jlst D R 3) (h' := jlst D R 4) 4 (fun c hc hk => ?_)]
  unfold jkid at hk
  rw [Bool.and_eq_true, beq_iff_eq] at hk
  obtain ⟨p1, p2, e3⟩ := List.append_of_mem (jTr_kid hT e hc hk.1 hk.2)
  subst e3
  simp only [List.length_append, List.length_cons] at hlen
  exact jlst_st hT p1.length p1 c (p2 ++ r :: post) (Nat.le_refl _) (by rw [e]; simp) 3 4 (by omega) (by omega)
/-- checks from r on, each with its bound; jMc as in a position's checks -/
def jlck (D : jD) (R : Nat → Nat) : Nat → Nat → Nat → Nat
  | 0, _, p => p
  | t + 1, r, p => if (jdC D).testBit r = true then jlck D R t (r + 1) (p * jbd D r + jsum (R r) (fun k => if jMc D R r k = true then jwth D r k else 0)) else jlck D R t (r + 1) p
/-- the least position that leads to rows R -/
def jplc1 (D : jD) (R : Nat → Nat) : Nat := jlck D R 4 0 (match jrt D with
  | none => 0
  | some root => jlst D R 4 root)
