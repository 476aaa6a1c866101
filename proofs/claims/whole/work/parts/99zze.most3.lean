/-! answers are no more than the space; a row less; what a row is used for -/
section MOST3
variable {D : jD}
def jol (D : jD) : Nat → List Nat
  | 0 => []
  | t + 1 => if (jDq D).testBit t = true then jol D t else t :: jol D t
def jclx (D : jD) : Nat → List Nat
  | 0 => []
  | t + 1 => if (jdC D).testBit t = true then t :: jclx D t else jclx D t
theorem jol_m : ∀ t, (jol D t).Nodup ∧ ∀ x, x ∈ jol D t ↔ x < t ∧ ¬ (jDq D).testBit x = true := by
  intro t
  induction t with
  | zero => exact ⟨List.nodup_nil, fun x => ⟨fun h => absurd h (List.not_mem_nil), fun h => absurd h.1 (Nat.not_lt_zero x)⟩⟩
  | succ t ih =>
    rw [jol]
    by_cases e : (jDq D).testBit t = true
    · rw [if_pos e]
      refine ⟨ih.1, fun x => (ih.2 x).trans ⟨fun h => ⟨by omega, h.2⟩, fun h => ⟨?_, h.2⟩⟩⟩
      have : x ≠ t := fun q => h.2 (by rw [q]; exact e)
      omega
    · rw [if_neg e]
      refine ⟨List.nodup_cons.mpr ⟨fun h => absurd ((ih.2 t).mp h).1 (Nat.lt_irrefl t), ih.1⟩, fun x => ?_⟩
      rw [List.mem_cons, ih.2]
      constructor
      · rintro (h | h)
        · rw [h]; exact ⟨Nat.lt_succ_self t, e⟩
        · exact ⟨by omega, h.2⟩
      · intro h
        by_cases q : x = t
        · exact Or.inl q
        · exact Or.inr ⟨by omega, h.2⟩
theorem jclx_m : ∀ t, (jclx D t).Nodup ∧ ∀ x, x ∈ jclx D t ↔ x < t ∧ (jdC D).testBit x = true := by
  intro t
  induction t with
  | zero => exact ⟨List.nodup_nil, fun x => ⟨fun h => absurd h (List.not_mem_nil), fun h => absurd h.1 (Nat.not_lt_zero x)⟩⟩
  | succ t ih =>
    rw [jclx]
    by_cases e : (jdC D).testBit t = true
    · rw [if_pos e]
      refine ⟨List.nodup_cons.mpr ⟨fun h => absurd ((ih.2 t).mp h).1 (Nat.lt_irrefl t), ih.1⟩, fun x => ?_⟩
      rw [List.mem_cons, ih.2]
      constructor
      · rintro (h | h)
        · rw [h]; exact ⟨Nat.lt_succ_self t, e⟩
        · exact ⟨by omega, h.2⟩
      · intro h
        by_cases q : x = t
        · exact Or.inl q
        · exact Or.inr ⟨by omega, h.2⟩
    · rw [if_neg e]
      refine ⟨ih.1, fun x => (ih.2 x).trans ⟨fun h => ⟨by omega, h.2⟩, fun h => ⟨?_, h.2⟩⟩⟩
      have : x ≠ t := fun q => e (by rw [← q]; exact h.2)
      omega
theorem jSumL_step {E : List Nat} {r : Nat} {l l' : List Nat} (h1 : ∀ R, jSum1 r (jxX D l) R ≤ jxX D (r :: l) R) (h2 : ∀ R, jSumL E (jxX D (r :: l)) R ≤ jxX D l' R) (R : Nat → Nat) : jSumL (r :: E) (jxX D l) R ≤ jxX D l' R :=
  Nat.le_trans (jSumL_le E h1 R) (h2 R)
theorem jSumL_O (hD : jDok D) : ∀ (t : Nat) (l : List Nat), t ≤ 4 → (∀ x, x ∈ l → ¬ x < t) → ∃ l', (∀ x, x ∈ l' ↔ x ∈ l ∨ x ∈ jol D t) ∧ ∀ R, jSumL (jol D t) (jxX D l) R ≤ jxX D l' R := by
  intro t
  induction t with
  | zero =>
    intro l _ _
    exact ⟨l, fun x => ⟨Or.inl, fun h => h.elim id (fun q => absurd q (List.not_mem_nil))⟩, fun R => Nat.le_refl _⟩
  | succ t ih =>
    intro l h4 hl
    by_cases e : (jDq D).testBit t = true
    · rw [jol, if_pos e]
      exact ih l (by omega) (fun x hx q => hl x hx (by omega))
    · rw [jol, if_neg e]
      obtain ⟨l', h1, h2⟩ := ih (t :: l) (by omega) (fun x hx q => by
        rw [List.mem_cons] at hx
        rcases hx with hx | hx
        · omega
        · exact hl x hx (by omega))
      refine ⟨l', fun x => (h1 x).trans ?_, jSumL_step (jxX_O hD (by omega) (fun q => hl t q (by omega)) e) h2⟩
      rw [List.mem_cons, List.mem_cons]
      constructor
      · rintro ((h | h) | h)
        · exact Or.inr (Or.inl h)
        · exact Or.inl h
        · exact Or.inr (Or.inr h)
      · rintro (h | (h | h))
        · exact Or.inl (Or.inr h)
        · exact Or.inl (Or.inl h)
        · exact Or.inr h
theorem jSumL_C (hD : jDok D) : ∀ (t : Nat) (l : List Nat), t ≤ 4 → (∀ x, x < 4 → x ∈ l → ¬ (jdK D).testBit x = true ∧ ¬ ((jdC D).testBit x = true ∧ x < t)) → ∃ l', (∀ x, x ∈ l' ↔ x ∈ l ∨ x ∈ jclx D t) ∧ ∀ R, jSumL (jclx D t) (jxX D l) R ≤ jxX D l' R := by
  intro t
  induction t with
  | zero =>
    intro l _ _
    exact ⟨l, fun x => ⟨Or.inl, fun h => h.elim id (fun q => absurd q (List.not_mem_nil))⟩, fun R => Nat.le_refl _⟩
  | succ t ih =>
    intro l h4 hl
    by_cases e : (jdC D).testBit t = true
    · rw [jclx, if_pos e]
      obtain ⟨l', h1, h2⟩ := ih (t :: l) (by omega) (fun x hx4 hx => by
        rw [List.mem_cons] at hx
        rcases hx with hx | hx
        · rw [hx]
          exact ⟨((jdK_bits t (by omega)).2.mp e).2, fun q => absurd q.2 (Nat.lt_irrefl t)⟩
        · exact ⟨(hl x hx4 hx).1, fun q => (hl x hx4 hx).2 ⟨q.1, by omega⟩⟩)
      refine ⟨l', fun x => (h1 x).trans ?_, jSumL_step (jxX_C hD (by omega) (fun q => (hl t (by omega) q).2 ⟨e, Nat.lt_succ_self t⟩) e (fun q hq4 hp z => ?_)) h2⟩
      · rw [List.mem_cons, List.mem_cons]
        constructor
        · rintro ((h | h) | h)
          · exact Or.inr (Or.inl h)
          · exact Or.inl h
          · exact Or.inr (Or.inr h)
        · rintro (h | (h | h))
          · exact Or.inl (Or.inr h)
          · exact Or.inl (Or.inl h)
          · exact Or.inr h
      · unfold jPc at hp
        rw [Bool.or_eq_true, Bool.and_eq_true, decide_eq_true_eq] at hp
        rcases hp with hp | hp
        · exact (hl q hq4 z).1 hp
        · exact (hl q hq4 z).2 ⟨hp.1, by omega⟩
    · rw [jclx, if_neg e]
      exact ih l (by omega) (fun x hx4 hx => ⟨(hl x hx4 hx).1, fun q => (hl x hx4 hx).2 ⟨q.1, by omega⟩⟩)
theorem jSumL_K (hD : jDok D) (hq0 : jDq D ≠ 0) : ∀ (post pre l : List Nat), jord D = pre ++ post → (∀ x, x ∈ jord D → (x ∈ l ↔ x ∈ pre)) → ∃ l', (∀ x, x ∈ l' ↔ x ∈ l ∨ x ∈ post) ∧ ∀ R, jSumL post (jxX D l) R ≤ jxX D l' R := by
  intro post
  induction post with
  | nil =>
    intro pre l _ _
    exact ⟨l, fun x => ⟨Or.inl, fun h => h.elim id (fun q => absurd q (List.not_mem_nil))⟩, fun R => Nat.le_refl _⟩
  | cons r post ih =>
    intro pre l e hl
    obtain ⟨l', h1, h2⟩ := ih (pre ++ [r]) (r :: l) (by rw [e]; simp) (fun x hx => by
      rw [List.mem_cons, List.mem_append, List.mem_singleton, hl x hx]
      exact ⟨fun h => h.elim Or.inr Or.inl, fun h => h.elim Or.inr Or.inl⟩)
    refine ⟨l', fun x => (h1 x).trans ?_, jSumL_step (jxX_K hD hq0 e hl) h2⟩
    rw [List.mem_cons, List.mem_cons]
    constructor
    · rintro ((h | h) | h)
      · exact Or.inr (Or.inl h)
      · exact Or.inl h
      · exact Or.inr (Or.inr h)
    · rintro (h | (h | h))
      · exact Or.inl (Or.inr h)
      · exact Or.inl (Or.inl h)
      · exact Or.inr h
theorem jct_le (hD : jDok D) : jct D jf1 ≤ jsp D 4 := by
  by_cases hq0 : jDq D = 0
  · unfold jct
    rw [if_pos hq0]
    exact Nat.zero_le _
  obtain ⟨root, hT, hrt, hro4, hro⟩ := jtree0 hD
  rw [if_neg hq0] at hrt
  have hro := hro hq0
  have hrK := ((hT.2.1 root).mp hro).2
  have hrC : ¬ (jdC D).testBit root = true := fun q => ((jdK_bits root hro4).2.mp q).2 hrK
  have hperm : List.Perm [3, 2, 1, 0] (jol D 4 ++ (jclx D 4 ++ jord D)) := by
    rw [List.perm_ext_iff_of_nodup (by decide)]
    · intro x
      rw [List.mem_append, List.mem_append, (jol_m 4).2, (jclx_m 4).2, hT.2.1]
      have h4 : x ∈ [3, 2, 1, 0] ↔ x < 4 := by
        simp only [List.mem_cons, List.not_mem_nil, or_false]
        omega
      rw [h4]
      constructor
      · intro hx
        by_cases a : (jDq D).testBit x = true
        · by_cases b : (jdK D).testBit x = true
          · exact Or.inr (Or.inr ⟨hx, b⟩)
          · exact Or.inr (Or.inl ⟨hx, (jdK_bits x hx).2.mpr ⟨a, b⟩⟩)
        · exact Or.inl ⟨hx, a⟩
      · rintro (h | (h | h)) <;> exact h.1
    · rw [List.nodup_append]
      refine ⟨(jol_m 4).1, ?_, fun a ha b hb e => ?_⟩
      · rw [List.nodup_append]
        refine ⟨(jclx_m 4).1, hT.1, fun a ha b hb e => ?_⟩
        have h1 := ((jclx_m 4).2 a).mp ha
        have h2 := (hT.2.1 b).mp hb
        rw [← e] at h2
        exact ((jdK_bits a h1.1).2.mp h1.2).2 h2.2
      · have h1 := ((jol_m 4).2 a).mp ha
        rw [List.mem_append] at hb
        rcases hb with hb | hb
        · have h2 := ((jclx_m 4).2 b).mp hb
          rw [← e] at h2
          exact h1.2 ((jdK_bits a h1.1).2.mp h2.2).1
        · have h2 := (hT.2.1 b).mp hb
          rw [← e] at h2
          exact h1.2 ((jdK_bits a h1.1).1 h2.2)
  obtain ⟨l1, m1, b1⟩ := jSumL_O hD 4 [] (Nat.le_refl _) (fun x hx => absurd hx (List.not_mem_nil))
  obtain ⟨l2, m2, b2⟩ := jSumL_C hD 4 l1 (Nat.le_refl _) (fun x hx hl => by
    have := ((m1 x).mp hl).elim (fun q => absurd q (List.not_mem_nil)) (fun q => ((jol_m 4).2 x).mp q)
    exact ⟨fun q => this.2 ((jdK_bits x hx).1 q), fun q => this.2 ((jdK_bits x hx).2.mp q.1).1⟩)
  obtain ⟨l3, m3, b3⟩ := jSumL_K hD hq0 (jord D) [] l2 rfl (fun x hx => by
    refine ⟨fun h => ?_, fun h => absurd h (List.not_mem_nil)⟩
    have hx2 := (hT.2.1 x).mp hx
    rcases (m2 x).mp h with h | h
    · rcases (m1 x).mp h with h | h
      · exact absurd h (List.not_mem_nil)
      · exact absurd ((jdK_bits x hx2.1).1 hx2.2) (((jol_m 4).2 x).mp h).2
    · exact absurd hx2.2 ((jdK_bits x hx2.1).2.mp (((jclx_m 4).2 x).mp h).2).2)
  have hz : ∀ r, r < 4 → jDz D r ≤ 8 := fun r hr => (hD.2.2.1 r hr).2.2.1
  rw [jct_sumL hz hq0, jSumL_perm hperm]
  have happ : ∀ G, jSumL (jol D 4 ++ (jclx D 4 ++ jord D)) G = jSumL (jord D) (jSumL (jclx D 4) (jSumL (jol D 4) G)) := fun G => by
    unfold jSumL
    rw [List.foldl_append, List.foldl_append]
  rw [happ]
  refine Nat.le_trans (jSumL_le (jord D) (jSumL_le (jclx D 4) (jSumL_le (jol D 4) jxX_0)) _) ?_
  refine Nat.le_trans (jSumL_le (jord D) (jSumL_le (jclx D 4) b1) _) ?_
  refine Nat.le_trans (jSumL_le (jord D) b2 _) ?_
  refine Nat.le_trans (b3 _) ?_
  have hall : ∀ x, x < 4 → x ∈ l3 := by
    intro x hx
    rw [m3, m2, m1]
    have := (hperm.mem_iff (a := x)).mp (by simp only [List.mem_cons, List.not_mem_nil, or_false]; omega)
    rw [List.mem_append, List.mem_append] at this
    rcases this with h | (h | h)
    · exact Or.inl (Or.inl (Or.inr h))
    · exact Or.inl (Or.inr h)
    · exact Or.inr h
  have hle : jxX D l3 (fun _ => 0) ≤ jprd 4 (jxa D l3 (fun _ => 0)) := by
    unfold jxX
    by_cases q : jxJ D l3 (fun _ => 0)
    · rw [if_pos q]
      exact Nat.le_refl _
    · rw [if_neg q]
      exact Nat.zero_le _
  refine Nat.le_trans hle (Nat.le_of_eq ?_)
  rw [jprd_pull hro4]
  have e1 : jxa D l3 (fun _ => 0) root = jAll D := by
    unfold jxa
    rw [if_pos (hall root hro4), if_neg hrC, if_pos hrt]
  unfold jsp
  rw [e1, jprd_c (fun x hx => ?_)]
  by_cases e : x = root
  · rw [if_pos e, e, if_neg hrC]
  · rw [if_neg e]
    unfold jxa
    rw [if_pos (hall x hx)]
    by_cases q : (jdC D).testBit x = true
    · rw [if_pos q, if_pos q]
    · rw [if_neg q, if_neg q, if_neg (fun z => by rw [hrt] at z; exact e (Option.some.inj z).symm)]
end MOST3
