/-! answers are no more than the space -/
def jSum1 (r : Nat) (G : (Nat → Nat) → Nat) : (Nat → Nat) → Nat := fun R => jsum 8 (fun m => G (jRr R r m))
theorem jSum1_comm (r s : Nat) (G : (Nat → Nat) → Nat) : jSum1 r (jSum1 s G) = jSum1 s (jSum1 r G) := by
  by_cases e : r = s
  · rw [e]
  · funext R
    show jsum 8 (fun m => jsum 8 (fun n => G (jRr (jRr R r m) s n))) = jsum 8 (fun n => jsum 8 (fun m => G (jRr (jRr R s n) r m)))
    rw [jsum_swap]
    refine jsum_c (fun n _ => jsum_c (fun m _ => ?_))
    have : jRr (jRr R r m) s n = jRr (jRr R s n) r m := by
      funext y
      unfold jRr
      by_cases e1 : y = s
      · rw [if_pos e1, if_neg (fun q => e (q.symm.trans e1)), if_pos e1]
      · rw [if_neg e1]
        by_cases e2 : y = r
        · rw [if_pos e2, if_pos e2]
        · rw [if_neg e2, if_neg e2, if_neg e1]
    rw [this]
def jSumL (E : List Nat) (G : (Nat → Nat) → Nat) : (Nat → Nat) → Nat := E.foldl (fun G r => jSum1 r G) G
theorem jSumL_perm {E E' : List Nat} (h : E.Perm E') : ∀ G, jSumL E G = jSumL E' G := by
  induction h with
  | nil => intro G; rfl
  | cons x _ ih => intro G; exact ih (jSum1 x G)
  | swap x y l =>
    intro G
    show jSumL l (jSum1 x (jSum1 y G)) = jSumL l (jSum1 y (jSum1 x G))
    rw [jSum1_comm]
  | trans _ _ ih1 ih2 => intro G; rw [ih1, ih2]
theorem jSumL_le (E : List Nat) : ∀ {G G' : (Nat → Nat) → Nat}, (∀ R, G R ≤ G' R) → ∀ R, jSumL E G R ≤ jSumL E G' R := by
  induction E with
  | nil => intro G G' h R; exact h R
  | cons x l ih => intro G G' h R; exact ih (fun R => jsum_le (fun m _ => h _)) R
theorem jct_sumL {D : jD} (hz : ∀ r, r < 4 → jDz D r ≤ 8) (hq0 : jDq D ≠ 0) (f : (Nat → Nat) → Nat) : jct D f = jSumL [3, 2, 1, 0] (jcd D f) (fun _ => 0) := by
  unfold jct
  rw [if_neg hq0, jwk_codes hz]
  show _ = jsum 8 (fun a => jsum 8 (fun b => jsum 8 (fun c => jsum 8 (fun d => jcd D f (jRr (jRr (jRr (jRr (fun _ => 0) 0 a) 1 b) 2 c) 3 d)))))
  refine jsum_c (fun a _ => jsum_c (fun b _ => jsum_c (fun c _ => jsum_c (fun d _ => ?_))))
  have : jRr (jRr (jRr (jRr (fun _ => 0) 0 a) 1 b) 2 c) 3 d = jR4 a b c d := rfl
  rw [this]
theorem jprd_pull {f : Nat → Nat} {n r : Nat} (hr : r < n) : jprd n f = f r * jprd n (fun x => if x = r then 1 else f x) := by
  induction n with
  | zero => omega
  | succ n ih =>
    rw [jprd_s, jprd_s]
    by_cases e : n = r
    · subst e
      rw [if_pos rfl, Nat.mul_one, jprd_c (f := fun x => if x = n then 1 else f x) (g := f) (fun i hi => if_neg (by omega)), Nat.mul_comm]
    · rw [ih (by omega), if_neg e, Nat.mul_assoc]
theorem jprd_1 : ∀ (n : Nat), jprd n (fun _ => 1) = 1 := by
  intro n
  induction n with
  | zero => rfl
  | succ n ih => rw [jprd_s, ih]
section MOST
variable {D : jD}
/-- what is reckoned so far: l are summed up already -/
def jxa (D : jD) (l : List Nat) (R : Nat → Nat) (x : Nat) : Nat := if x ∈ l then (if (jdC D).testBit x = true then jbd D x else if jrt D = some x then jAll D else 1) else (if (jDq D).testBit x = true then jwth D x (R x) * jprd 4 (fun c => if jkid D c x = true ∧ c ∈ l then jS1 D x (R x) c else 1) else 1)
def jxJ (D : jD) (l : List Nat) (R : Nat → Nat) : Prop := ∀ x, x < 4 → x ∉ l → ((jDq D).testBit x = true → R x < jDz D x ∧ jpb D x (R x) = true ∧ ∀ q, q < 4 → q ∉ l → (jDq D).testBit q = true → q ≠ x → jmt D q (R q) x (R x) = true) ∧ (¬ (jDq D).testBit x = true → R x = 0)
noncomputable def jxX (D : jD) (l : List Nat) (R : Nat → Nat) : Nat := @ite _ (jxJ D l R) (Classical.propDecidable _) (jprd 4 (jxa D l R)) 0
theorem jxX_0 : ∀ R, jcd D jf1 R ≤ jxX D [] R := by
  intro R
  rw [jcd_e]
  by_cases e : (jall4 (jvd D R) && jall4 (jok D R)) = true
  · rw [if_pos e]
    unfold jall4 at e
    simp only [Bool.and_eq_true] at e
    obtain ⟨⟨v0, v1, v2, v3⟩, o0, o1, o2, o3⟩ := e
    have hv : ∀ x, x < 4 → jvd D R x = true := fun x hx => by
      rcases (by omega : x = 0 ∨ x = 1 ∨ x = 2 ∨ x = 3) with q | q | q | q <;> rw [q] <;> assumption
    have ho : ∀ x, x < 4 → jok D R x = true := fun x hx => by
      rcases (by omega : x = 0 ∨ x = 1 ∨ x = 2 ∨ x = 3) with q | q | q | q <;> rw [q] <;> assumption
    have hM : ∀ x, x < 4 → (jDq D).testBit x = true → jpb D x (R x) = true ∧ ∀ q, q < x → (jDq D).testBit q = true → jmt D q (R q) x (R x) = true := by
      intro x hx hqx
      have := ho x hx
      unfold jok jMq at this
      rw [hqx] at this
      simp only [Bool.not_true, Bool.false_or, Bool.and_eq_true, List.all_eq_true] at this
      refine ⟨this.1, fun q hq hqq => ?_⟩
      have h2 := this.2 q (List.mem_range.mpr (by omega))
      unfold jPq at h2
      rw [hqq, decide_eq_true hq] at h2
      simpa using h2
    have hJ : jxJ D [] R := by
      intro x hx _
      refine ⟨fun hqx => ⟨?_, (hM x hx hqx).1, fun q hq _ hqq hne => ?_⟩, fun hqx => ?_⟩
      · have := hv x hx
        unfold jvd at this
        rw [if_pos hqx] at this
        exact of_decide_eq_true this
      · rcases Nat.lt_or_gt_of_ne hne with h | h
        · exact (hM x hx hqx).2 q h hqq
        · rw [jmt_sym]
          exact (hM q hq hqq).2 x h hqx
      · have := hv x hx
        unfold jvd at this
        rw [if_neg hqx] at this
        exact of_decide_eq_true this
    have ha : ∀ x, jxa D [] R x = jwq D R x := by
      intro x
      unfold jxa jwq
      rw [if_neg (List.not_mem_nil)]
      by_cases q : (jDq D).testBit x = true
      · rw [if_pos q, if_pos q, jprd_c (g := fun _ => 1) (fun c _ => if_neg (fun z => List.not_mem_nil z.2)), jprd_1, Nat.mul_one]
      · rw [if_neg q, if_neg q]
    unfold jxX
    rw [if_pos hJ]
    show _ ≤ 1 * jxa D [] R 0 * jxa D [] R 1 * jxa D [] R 2 * jxa D [] R 3
    rw [ha, ha, ha, ha, Nat.one_mul, show jf1 R = 1 from rfl, Nat.mul_one, Nat.mul_assoc, Nat.mul_assoc]
    exact Nat.le_refl _
  · rw [if_neg e]
    exact Nat.zero_le _
theorem jxX_step {l : List Nat} {r : Nat} (hr : r < 4) (hl : r ∉ l) {R : Nat → Nat} (T : Nat → Nat) (hT : jxJ D (r :: l) R → ∀ m, m < 8 → jxJ D l (jRr R r m) → jxa D l (jRr R r m) r ≤ T m) (hs : jxJ D (r :: l) R → jsum 8 T * jprd 4 (fun x => if x = r then 1 else jxa D l R x) ≤ jprd 4 (jxa D (r :: l) R)) : jSum1 r (jxX D l) R ≤ jxX D (r :: l) R := by
  have hne : ∀ m x, x ≠ r → jRr R r m x = R x := fun m x h => if_neg h
  have hJ : ∀ m, jxJ D l (jRr R r m) → jxJ D (r :: l) R := by
    intro m h x hx hxl
    have h1 : x ≠ r := fun q => hxl (by rw [q]; exact List.mem_cons_self ..)
    have h2 : x ∉ l := fun q => hxl (List.mem_cons_of_mem _ q)
    obtain ⟨a, b⟩ := h x hx h2
    rw [hne m x h1] at a b
    refine ⟨fun q => ⟨(a q).1, (a q).2.1, fun y hy hyl hyq hyx => ?_⟩, b⟩
    have h3 : y ≠ r := fun q => hyl (by rw [q]; exact List.mem_cons_self ..)
    have := (a q).2.2 y hy (fun q => hyl (List.mem_cons_of_mem _ q)) hyq hyx
    rw [hne m y h3] at this
    exact this
  unfold jSum1
  by_cases h : jxJ D (r :: l) R
  · have e1 : jxX D (r :: l) R = jprd 4 (jxa D (r :: l) R) := if_pos h
    rw [e1]
    refine Nat.le_trans ?_ (hs h)
    rw [Nat.mul_comm, ← jsum_mul]
    refine jsum_le (fun m hm => ?_)
    by_cases h2 : jxJ D l (jRr R r m)
    · have e2 : jxX D l (jRr R r m) = jprd 4 (jxa D l (jRr R r m)) := if_pos h2
      rw [e2, jprd_pull hr, Nat.mul_comm]
      refine Nat.mul_le_mul (Nat.le_of_eq (jprd_c (fun x _ => ?_))) (hT h m hm h2)
      by_cases e : x = r
      · rw [if_pos e, if_pos e]
      · rw [if_neg e, if_neg e]
        unfold jxa
        rw [hne m x e]
    · have e2 : jxX D l (jRr R r m) = 0 := if_neg h2
      rw [e2]
      exact Nat.zero_le _
  · have : ∀ m, jxX D l (jRr R r m) = 0 := fun m => if_neg (fun q => h (hJ m q))
    rw [jsum_z (fun m _ => this m)]
    exact Nat.zero_le _
/-- others stay as they are, when r has no parent that waits -/
theorem jxa_o {l : List Nat} {r x : Nat} {R : Nat → Nat} (hx : x ≠ r) (hk : jkid D r x = false) : jxa D (r :: l) R x = jxa D l R x := by
  have e1 : ∀ c, (jkid D c x = true ∧ c ∈ r :: l) ↔ (jkid D c x = true ∧ c ∈ l) := by
    intro c
    rw [List.mem_cons]
    constructor
    · rintro ⟨a, b | b⟩
      · rw [b, hk] at a
        cases a
      · exact ⟨a, b⟩
    · exact fun ⟨a, b⟩ => ⟨a, Or.inr b⟩
  have e2 : x ∈ r :: l ↔ x ∈ l := by
    rw [List.mem_cons]
    exact ⟨fun q => q.elim (fun z => absurd z hx) id, Or.inr⟩
  unfold jxa
  simp only [e1, e2]
end MOST
