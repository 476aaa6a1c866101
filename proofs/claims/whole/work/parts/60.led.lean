/-! positions, as they are thought of -/
theorem jq_rem {a b : Nat} (ha : a ≤ jMX) (hb : b ≤ jMX) (h0 : 0 < b) : jlrem (Int64.ofNat a) (Int64.ofNat b) = Int64.ofNat (a % b) := by
  unfold jlrem
  have h1 := Nat.div_add_mod a b
  have h2 : a / b * b = b * (a / b) := Nat.mul_comm _ _
  rw [jq_div ha hb, jq_mul, jq_sub (by omega)]
  congr 1
  omega
theorem jdown0 : Int32.ofNat 0 - 1 < 0 := by decide
theorem jdown_s (t : Nat) : Int32.ofNat (t + 1) - 1 = Int32.ofNat t := ji_sub1 (by omega)
theorem jdown (t : Nat) : Int32.ofNat t + (-1) = Int32.ofNat t - 1 := by
  rw [Int32.sub_eq_add_neg]
/-- indexes of checks below t; what is left -/
def jix (D : jD) : Nat → Nat → (Nat → Nat) × Nat
  | 0, p => (fun _ => 0, p)
  | t + 1, p => if (jdC D).testBit t = true then (fun x => if x = t then p % jbd D t else (jix D t (p / jbd D t)).1 x, (jix D t (p / jbd D t)).2) else jix D t p
/-- the row at which a number falls, and what is left of it inside; M: which rows count -/
def jpk1 (D : jD) (r : Nat) (M : Nat → Bool) : Nat → Nat → Nat → Option (Nat × Nat)
  | 0, _, _ => none
  | t + 1, k, p => if M k = true then (if p < jW1 D r k then some (k, p) else jpk1 D r M t (k + 1) (p - jW1 D r k)) else jpk1 D r M t (k + 1) p
/-- what is led into the children of a row, those below t -/
def jcl1 (D : jD) (u k : Nat) : Nat → Nat → Nat → Nat
  | 0, _, _ => 0
  | t + 1, p, c => if jkid D t u = true then (if c = t then p % jS1 D u k t else jcl1 D u k t (p / jS1 D u k t) c) else jcl1 D u k t p c
/-- row, and what is left inside, of each one of the tree, p0 being led into the root -/
def jlr (D : jD) (p0 : Nat) : Nat → Nat → Nat × Nat
  | 0, _ => (0, 0)
  | f + 1, r => match jpar D r with
    | none => (jpk1 D r (fun _ => true) (jDz D r) 0 p0).getD (0, 0)
    | some u => (jpk1 D r (fun m => jmt D u (jlr D p0 f u).1 r m) (jDz D r) 0 (jcl1 D u (jlr D p0 f u).1 4 (jlr D p0 f u).2 r)).getD (0, 0)
def jrw (D : jD) (p0 r : Nat) : Nat := (jlr D p0 4 r).1
def jin1 (D : jD) (p0 r : Nat) : Nat := (jlr D p0 4 r).2
theorem jix_lt {D : jD} : ∀ (t p : Nat), (∀ r, r < t → (jdC D).testBit r = true → 0 < jbd D r) → (jix D t p).2 ≤ p ∧ (∀ x, x < t → (jdC D).testBit x = true → (jix D t p).1 x < jbd D x) ∧ (∀ c, p < c * jprd t (fun r => if (jdC D).testBit r = true then jbd D r else 1) → (jix D t p).2 < c) := by
  intro t
  induction t with
  | zero =>
    intro p h
    exact ⟨Nat.le_refl _, fun x hx => by omega, fun c hc => by rw [show jprd 0 (fun r => if (jdC D).testBit r = true then jbd D r else 1) = 1 from rfl, Nat.mul_one] at hc; exact hc⟩
  | succ t ih =>
    intro p h
    unfold jix
    by_cases e : (jdC D).testBit t = true
    · rw [if_pos e]
      have hb := h t (by omega) e
      obtain ⟨i1, i2, i3⟩ := ih (p / jbd D t) (fun r hr hc => h r (by omega) hc)
      refine ⟨Nat.le_trans i1 (Nat.div_le_self _ _), fun x hx hc => ?_, fun c hc => i3 c ?_⟩
      · by_cases ex : x = t
        · subst ex
          show (if x = x then _ else _) < _
          rw [if_pos rfl]
          exact Nat.mod_lt _ hb
        · show (if x = t then _ else _) < _
          rw [if_neg ex]
          exact i2 x (by omega) hc
      · rw [jprd_s, if_pos e, ← Nat.mul_assoc] at hc
        exact Nat.div_lt_of_lt_mul (by rw [Nat.mul_comm]; exact hc)
    · rw [if_neg e]
      obtain ⟨i1, i2, i3⟩ := ih p (fun r hr hc => h r (by omega) hc)
      refine ⟨i1, fun x hx hc => ?_, fun c hc => i3 c ?_⟩
      · by_cases ex : x = t
        · subst ex
          exact absurd hc e
        · exact i2 x (by omega) hc
      · rw [jprd_s, if_neg e, Nat.mul_one] at hc
        exact hc
theorem jpk1_ok {D : jD} {r : Nat} {M : Nat → Bool} : ∀ (t k p : Nat), p < jsum t (fun i => if M (k + i) = true then jW1 D r (k + i) else 0) → ∃ x q, jpk1 D r M t k p = some (x, q) ∧ k ≤ x ∧ x < k + t ∧ M x = true ∧ q < jW1 D r x ∧ q ≤ p := by
  intro t
  induction t with
  | zero => intro k p h; exact absurd h (Nat.not_lt_zero _)
  | succ t ih =>
    intro k p h
    have hs : jsum (t + 1) (fun i => if M (k + i) = true then jW1 D r (k + i) else 0) = (if M k = true then jW1 D r k else 0) + jsum t (fun i => if M (k + 1 + i) = true then jW1 D r (k + 1 + i) else 0) := by
      have : ∀ (n : Nat) (f : Nat → Nat), jsum (n + 1) f = f 0 + jsum n (fun i => f (i + 1)) := by
        intro n
        induction n with
        | zero => intro f; show 0 + f 0 = f 0 + 0; omega
        | succ n ih2 =>
          intro f
          rw [jsum_s, ih2, jsum_s]
          omega
      rw [this]
      simp only [Nat.add_zero]
      congr 1
      refine jsum_c (fun i hi => ?_)
      rw [show k + (i + 1) = k + 1 + i by omega]
    rw [hs] at h
    unfold jpk1
    by_cases e : M k = true
    · rw [if_pos e] at h ⊢
      by_cases q : p < jW1 D r k
      · rw [if_pos q]
        exact ⟨k, p, rfl, Nat.le_refl _, by omega, e, q, Nat.le_refl _⟩
      · rw [if_neg q]
        obtain ⟨x, y, h1, h2, h3, h4, h5, h6⟩ := ih (k + 1) (p - jW1 D r k) (by omega)
        exact ⟨x, y, h1, by omega, by omega, h4, h5, by omega⟩
    · rw [if_neg e] at h ⊢
      obtain ⟨x, y, h1, h2, h3, h4, h5, h6⟩ := ih (k + 1) p (by omega)
      exact ⟨x, y, h1, by omega, by omega, h4, h5, by omega⟩
theorem jcl_lt {D : jD} {u k : Nat} : ∀ (t p c : Nat), c < t → jkid D c u = true → 0 < jS1 D u k c → jcl1 D u k t p c < jS1 D u k c := by
  intro t
  induction t with
  | zero => intro p c h; omega
  | succ t ih =>
    intro p c h hk hs
    unfold jcl1
    by_cases ec : c = t
    · subst ec
      rw [if_pos hk, if_pos rfl]
      exact Nat.mod_lt _ hs
    · by_cases e : jkid D t u = true
      · rw [if_pos e, if_neg ec]
        exact ih _ c (by omega) hk hs
      · rw [if_neg e]
        exact ih _ c (by omega) hk hs
theorem jlr_st {D : jD} {root p0 : Nat} (hT : jTre (jDa D) (jdK D) root (jpar D) (jord D)) : ∀ (n : Nat) (pre : List Nat) (r : Nat) (post : List Nat), post.length ≤ n → jord D = pre ++ r :: post → ∀ (f f' : Nat), n < f → n < f' → jlr D p0 f r = jlr D p0 f' r := by
  intro n
  induction n with
  | zero =>
    intro pre r post h1 h2 f f' h3 h4
    obtain ⟨f, rfl⟩ := jsucc h3
    obtain ⟨f', rfl⟩ := jsucc h4
    have hp : post = [] := List.eq_nil_of_length_eq_zero (by omega)
    have := ((hT.2.2 pre r post h2).1 hp).2
    unfold jlr
    rw [this]
  | succ n ih =>
    intro pre r post h1 h2 f f' h3 h4
    obtain ⟨f, rfl⟩ := jsucc (show 0 < f by omega)
    obtain ⟨f', rfl⟩ := jsucc (show 0 < f' by omega)
    by_cases hp : post = []
    · have := ((hT.2.2 pre r post h2).1 hp).2
      unfold jlr
      rw [this]
    · obtain ⟨q, q1, q2, -⟩ := (hT.2.2 pre r post h2).2 hp
      obtain ⟨p1, p2, e⟩ := List.append_of_mem q2
      have := ih (pre ++ r :: p1) q p2 (by rw [e] at h1; simp at h1; omega) (by rw [h2, e]; simp) f f' (by omega) (by omega)
      unfold jlr
      rw [q1]
      dsimp only
      rw [this]
/-- what is led into one; which rows count -/
def jLv (D : jD) (p0 x : Nat) : Nat := match jpar D x with
  | none => p0
  | some u => jcl1 D u (jrw D p0 u) 4 (jin1 D p0 u) x
def jMr (D : jD) (p0 r : Nat) : Nat → Bool := match jpar D r with
  | none => fun _ => true
  | some u => fun m => jmt D u (jrw D p0 u) r m
/-- rows that stand, by a number below ALL -/
theorem jlr_ok {D : jD} {root p0 : Nat} (hT : jTre (jDa D) (jdK D) root (jpar D) (jord D)) (hr : jrt D = some root) (hp : p0 < jAll D) (hD : ∀ r, r < 4 → jDR D r) : ∀ (n : Nat) (pre : List Nat) (r : Nat) (post : List Nat), post.length ≤ n → jord D = pre ++ r :: post → jrw D p0 r < jDz D r ∧ jpb D r (jrw D p0 r) = true ∧ jin1 D p0 r < jW1 D r (jrw D p0 r) ∧ (∀ u, jpar D r = some u → jmt D u (jrw D p0 u) r (jrw D p0 r) = true) ∧ jpk1 D r (jMr D p0 r) (jDz D r) 0 (jLv D p0 r) = some (jrw D p0 r, jin1 D p0 r) ∧ (jLv D p0 r < jAll D ∨ ∃ u, jpar D r = some u ∧ jLv D p0 r < jS1 D u (jrw D p0 u) r) := by
  have hlen := jord_le hT
  intro n
  induction n with
  | zero =>
    intro pre r post h1 h2
    have hpn : post = [] := List.eq_nil_of_length_eq_zero (by omega)
    obtain ⟨e1, e2⟩ := (hT.2.2 pre r post h2).1 hpn
    have hall : jAll D = jsum (jDz D r) (fun m => jW1 D r m) := by
      unfold jAll
      rw [hr, e1]
    obtain ⟨x, q, g1, g2, g3, g4, g5, g6⟩ := jpk1_ok (D := D) (r := r) (M := fun _ => true) (jDz D r) 0 p0 (by
      rw [hall] at hp
      rw [jsum_c (g := fun m => jW1 D r m) (fun i hi => by rw [if_pos rfl, Nat.zero_add])]
      exact hp)
    have hw : jlr D p0 4 r = (x, q) := by
      unfold jlr
      rw [e2]
      dsimp only
      rw [g1]
      rfl
    have hrm : r ∈ jord D := by rw [h2]; simp
    have hlv : jLv D p0 r = p0 := by unfold jLv; rw [e2]
    have hmr : jMr D p0 r = fun _ => true := by unfold jMr; rw [e2]
    have e1' : jrw D p0 r = x := by unfold jrw; rw [hw]
    have e2' : jin1 D p0 r = q := by unfold jin1; rw [hw]
    rw [hlv, hmr, e1', e2']
    refine ⟨by omega, ?_, g5, (fun u hu => by rw [e2] at hu; cases hu), g1, Or.inl hp⟩
    rw [jW1_e hT hrm x] at g5
    by_cases q : jpb D r x = true
    · exact q
    · rw [if_neg q] at g5
      omega
  | succ n ih =>
    intro pre r post h1 h2
    by_cases hpn : post = []
    · subst hpn
      exact ih pre r [] (by simp) h2
    obtain ⟨u, u1, u2, u3⟩ := (hT.2.2 pre r post h2).2 hpn
    obtain ⟨p1, p2, e⟩ := List.append_of_mem u2
    have h2u : jord D = (pre ++ r :: p1) ++ u :: p2 := by rw [h2, e]; simp
    obtain ⟨i1, i2, i3, i4, -, -⟩ := ih (pre ++ r :: p1) u p2 (by rw [e] at h1; simp at h1; omega) h2u
    have hum : u ∈ jord D := by rw [h2u]; simp
    have hrm : r ∈ jord D := by rw [h2]; simp
    have hr4 := ((hT.2.1 r).mp hrm)
    have hkid : jkid D r u = true := by
      unfold jkid
      rw [hr4.2, u1]
      simp
    have hW := jW1_e hT hum (jrw D p0 u)
    rw [if_pos i2] at hW
    have hS : 0 < jS1 D u (jrw D p0 u) r := by
      rw [hW] at i3
      have hpos : 0 < jprd 4 (fun c => if jkid D c u = true then jS1 D u (jrw D p0 u) c else 1) := by
        unfold jpre at i3
        refine Nat.pos_of_ne_zero (fun h => ?_)
        rw [h] at i3
        omega
      have := jprd_pos hpos r hr4.1
      rw [if_pos hkid] at this
      exact this
    have hst : jlr D p0 3 u = jlr D p0 4 u := by
      rw [h2u] at hlen
      simp at hlen
      exact jlr_st hT p2.length _ u p2 (Nat.le_refl _) h2u 3 4 (by omega) (by omega)
    have hcl := jcl_lt (D := D) (u := u) (k := jrw D p0 u) 4 (jin1 D p0 u) r hr4.1 hkid hS
    obtain ⟨x, q, g1, g2, g3, g4, g5, g6⟩ := jpk1_ok (D := D) (r := r) (M := fun m => jmt D u (jrw D p0 u) r m) (jDz D r) 0 (jcl1 D u (jrw D p0 u) 4 (jin1 D p0 u) r) (by
      rw [jsum_c (g := fun m => if jmt D u (jrw D p0 u) r m = true then jW1 D r m else 0) (fun i hi => by rw [Nat.zero_add])]
      exact hcl)
    have hw : jlr D p0 4 r = (x, q) := by
      rw [show jlr D p0 4 r = match jpar D r with
        | none => (jpk1 D r (fun _ => true) (jDz D r) 0 p0).getD (0, 0)
        | some u => (jpk1 D r (fun m => jmt D u (jlr D p0 3 u).1 r m) (jDz D r) 0 (jcl1 D u (jlr D p0 3 u).1 4 (jlr D p0 3 u).2 r)).getD (0, 0) from rfl, u1]
      dsimp only
      rw [hst]
      show (jpk1 D r (fun m => jmt D u (jrw D p0 u) r m) (jDz D r) 0 (jcl1 D u (jrw D p0 u) 4 (jin1 D p0 u) r)).getD (0, 0) = _
      rw [g1]
      rfl
    have e1 : jrw D p0 r = x := by unfold jrw; rw [hw]
    have e2 : jin1 D p0 r = q := by unfold jin1; rw [hw]
    have hlv : jLv D p0 r = jcl1 D u (jrw D p0 u) 4 (jin1 D p0 u) r := by unfold jLv; rw [u1]
    have hmr : jMr D p0 r = fun m => jmt D u (jrw D p0 u) r m := by unfold jMr; rw [u1]
    rw [e1, e2, hlv, hmr]
    refine ⟨by omega, ?_, g5, fun u' hu' => ?_, g1, Or.inr ⟨u, u1, hcl⟩⟩
    · rw [jW1_e hT hrm x] at g5
      by_cases q : jpb D r x = true
      · exact q
      · rw [if_neg q] at g5
        omega
    · rw [u1] at hu'
      cases hu'
      exact g4
