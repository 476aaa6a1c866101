/-! what a text tells, as the class holds it: steps of a stack -/
def jset (m : jMe) (a : Nat) (f : Nat → Int32) : jMe := (jN m, jT m, jK m, jZ m, jat (jI m) a f, jL m, jP m)
def jupd {α : Type} (f : Nat → α) (i : Nat) (x : α) : Nat → α := fun j => if j = i then x else f j
theorem jset_self (m : jMe) (a : Nat) : jset m a (jI m a) = m := by
  have : jat (jI m) a (jI m a) = jI m := by
    funext b
    unfold jat
    by_cases h : b = a
    · rw [if_pos h, h]
    · rw [if_neg h]
  unfold jset
  rw [this]
  rfl
theorem jset_at (m : jMe) (a : Nat) (f : Nat → Int32) : jI (jset m a f) a = f := jat_self _ _ _
theorem jset_ne {m : jMe} {a b : Nat} {f : Nat → Int32} (h : b ≠ a) : jI (jset m a f) b = jI m b := jat_ne _ _ h
theorem jset_jsI (m : jMe) (a i : Nat) (f : Nat → Int32) (x : Int32) : jsI (jset m a f) a i x = jset m a (jupd f i x) := by
  have : jup (jat (jI m) a f) a i x = jat (jI m) a (jupd f i x) := by
    funext b j
    unfold jup jat jupd
    by_cases h : b = a
    · subst h
      by_cases q : j = i <;> simp [q]
    · simp [h]
  show (jN m, jT m, jK m, jZ m, jup (jat (jI m) a f) a i x, jL m, jP m) = _
  rw [this]
  rfl
theorem jCr_of {D : jD} {m m' : jMe} {r : Nat} (h1 : jI m' (jrc r) = jI m (jrc r)) (h2 : jI m' (jrv r) = jI m (jrv r)) (h3 : jI m' (jrk r) = jI m (jrk r)) (h : jCr D m r) : jCr D m' r := by
  unfold jCr at h ⊢
  rw [h1, h2, h3]
  exact h
/-- what a name says -/
def jenv (r k : Nat) (f : Nat → Int32) (cp : Int32) (w : Int32) : Int32 := if w = 6 then Int32.ofNat k else if w = 7 then Int32.ofNat r else if w = 8 then cp else if jin w 6 = true then f w.toNatClampNeg else -1
def jjn (s x y : Int32) : Int32 := if s = 4 then x + y else if s = 5 then x - y else if s = 6 then x * y else if s = 7 then (if y = 0 then 0 else jrem x y) else if s = 8 then jbi (decide (x < y)) else if s = 9 then jbi (decide (x = y)) else if s = 10 then jbi (decide (¬ x = 0 ∧ ¬ y = 0)) else jbi (decide (¬ x = 0 ∨ ¬ y = 0))
def jvm1 (e : Int32 → Int32) (s : Int32) (f : Nat → Int32) (t : Nat) : Option ((Nat → Int32) × Nat) :=
  if s &&& 15 = 0 then (if t < 64 then some (jupd f t (jushr s 4), t + 1) else none)
  else if s &&& 15 = 1 then (if t < 64 then some (jupd f t (e (jushr s 4)), t + 1) else none)
  else if s &&& 15 = 2 then (if 1 ≤ t then some (jupd f (t - 1) (-(f (t - 1))), t) else none)
  else if s &&& 15 = 3 then (if 1 ≤ t then some (jupd f (t - 1) (jbi (decide (f (t - 1) = 0))), t) else none)
  else if 2 ≤ t then some (jupd f (t - 2) (jjn (s &&& 15) (f (t - 2)) (f (t - 1))), t - 1) else none
def jvm (e : Int32 → Int32) : List Int32 → (Nat → Int32) → Nat → Int32 × (Nat → Int32)
  | [], f, t => (if 1 ≤ t then f (t - 1) else 0, f)
  | s :: l, f, t => match jvm1 e s f t with
    | none => (0, f)
    | some q => jvm e l q.1 q.2
section TEXT
variable {D : jD} {m : jMe} {r F : Nat}
theorem q_bit0 : c_X7_bit F m (0 : Int32) = some 0 := by
  unfold c_X7_bit
  exact if_pos (Eq.refl _)
theorem q_bit1 : c_X7_bit F m (1 : Int32) = some 1 := by
  unfold c_X7_bit
  exact if_neg (by decide)
theorem jb_sm {α β : Type} {a : α} {f : α → Option β} : jb (some a) f = f a := Eq.trans (Eq.refl _) (Eq.refl _)
theorem q_joined {s x y : Int32} : c_X7_joined F m s x y = some (jjn s x y) := by
  unfold c_X7_joined c_X7_joined_j78 c_X7_joined_j92 c_X7_joined_j109 c_X7_joined_j126 jjn
  simp only [q_bit0, q_bit1, jb_some]
  by_cases h1 : s = 4
  · rw [if_pos h1, if_pos h1]
  rw [if_neg h1, if_neg h1]
  by_cases h2 : s = 5
  · rw [if_pos h2, if_pos h2]
  rw [if_neg h2, if_neg h2]
  by_cases h3 : s = 6
  · rw [if_pos h3, if_pos h3]
  rw [if_neg h3, if_neg h3]
  by_cases h4 : s = 7
  · rw [if_pos h4, if_pos h4]
    by_cases q : y = 0
    · rw [if_pos q, if_pos q]
    · rw [if_neg q, if_neg q, jgd_t q]
  rw [if_neg h4, if_neg h4]
  by_cases h5 : s = 8
  · rw [if_pos h5, if_pos h5]
    by_cases q : y ≤ x
    · rw [if_pos q, decide_eq_false (Int32.not_lt.mpr q)]
      rfl
    · rw [if_neg q, decide_eq_true (Int32.not_le.mp q)]
      rfl
  rw [if_neg h5, if_neg h5]
  by_cases h6 : s = 9
  · rw [if_pos h6, if_pos h6]
    by_cases q : x = y
    · rw [if_pos q, decide_eq_true q]
      rfl
    · rw [if_neg q, decide_eq_false q]
      rfl
  rw [if_neg h6, if_neg h6]
  by_cases h7 : s = 10
  · rw [if_pos h7, if_pos h7]
    by_cases q : x = 0
    · rw [if_pos q]
      simp [q, jbi]
    · rw [if_neg q]
      by_cases q2 : y = 0
      · rw [if_pos q2]
        simp [q2, jbi]
      · rw [if_neg q2]
        simp [q, q2, jbi]
  rw [if_neg h7, if_neg h7]
  by_cases q : x = 0
  · rw [if_pos q]
    by_cases q2 : y = 0
    · rw [if_pos q2]
      simp [q, q2, jbi]
    · rw [if_neg q2]
      simp [q, q2, jbi]
  · rw [if_neg q]
    simp [q, jbi]
theorem q_named (hL : jLr m r) (hD : jDR D r) (hC : jCr D m r) {k : Nat} (hk : k < jDz D r) {w : Int32} : c_X7_named F m w (jrc r) (Int32.ofNat r) (Int32.ofNat k) = some (jenv r k (jDw D r k) (Int32.ofNat (jDc D r k)) w) := by
  unfold c_X7_named jenv
  have hz := hD.2.2.1
  rw [jgd_t hL.1, jgd_t hL.1, hL.2.2.1, hL.2.1, jgd_t hL.2.2.2.2.2.1, jgd_t hL.2.2.2.1, hL.2.2.2.2.2.2, hL.2.2.2.2.1, jgd_t (ji_int (by omega) (by omega)), jgd_t (ji_int (by omega) (by omega)), ji_n (by omega), (hC.2.2.2.2.2 k hk).2]
  by_cases h1 : w = 6
  · rw [if_pos h1, if_pos h1]
  rw [if_neg h1, if_neg h1]
  by_cases h2 : w = 7
  · rw [if_pos h2, if_pos h2]
  rw [if_neg h2, if_neg h2]
  by_cases h3 : w = 8
  · rw [if_pos h3, if_pos h3]
  rw [if_neg h3, if_neg h3]
  by_cases h4 : jin w 6 = true
  · obtain ⟨a, rfl, ha, ha6⟩ := jin_nat h4
    rw [if_pos h4, q_valueAt hL hC ha6, jb_some, ji_n ha, (hC.2.2.2.2.2 k hk).1 a (by omega)]
    rfl
  · rw [if_neg h4]
    unfold c_X4_valueAt c_X4_valueAt_j29
    by_cases h5 : w < 0
    · rw [if_pos h5, if_pos rfl]
      rfl
    · obtain ⟨a, rfl, ha⟩ := ji_nat h5
      rw [ji_in ha] at h4
      have : ¬ a < 6 := fun h => h4 (decide_eq_true h)
      rw [if_neg h5, jl_6, if_pos (ji_lep (by omega) ha (by omega)), if_pos rfl]
      rfl
/-- of a text: its cell b, its steps' c, its stack's s -/
abbrev jLt (m : jMe) (b c s n : Nat) : Prop := jK m b = 39 ∧ jP m b 0 = c ∧ jP m b 1 = s ∧ jK m c = 1 ∧ jZ m c = n ∧ jK m s = 1 ∧ jZ m s = 64 ∧ n < 1000 ∧ c ≠ s ∧ s ≠ jrc r ∧ s ≠ jrv r ∧ s ≠ jrk r
theorem ji_sub1 {t : Nat} (h : 1 ≤ t) : Int32.ofNat t - 1 = Int32.ofNat (t - 1) := ji_sub h
theorem ji_addm {t : Nat} (h : 1 ≤ t) : Int32.ofNat t + (-1) = Int32.ofNat (t - 1) := by
  rw [← ji_sub1 h, Int32.sub_eq_add_neg]
theorem q_vstep {b c s n : Nat} (hT : jLt (r := r) m b c s n) (hL : jLr m r) (hD : jDR D r) (hC : jCr D m r) {k : Nat} (hk : k < jDz D r) {B : jMe → Nat → Nat → Int32 → Int32 → Int32 → Int32 → Option ((Int32 × jMe) ⊕ (jMe × Nat × Int32))} {i t : Nat} {f : Nat → Int32} (hi : i < n) (ht : t ≤ 64) : c_X7_valueFor_l6_b F B (jset m s f) b (jrc r) (Int32.ofNat r) (Int32.ofNat k) (Int32.ofNat t) (Int32.ofNat i) = (match jvm1 (jenv r k (jDw D r k) (Int32.ofNat (jDc D r k))) (jI m c i) f t with
    | none => some (.inl (0, jset m s f))
    | some q => B (jset m s q.1) b (jrc r) (Int32.ofNat r) (Int32.ofNat k) (Int32.ofNat q.2) (Int32.ofNat (i + 1))) := by
  obtain ⟨t1, t2, t3, t4, t5, t6, t7, t8, t9, t10, t11, t12⟩ := hT
  have e1 : ∀ f, jK (jset m s f) = jK m := fun _ => rfl
  have e2 : ∀ f, jZ (jset m s f) = jZ m := fun _ => rfl
  have e3 : ∀ f, jP (jset m s f) = jP m := fun _ => rfl
  have hLs : ∀ f, jLr (jset m s f) r := fun _ => hL
  have hCs : ∀ f, jCr D (jset m s f) r := fun _ => jCr_of (jset_ne (Ne.symm t10)) (jset_ne (Ne.symm t11)) (jset_ne (Ne.symm t12)) hC
  have hc : ∀ f, jI (jset m s f) c = jI m c := fun _ => jset_ne t9
  unfold c_X7_valueFor_l6_b c_X7_valueFor_j50_l6 c_X7_valueFor_j102_l6 c_X7_valueFor_j154_l6 c_X7_valueFor_j83_l6 c_X7_valueFor_j157_l6
  simp only [e1, e2, e3, t2, t3, t5, t7, hc, q_bit0, q_bit1, jb_sm, jgd_t t1, jgd_t t4, jgd_t t6, q_named (hLs _) hD (hCs _) hk, q_joined, jset_at, jset_jsI]
  rw [if_neg (ji_len (by omega) (by omega) (by omega)), jgd_t (ji_int (by omega) (by omega)), jgd_t (ji_int (by omega) (by omega)), ji_n (by omega)]
  generalize jI m c i = o
  unfold jvm1
  have l64 : Int32.ofNat t < 64 ↔ t < 64 := ji_lt (b := 64) (by omega) (by omega)
  have l1 : (1 : Int32) ≤ Int32.ofNat t ↔ 1 ≤ t := ji_le (a := 1) (by omega) (by omega)
  have l2 : (2 : Int32) ≤ Int32.ofNat t ↔ 2 ≤ t := ji_le (a := 2) (by omega) (by omega)
  have a1 : Int32.ofNat t + 1 = Int32.ofNat (t + 1) := ji_add t 1
  have a2 : Int32.ofNat i + 1 = Int32.ofNat (i + 1) := ji_add i 1
  by_cases o0 : o &&& 15 = 0
  · simp only [if_pos o0]
    by_cases q : t < 64
    · simp only [if_pos (l64.mpr q), if_pos q]
      rw [jgd_t (ji_int (by omega) (by omega)), ji_n (by omega), a1, a2]
    · simp only [if_neg (fun h => q (l64.mp h)), if_neg q]
  simp only [if_neg o0]
  by_cases o1 : o &&& 15 = 1
  · simp only [if_pos o1]
    by_cases q : t < 64
    · simp only [if_pos (l64.mpr q), if_pos q]
      rw [jgd_t (ji_int (by omega) (by omega)), ji_n (by omega), a1, a2]
    · simp only [if_neg (fun h => q (l64.mp h)), if_neg q]
  simp only [if_neg o1]
  by_cases o2 : o &&& 15 = 2
  · simp only [if_pos o2]
    by_cases q : 1 ≤ t
    · simp only [if_pos (l1.mpr q), if_pos q]
      rw [ji_sub1 q, jgd_t (ji_int (by omega) (by omega)), jgd_t (ji_int (by omega) (by omega)), ji_n (by omega), a2]
    · simp only [if_neg (fun h => q (l1.mp h)), if_neg q]
  simp only [if_neg o2]
  by_cases o3 : o &&& 15 = 3
  · simp only [if_pos o3]
    by_cases q : 1 ≤ t
    · simp only [if_pos (l1.mpr q), if_pos q]
      rw [ji_sub1 q, jgd_t (ji_int (by omega) (by omega)), ji_n (by omega), a2]
      by_cases z : f (t - 1) = 0
      · simp only [if_pos z]
        rw [jgd_t (ji_int (by omega) (by omega)), decide_eq_true z]
        rfl
      · simp only [if_neg z]
        rw [jgd_t (ji_int (by omega) (by omega)), decide_eq_false z]
        rfl
    · simp only [if_neg (fun h => q (l1.mp h)), if_neg q]
  simp only [if_neg o3]
  by_cases q : 2 ≤ t
  · simp only [if_pos (l2.mpr q), if_pos q]
    rw [ji_addm (by omega), ji_sub1 (by omega), jgd_t (ji_int (by omega) (by omega)), jgd_t (ji_int (by omega) (by omega)), jgd_t (ji_int (by omega) (by omega)), ji_n (by omega), ji_n (by omega), a2, show t - 1 - 1 = t - 2 by omega]
  · simp only [if_neg (fun h => q (l2.mp h)), if_neg q]
theorem jvm1_le {e : Int32 → Int32} {s : Int32} {f : Nat → Int32} {t : Nat} {q : (Nat → Int32) × Nat} (h : jvm1 e s f t = some q) (ht : t ≤ 64) : q.2 ≤ 64 := by
  unfold jvm1 at h
  repeat' split at h
  all_goals first | (cases h; done) | (cases h; show _ ≤ 64; omega)
theorem q_valueFor_l6 {b c s n : Nat} (hT : jLt (r := r) m b c s n) (hL : jLr m r) (hD : jDR D r) (hC : jCr D m r) {k : Nat} (hk : k < jDz D r) : ∀ (w i g t : Nat) (f : Nat → Int32), i + w = n → w < g → t ≤ 64 → ∃ z, c_X7_valueFor_l6 F g (jset m s f) b (jrc r) (Int32.ofNat r) (Int32.ofNat k) (Int32.ofNat t) (Int32.ofNat i) = some z ∧ (match z with
    | .inl p => p = ((jvm (jenv r k (jDw D r k) (Int32.ofNat (jDc D r k))) ((List.range' i w).map (jI m c)) f t).1, jset m s (jvm (jenv r k (jDw D r k) (Int32.ofNat (jDc D r k))) ((List.range' i w).map (jI m c)) f t).2)
    | .inr p => ∃ f' t2, p = (jset m s f', b, Int32.ofNat t2) ∧ t2 ≤ 64 ∧ jvm (jenv r k (jDw D r k) (Int32.ofNat (jDc D r k))) ((List.range' i w).map (jI m c)) f t = (if 1 ≤ t2 then f' (t2 - 1) else 0, f')) := by
  intro w
  induction w with
  | zero =>
    intro i g t f h1 h2 h3
    obtain ⟨g, rfl⟩ := jsucc h2
    obtain ⟨t1, t2, t3, t4, t5, t6, t7, t8, t9, t10, t11, t12⟩ := hT
    refine ⟨.inr (jset m s f, b, Int32.ofNat t), ?_, f, t, rfl, h3, rfl⟩
    show c_X7_valueFor_l6_b F _ (jset m s f) _ _ _ _ _ _ = _
    unfold c_X7_valueFor_l6_b
    have e1 : jK (jset m s f) = jK m := rfl
    have e2 : jZ (jset m s f) = jZ m := rfl
    have e3 : jP (jset m s f) = jP m := rfl
    rw [e1, e2, e3, t2, t5, jgd_t t1, jgd_t t4, if_pos (ji_lep (by omega) (by omega) (by omega))]
  | succ w ih =>
    intro i g t f h1 h2 h3
    obtain ⟨g, rfl⟩ := jsucc h2
    have hs := q_vstep (F := F) hT hL hD hC hk (B := fun m y0 y1 y2 y3 y4 y5 => c_X7_valueFor_l6 F g m y0 y1 y2 y3 y4 y5) (i := i) (t := t) (f := f) (by omega) h3
    show ∃ z, c_X7_valueFor_l6_b F _ (jset m s f) _ _ _ _ _ _ = _ ∧ _
    rw [hs, List.range'_succ, List.map_cons]
    unfold jvm
    cases e : jvm1 (jenv r k (jDw D r k) (Int32.ofNat (jDc D r k))) (jI m c i) f t with
    | none => exact ⟨_, rfl, rfl⟩
    | some q => exact ih (i + 1) g q.2 q.1 (by omega) (by omega) (jvm1_le e h3)
theorem jvm_le {e : Int32 → Int32} : ∀ {l : List Int32} {f g : Nat → Int32} {t : Nat}, (∀ i, i < t → f i = g i) → (jvm e l f t).1 = (jvm e l g t).1 := by
  intro l
  induction l with
  | nil =>
    intro f g t h
    unfold jvm
    by_cases q : 1 ≤ t
    · simp only [if_pos q]
      exact h _ (by omega)
    · simp only [if_neg q]
  | cons s l ih =>
    intro f g t h
    unfold jvm jvm1
    have hu : ∀ (i : Nat) (x y : Int32) (t' : Nat), x = y → (∀ j, j < t' → j = i ∨ j < t) → ∀ j, j < t' → jupd f i x j = jupd g i y j := by
      intro i x y t' e h1 j hj
      unfold jupd
      rcases h1 j hj with rfl | q
      · rw [if_pos rfl, if_pos rfl, e]
      · by_cases q2 : j = i
        · rw [if_pos q2, if_pos q2, e]
        · rw [if_neg q2, if_neg q2, h j q]
    by_cases o0 : s &&& 15 = 0
    · rw [if_pos o0, if_pos o0]
      by_cases q : t < 64
      · rw [if_pos q, if_pos q]
        exact ih (hu _ _ _ _ rfl (fun j hj => by omega))
      · rw [if_neg q, if_neg q]
    rw [if_neg o0, if_neg o0]
    by_cases o1 : s &&& 15 = 1
    · rw [if_pos o1, if_pos o1]
      by_cases q : t < 64
      · rw [if_pos q, if_pos q]
        exact ih (hu _ _ _ _ rfl (fun j hj => by omega))
      · rw [if_neg q, if_neg q]
    rw [if_neg o1, if_neg o1]
    by_cases o2 : s &&& 15 = 2
    · rw [if_pos o2, if_pos o2]
      by_cases q : 1 ≤ t
      · rw [if_pos q, if_pos q]
        exact ih (hu _ _ _ _ (by rw [h (t - 1) (by omega)]) (fun j hj => by omega))
      · rw [if_neg q, if_neg q]
    rw [if_neg o2, if_neg o2]
    by_cases o3 : s &&& 15 = 3
    · rw [if_pos o3, if_pos o3]
      by_cases q : 1 ≤ t
      · rw [if_pos q, if_pos q]
        exact ih (hu _ _ _ _ (by rw [h (t - 1) (by omega)]) (fun j hj => by omega))
      · rw [if_neg q, if_neg q]
    rw [if_neg o3, if_neg o3]
    by_cases q : 2 ≤ t
    · rw [if_pos q, if_pos q]
      exact ih (hu _ _ _ _ (by rw [h (t - 1) (by omega), h (t - 2) (by omega)]) (fun j hj => by omega))
    · rw [if_neg q, if_neg q]
/-- what a row of steps tells -/
def jtell (l : List Int32) (r k : Nat) (f : Nat → Int32) (cp : Int32) : Int32 := (jvm (jenv r k f cp) l (fun _ => 0) 0).1
theorem q_valueFor {b c s n : Nat} (hF : 2000 < F) (hT : jLt (r := r) m b c s n) (hL : jLr m r) (hD : jDR D r) (hC : jCr D m r) {k : Nat} (hk : k < jDz D r) : ∃ f, c_X7_valueFor F m b (jrc r) (Int32.ofNat r) (Int32.ofNat k) = some (jtell ((List.range' 0 n).map (jI m c)) r k (jDw D r k) (Int32.ofNat (jDc D r k)), jset m s f) := by
  obtain ⟨z, h1, h2⟩ := q_valueFor_l6 (F := F) hT hL hD hC hk n 0 F 0 (jI m s) (by omega) (by have := hT.2.2.2.2.2.2.2.1; omega) (by omega)
  rw [jset_self] at h1
  have e : ∀ l f, (jvm (jenv r k (jDw D r k) (Int32.ofNat (jDc D r k))) l f 0).1 = jtell l r k (jDw D r k) (Int32.ofNat (jDc D r k)) := fun l f => jvm_le (fun i hi => by omega)
  unfold c_X7_valueFor
  rw [show (0 : Int32) = Int32.ofNat 0 from rfl, h1]
  rcases z with p | p
  · have h2 : p = _ := h2
    rw [jb2_l, h2, e]
    exact ⟨_, rfl⟩
  · obtain ⟨f', t2, rfl, h3, h4⟩ := h2
    rw [jb2_r]
    have h5 := e ((List.range' 0 n).map (jI m c)) (jI m s)
    rw [h4] at h5
    obtain ⟨t1, t2', t3, t4, t5, t6, t7, t8, t9, t10, t11, t12⟩ := hT
    refine ⟨f', ?_⟩
    rw [← h5]
    show (if (1 : Int32) ≤ Int32.ofNat t2 then jgd (jK m b = 39) <| jgd (jK m (jP m b 1) = 1) <| jgd (jin (Int32.ofNat t2 - 1) (jZ m (jP m b 1)) = true) <| some (jI (jset m s f') (jP m b 1) (Int32.ofNat t2 - 1).toNatClampNeg, jset m s f') else some (Int32.ofNat 0, jset m s f')) = _
    by_cases q : 1 ≤ t2
    · rw [if_pos (show (1 : Int32) ≤ Int32.ofNat t2 from (ji_le (a := 1) (by omega) (by omega)).mpr q), ji_sub1 q, t3, jgd_t t1, jgd_t t6, t7, jgd_t (ji_int (by omega) (by omega)), ji_n (by omega), jset_at, if_pos q]
    · rw [if_neg (show ¬ (1 : Int32) ≤ Int32.ofNat t2 from fun h => q ((ji_le (a := 1) (by omega) (by omega)).mp h)), if_neg q]
      rfl
end TEXT
