/-! the memory of the decompiled programs: cells numbered from 32 on (0: null, 1 .. 31: what was there before), three typed contents -/
def jW : List Cond := lw_tbl.filter goodWord
theorem jW_in {w : Cond} (h : w ∈ jW) : w ∈ lw_tbl := (List.mem_filter.mp h).1
theorem jW_good : GoodIn jW jW := fun w h => ⟨h, good_of_word (List.mem_filter.mp h).2⟩
abbrev jAV : Type := Int32 ⊕ Int64 ⊕ Nat
abbrev jMe : Type := Nat × Nat × (Nat → Nat) × (Nat → Nat) × (Nat → Nat → Int32) × (Nat → Nat → Int64) × (Nat → Nat → Nat)
def jN (m : jMe) : Nat := m.1
def jT (m : jMe) : Nat := m.2.1
def jK (m : jMe) : Nat → Nat := m.2.2.1
def jZ (m : jMe) : Nat → Nat := m.2.2.2.1
def jI (m : jMe) : Nat → Nat → Int32 := m.2.2.2.2.1
def jL (m : jMe) : Nat → Nat → Int64 := m.2.2.2.2.2.1
def jP (m : jMe) : Nat → Nat → Nat := m.2.2.2.2.2.2
def jup {α : Type} (f : Nat → Nat → α) (a i : Nat) (x : α) : Nat → Nat → α := fun b j => if b = a ∧ j = i then x else f b j
def jsI (m : jMe) (a i : Nat) (x : Int32) : jMe := (jN m, jT m, jK m, jZ m, jup (jI m) a i x, jL m, jP m)
def jsL (m : jMe) (a i : Nat) (x : Int64) : jMe := (jN m, jT m, jK m, jZ m, jI m, jup (jL m) a i x, jP m)
def jsP (m : jMe) (a i : Nat) (x : Nat) : jMe := (jN m, jT m, jK m, jZ m, jI m, jL m, jup (jP m) a i x)
def jat {α : Type} (f : Nat → α) (a : Nat) (x : α) : Nat → α := fun b => if b = a then x else f b
/-- a new cell: of kind k, with z places (a row), n slots -/
def jnew (m : jMe) (k z n : Nat) : jMe := (jN m + 1, jT m + n, jat (jK m) (32 + jN m) k, jat (jZ m) (32 + jN m) z, jat (jI m) (32 + jN m) (fun _ => 0), jat (jL m) (32 + jN m) (fun _ => 0), jat (jP m) (32 + jN m) (fun _ => 0))
/-- n places of ints, or longs, of a from i on come to b from j on -/
def jcpI (m : jMe) (a i b j n : Nat) : jMe := (jN m, jT m, jK m, jZ m, jat (jI m) b (va_cpy (jI m a) (jI m b) i j n), jL m, jP m)
def jcpL (m : jMe) (a i b j n : Nat) : jMe := (jN m, jT m, jK m, jZ m, jI m, jat (jL m) b (va_cpy (jL m a) (jL m b) i j n), jP m)
/-- a new row like another row of ints -/
def jdup (m : jMe) (a : Nat) : jMe := (jN m + 1, jT m + jZ m a, jat (jK m) (32 + jN m) (jK m a), jat (jZ m) (32 + jN m) (jZ m a), jat (jI m) (32 + jN m) (jI m a), jat (jL m) (32 + jN m) (jL m a), jat (jP m) (32 + jN m) (jP m a))
/-- what is given: of the worlds (va_G), the classes of rows, the addresses, what holds of the cells that were there before, and what these are (kinds, sizes, ints) -/
abbrev jX : Type := va_G × (Nat → ClassId) × (Nat → Nat) × (State → Prop) × (Nat → Nat) × (Nat → Nat) × (Nat → Nat → Int32)
def jad (X : jX) : Nat → Nat := X.2.2.1
def jv (X : jX) : jAV → Value
  | .inl i => .int i
  | .inr (.inl l) => .long l
  | .inr (.inr n) => if n = 0 then .null else .ref (jad X n)
def jcat : jAV → Nat
  | .inr (.inl _) => 2
  | _ => 1
theorem jv_cat (X : jX) (a : jAV) : (jv X a).category = jcat a := by
  rcases a with i | l | n
  · rfl
  · rfl
  · show (if n = 0 then Value.null else .ref (jad X n)).category = 1
    split <;> rfl
def jty (c k : Nat) : FieldType := match c with
  | 0 => tyX0 k
  | 1 => tyX1 k
  | 2 => tyX2 k
  | 3 => tyX3 k
  | 4 => tyX4 k
  | 5 => tyX5 k
  | 6 => tyX6 k
  | 7 => tyX7 k
  | 8 => tyX8 k
  | 9 => tyX9 k
  | _ => tyX10 k
def jTT (c : Nat) : u_T := match c with
  | 0 => TX0
  | 1 => TX1
  | 2 => TX2
  | 3 => TX3
  | 4 => TX4
  | 5 => TX5
  | 6 => TX6
  | 7 => TX7
  | 8 => TX8
  | 9 => TX9
  | _ => TX10
def jRR (c : Nat) : String := match c with
  | 0 => RX0
  | 1 => RX1
  | 2 => RX2
  | 3 => RX3
  | 4 => RX4
  | 5 => RX5
  | 6 => RX6
  | 7 => RX7
  | 8 => RX8
  | 9 => RX9
  | _ => RX10
def jnf (c : Nat) : Nat := match c with
  | 0 => 1
  | 1 => 7
  | 2 => 18
  | 3 => 9
  | 4 => 7
  | 5 => 3
  | 6 => 3
  | 7 => 2
  | 8 => 8
  | 9 => 16
  | _ => 60
/-- of a field: 0 an int, 1 a long, 2 a reference, 3 a boolean -/
def jtc (t : FieldType) : Nat := match t with
  | .int => 0
  | .long => 1
  | .object _ => 2
  | .array _ => 2
  | _ => 3
abbrev jcl : List vw_C := [(RX0, TX0, 1), (RX1, TX1, 7), (RX2, TX2, 18), (RX3, TX3, 9), (RX4, TX4, 7), (RX5, TX5, 3), (RX6, TX6, 3), (RX7, TX7, 2), (RX8, TX8, 8), (RX9, TX9, 16), (RX10, TX10, 60)]
theorem jcl_at {c : Nat} (h : c < 11) : jcl[c]? = some (jRR c, jTT c, jnf c) := by
  match c, h with
  | 0, _ | 1, _ | 2, _ | 3, _ | 4, _ | 5, _ | 6, _ | 7, _ | 8, _ | 9, _ | 10, _ => rfl
theorem jty_ok {c : Nat} (h : c < 11) : ∀ k, k < jnf c → parseFieldDescriptor (jTT c k).2.2.1 = some (jty c k) := by
  match c, h with
  | 0, _ => exact tyX0_ok
  | 1, _ => exact tyX1_ok
  | 2, _ => exact tyX2_ok
  | 3, _ => exact tyX3_ok
  | 4, _ => exact tyX4_ok
  | 5, _ => exact tyX5_ok
  | 6, _ => exact tyX6_ok
  | 7, _ => exact tyX7_ok
  | 8, _ => exact tyX8_ok
  | 9, _ => exact tyX9_ok
  | 10, _ => exact tyX10_ok
theorem jnm_ok {c : Nat} (h : c < 11) : ∀ a, a < jnf c → ∀ b, b < jnf c → a ≠ b → (jTT c a).2.1 ≠ (jTT c b).2.1 := by
  match c, h with
  | 0, _ => exact nmX0
  | 1, _ => exact nmX1
  | 2, _ => exact nmX2
  | 3, _ => exact nmX3
  | 4, _ => exact nmX4
  | 5, _ => exact nmX5
  | 6, _ => exact nmX6
  | 7, _ => exact nmX7
  | 8, _ => exact nmX8
  | 9, _ => exact nmX9
  | 10, _ => exact nmX10
theorem jin_all : ((List.range 11).all fun c => (u_ws (jRR c) (jTT c) (jnf c)).all fun w => decide (w ∈ jW)) = true := by decide +kernel
theorem jin_ok {c : Nat} (h : c < 11) : ∀ w ∈ u_ws (jRR c) (jTT c) (jnf c), w ∈ jW := by
  intro w hw
  have h1 := List.all_eq_true.mp jin_all c (List.mem_range.mpr h)
  exact of_decide_eq_true (List.all_eq_true.mp h1 w hw)
def jfv (X : jX) (m : jMe) (a c k : Nat) : Value := match jtc (jty c k) with
  | 1 => .long (jL m a k)
  | 2 => jv X (.inr (.inr (jP m a k)))
  | _ => .int (jI m a k)
def jcell (X : jX) (m : jMe) (a : Nat) : va_E :=
  if jK m a = 2 then .inl (X.2.1 2, jZ m a, .inr (.inl (jL m a)))
  else if jK m a = 5 ∨ jK m a = 6 ∨ jK m a = 7 then .inl (X.2.1 (jK m a), jZ m a, .inr (.inr (.inr (.inr (fun i => if jP m a i = 0 then none else some (jad X (jP m a i)))))))
  else if jK m a < 32 then .inl (X.2.1 (jK m a), jZ m a, .inl (jI m a))
  else .inr (jK m a - 32, (List.range (jnf (jK m a - 32))).map (jfv X m a (jK m a - 32)))
def jws (X : jX) (m : jMe) : va_W := (List.range (jN m)).map fun j => (jad X (32 + j), jcell X m (32 + j))
def jtys (X : jX) : List (ClassId × FieldType) := [(X.2.1 0, .int), (X.2.1 1, .int), (X.2.1 2, .long), (X.2.1 3, .char), (X.2.1 4, .boolean), (X.2.1 5, .object RX4), (X.2.1 6, .object RX7), (X.2.1 7, .object RX5)]
/-- a cell that can be used: it is one of ours, or was there before -/
def jA (X : jX) : Nat → Prop := fun q => jad X 32 ≤ q
theorem jws_at {X : jX} {m : jMe} {j : Nat} (h : j < jN m) : (jws X m)[j]? = some (jad X (32 + j), jcell X m (32 + j)) := by
  simp [jws, h]
theorem jws_in {X : jX} {m : jMe} {j : Nat} {q : Nat × va_E} (h : (jws X m)[j]? = some q) : j < jN m ∧ q = (jad X (32 + j), jcell X m (32 + j)) := by
  have hl := (List.getElem?_eq_some_iff.mp h).1
  have hl : j < jN m := by simpa [jws] using hl
  rw [jws_at hl] at h
  exact ⟨hl, (Option.some.inj h).symm⟩
theorem jws_D {X : jX} {m : jMe} (hX : ∀ j, jad X (32 + j) = jad X 32 + j) : va_D (jA X) (jws X m) := by
  refine ⟨fun i j p q hi hj e => ?_, fun k q hk => ?_⟩
  · obtain ⟨-, rfl⟩ := jws_in hi
    obtain ⟨-, rfl⟩ := jws_in hj
    have e : jad X (32 + i) = jad X (32 + j) := e
    rw [hX i, hX j] at e
    omega
  · obtain ⟨-, rfl⟩ := jws_in hk
    show jad X 32 ≤ jad X (32 + k)
    rw [hX k]
    omega
theorem jcell_congr {X : jX} {m m' : jMe} {a : Nat} (hK : jK m' a = jK m a) (hZ : jZ m' a = jZ m a) (hI : jI m' a = jI m a) (hL : jL m' a = jL m a) (hP : jP m' a = jP m a) : jcell X m' a = jcell X m a := by
  unfold jcell jfv
  rw [hK, hZ, hI, hL, hP]
/-- one cell of a world is another one: the world of the memory in which it is -/
theorem jws_set {X : jX} {m m' : jMe} {a : Nat} {e : va_E} (ha : 32 ≤ a) (hN : jN m' = jN m) (hK : jK m' = jK m) (hZ : jZ m' = jZ m) (hI : ∀ b, b ≠ a → jI m' b = jI m b) (hL : ∀ b, b ≠ a → jL m' b = jL m b) (hP : ∀ b, b ≠ a → jP m' b = jP m b) (he : jcell X m' a = e) : (jws X m).set (a - 32) (jad X a, e) = jws X m' := by
  apply List.ext_getElem?
  intro j
  by_cases hj : j < jN m
  · rw [jws_at (by rw [hN]; exact hj)]
    by_cases hja : j = a - 32
    · subst hja
      rw [List.getElem?_set_self (by simp [jws]; exact hj), show 32 + (a - 32) = a by omega, he]
    · rw [List.getElem?_set_ne (Ne.symm hja), jws_at hj]
      have hb : 32 + j ≠ a := by omega
      rw [jcell_congr (by rw [hK]) (by rw [hZ]) (hI _ hb) (hL _ hb) (hP _ hb)]
  · have h1 : (jws X m').length ≤ j := by simp [jws]; omega
    have h2 : ((jws X m).set (a - 32) (jad X a, e)).length ≤ j := by simp [jws]; omega
    rw [List.getElem?_eq_none h1, List.getElem?_eq_none h2]
/-- one cell more behind -/
theorem jws_push {X : jX} {m m' : jMe} {e : va_E} (hN : jN m' = jN m + 1) (h : ∀ b, b ≠ 32 + jN m → jcell X m' b = jcell X m b) (he : jcell X m' (32 + jN m) = e) : jws X m ++ [(jad X (32 + jN m), e)] = jws X m' := by
  apply List.ext_getElem?
  intro j
  by_cases hj : j < jN m
  · rw [List.getElem?_append_left (by simp [jws]; exact hj), jws_at hj, jws_at (by omega), h _ (by omega)]
  · by_cases hj2 : j = jN m
    · subst hj2
      rw [List.getElem?_append_right (by simp [jws]), jws_at (by omega), he]
      simp [jws]
    · rw [List.getElem?_eq_none (by simp [jws]; omega), List.getElem?_eq_none (by simp [jws]; omega)]
theorem jcell_i {X : jX} {m : jMe} {a k : Nat} (h : jK m a = k) (hk : k = 1 ∨ k = 3 ∨ k = 4) : jcell X m a = .inl (X.2.1 k, jZ m a, .inl (jI m a)) := by
  unfold jcell
  rw [h]
  rcases hk with rfl | rfl | rfl <;> rfl
theorem jcell_l {X : jX} {m : jMe} {a : Nat} (h : jK m a = 2) : jcell X m a = .inl (X.2.1 2, jZ m a, .inr (.inl (jL m a))) := by
  unfold jcell
  rw [h]
  rfl
theorem jcell_q {X : jX} {m : jMe} {a k : Nat} (h : jK m a = k) (hk : k = 5 ∨ k = 6 ∨ k = 7) : jcell X m a = .inl (X.2.1 k, jZ m a, .inr (.inr (.inr (.inr (fun i => if jP m a i = 0 then none else some (jad X (jP m a i))))))) := by
  unfold jcell
  rw [h]
  rcases hk with rfl | rfl | rfl <;> rfl
theorem jcell_o {X : jX} {m : jMe} {a c : Nat} (h : jK m a = 32 + c) : jcell X m a = .inr (c, (List.range (jnf c)).map (jfv X m a c)) := by
  unfold jcell
  rw [h, if_neg (by omega), if_neg (by omega), if_neg (by omega), show 32 + c - 32 = c by omega]
theorem jfs_get {X : jX} {m : jMe} {a c k : Nat} (h : k < jnf c) : ((List.range (jnf c)).map (jfv X m a c))[k]? = some (jfv X m a c k) := by
  simp [h]
theorem jfs_set {X : jX} {m m' : jMe} {a c k : Nat} {v : Value} (h : k < jnf c) (h1 : jfv X m' a c k = v) (h2 : ∀ j, j ≠ k → jfv X m' a c j = jfv X m a c j) : ((List.range (jnf c)).map (jfv X m a c)).set k v = (List.range (jnf c)).map (jfv X m' a c) := by
  apply List.ext_getElem?
  intro j
  by_cases hj : j < jnf c
  · by_cases hk : j = k
    · subst hk
      rw [List.getElem?_set_self (by simp; exact hj), jfs_get hj, h1]
    · rw [List.getElem?_set_ne (Ne.symm hk), jfs_get hj, jfs_get hj, h2 j hk]
  · rw [List.getElem?_eq_none (by simp; omega), List.getElem?_eq_none (by simp; omega)]
theorem jup_at {α : Type} (f : Nat → Nat → α) (a i : Nat) (x : α) : jup f a i x a = fun j => if j = i then x else f a j := by
  funext j
  simp [jup]
theorem jup_ne {α : Type} (f : Nat → Nat → α) {a b : Nat} (i : Nat) (x : α) (h : b ≠ a) : jup f a i x b = f b := by
  funext j
  simp [jup, h]
theorem jat_self {α : Type} (f : Nat → α) (a : Nat) (x : α) : jat f a x a = x := by simp [jat]
theorem jat_ne {α : Type} (f : Nat → α) {a b : Nat} (x : α) (h : b ≠ a) : jat f a x b = f b := by simp [jat, h]
