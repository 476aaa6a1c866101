/-! frames that mind places, too -/
def jfx (S : Nat → Nat → Prop) (m m' : jMe) : Prop := jN m' = jN m ∧ jT m' = jT m ∧ jK m' = jK m ∧ jZ m' = jZ m ∧ jP m' = jP m ∧ (∀ a i, ¬ S a i → jI m' a i = jI m a i) ∧ (∀ a i, ¬ S a i → jL m' a i = jL m a i)
theorem jfx.rfl {S : Nat → Nat → Prop} {m : jMe} : jfx S m m := ⟨Eq.refl _, Eq.refl _, Eq.refl _, Eq.refl _, Eq.refl _, fun _ _ _ => Eq.refl _, fun _ _ _ => Eq.refl _⟩
theorem jfx.trans {S : Nat → Nat → Prop} {m m' m'' : jMe} (h : jfx S m m') (k : jfx S m' m'') : jfx S m m'' :=
  ⟨k.1.trans h.1, k.2.1.trans h.2.1, k.2.2.1.trans h.2.2.1, k.2.2.2.1.trans h.2.2.2.1, k.2.2.2.2.1.trans h.2.2.2.2.1, fun a i ha => (k.2.2.2.2.2.1 a i ha).trans (h.2.2.2.2.2.1 a i ha), fun a i ha => (k.2.2.2.2.2.2 a i ha).trans (h.2.2.2.2.2.2 a i ha)⟩
theorem jfx.weak {S S' : Nat → Nat → Prop} {m m' : jMe} (h : jfx S m m') (k : ∀ a i, S a i → S' a i) : jfx S' m m' :=
  ⟨h.1, h.2.1, h.2.2.1, h.2.2.2.1, h.2.2.2.2.1, fun a i ha => h.2.2.2.2.2.1 a i (fun q => ha (k a i q)), fun a i ha => h.2.2.2.2.2.2 a i (fun q => ha (k a i q))⟩
theorem jfx.K {S : Nat → Nat → Prop} {m m' : jMe} (h : jfx S m m') : jK m' = jK m := h.2.2.1
theorem jfx.Z {S : Nat → Nat → Prop} {m m' : jMe} (h : jfx S m m') : jZ m' = jZ m := h.2.2.2.1
theorem jfx.P {S : Nat → Nat → Prop} {m m' : jMe} (h : jfx S m m') : jP m' = jP m := h.2.2.2.2.1
theorem jfx.I {S : Nat → Nat → Prop} {m m' : jMe} (h : jfx S m m') {a i : Nat} (k : ¬ S a i) : jI m' a i = jI m a i := h.2.2.2.2.2.1 a i k
theorem jfx.L {S : Nat → Nat → Prop} {m m' : jMe} (h : jfx S m m') {a i : Nat} (k : ¬ S a i) : jL m' a i = jL m a i := h.2.2.2.2.2.2 a i k
theorem jsI_g {m : jMe} {a i b j : Nat} {x : Int32} : jI (jsI m a i x) b j = if b = a ∧ j = i then x else jI m b j := Eq.trans (Eq.refl _) (Eq.refl _)
theorem jsL_g {m : jMe} {a i b j : Nat} {x : Int64} : jL (jsL m a i x) b j = if b = a ∧ j = i then x else jL m b j := Eq.trans (Eq.refl _) (Eq.refl _)
theorem jfx_I {S : Nat → Nat → Prop} {m : jMe} {a i : Nat} {x : Int32} (h : S a i) : jfx S m (jsI m a i x) :=
  ⟨Eq.refl _, Eq.refl _, Eq.refl _, Eq.refl _, Eq.refl _, fun b j hb => by rw [jsI_g, if_neg (fun e => hb (by rw [e.1, e.2]; exact h))], fun _ _ _ => Eq.refl _⟩
theorem jfx_L {S : Nat → Nat → Prop} {m : jMe} {a i : Nat} {x : Int64} (h : S a i) : jfx S m (jsL m a i x) :=
  ⟨Eq.refl _, Eq.refl _, Eq.refl _, Eq.refl _, Eq.refl _, fun _ _ _ => Eq.refl _, fun b j hb => by rw [jsL_g, if_neg (fun e => hb (by rw [e.1, e.2]; exact h))]⟩
theorem jfx_fr {S : Nat → Nat → Prop} {P : Nat → Prop} {m m' : jMe} (h : jfx S m m') (k : ∀ a i, S a i → P a) : jfr P m m' :=
  ⟨h.1, h.2.1, h.2.2.1, h.2.2.2.1, h.2.2.2.2.1, fun a ha => by funext i; exact h.I (fun q => ha (k a i q)), fun a ha => by funext i; exact h.L (fun q => ha (k a i q))⟩
theorem jfr_fx {S : Nat → Nat → Prop} {P : Nat → Prop} {m m' : jMe} (h : jfr P m m') (k : ∀ a i, P a → S a i) : jfx S m m' :=
  ⟨h.1, h.2.1, h.2.2.1, h.2.2.2.1, h.2.2.2.2.1, fun a i ha => by rw [h.2.2.2.2.2.1 a (fun q => ha (k a i q))], fun a i ha => by rw [h.2.2.2.2.2.2 a (fun q => ha (k a i q))]⟩
/-! texts, as they are thought of: bytes b, n of them; read once, into steps -/
/-- behind blanks from i on -/
def jzb (b : Nat → Nat) (n : Nat) : Nat → Nat → Nat
  | 0, i => i
  | t + 1, i => if i < n ∧ (b i = 32 ∨ b i = 10) then jzb b n t (i + 1) else i
/-- behind bytes of lo .. hi from i on -/
def jze (lo hi : Nat) (b : Nat → Nat) (n : Nat) : Nat → Nat → Nat
  | 0, i => i
  | t + 1, i => if i < n ∧ lo ≤ b i ∧ b i ≤ hi then jze lo hi b n t (i + 1) else i
def jzv (b : Nat → Nat) : Nat → Nat → Nat → Nat
  | 0, _, v => v
  | t + 1, i, v => jzv b t (i + 1) (v * 10 + (b i - 48))
/-- whether the word from p to q is l -/
def jzw (b : Nat → Nat) (p q : Nat) (l : List Nat) : Bool := decide (q - p = l.length) && (List.range l.length).all fun i => b (p + i) == l.getD i 0
/-- which word: a token, a number (0: none) -/
def jzn (b : Nat → Nat) (p q : Nat) : Nat × Nat :=
  if q - p = 1 ∧ b p ≤ 102 then (3, b p - 97) else if jzw b p q [114, 111, 119] = true then (3, 6) else if jzw b p q [102, 114, 111, 109] = true then (3, 7)
  else if jzw b p q [99, 111, 112, 105, 101, 115] = true then (3, 8) else if jzw b p q [102, 105, 116, 115] = true then (4, 0) else if jzw b p q [111, 114] = true then (5, 0)
  else if jzw b p q [97, 110, 100] = true then (6, 0) else if jzw b p q [110, 111, 116] = true then (7, 0) else (0, 0)
/-- a token: what it is (1 end, 2 number, 3 name, 4 .. 7 keys, else the sign), its number, its place, the next one's -/
abbrev jS0 : Type := Nat × Nat × Nat × Nat
def jzg (c : Nat) : Bool := decide (c = 40) || decide (c = 41) || decide (c = 59) || decide (c = 43) || decide (c = 45) || decide (c = 42) || decide (c = 37) || decide (c = 60) || decide (c = 61)
def jztw (b : Nat → Nat) (p q : Nat) : Nat ⊕ jS0 := if (jzn b p q).1 = 0 then .inl p else .inr ((jzn b p q).1, (jzn b p q).2, p, q)
def jztn (b : Nat → Nat) (p q : Nat) : Nat ⊕ jS0 := if 4 < q - p then .inl p else .inr (2, jzv b (q - p) p 0, p, q)
def jzt (b : Nat → Nat) (n p : Nat) : Nat ⊕ jS0 :=
  if n ≤ p then .inr (1, 0, p, p) else if 97 ≤ b p ∧ b p ≤ 122 then jztw b p (jze 97 122 b n (n - p) p)
  else if 48 ≤ b p ∧ b p ≤ 57 then jztn b p (jze 48 57 b n (n - p) p) else if jzg (b p) = true then .inr (b p, 0, p, p + 1) else .inl p
/-- the token from i on; a fault -/
def jzs (b : Nat → Nat) (n i : Nat) : Nat ⊕ jS0 := jzt b n (jzb b n (n - i) i)
abbrev jzR : Type := Nat ⊕ (jS0 × List Int32)
def jzbd {α β : Type} (x : Nat ⊕ α) (f : α → Nat ⊕ β) : Nat ⊕ β := match x with
  | .inl p => .inl p
  | .inr a => f a
def jzop (lv tk : Nat) : Option Nat :=
  if lv = 0 then (if tk = 5 then some 11 else none) else if lv = 1 then (if tk = 6 then some 10 else none)
  else if lv = 4 then (if tk = 43 then some 4 else if tk = 45 then some 5 else none) else if lv = 5 then (if tk = 42 then some 6 else if tk = 37 then some 7 else none) else none
def jzl (st : Nat → Nat ⊕ jS0) (sub : jS0 → jzR) (lv : Nat) : Nat → jS0 → jzR
  | 0, s => .inr (s, [])
  | n + 1, s => match jzop lv s.1 with
    | none => .inr (s, [])
    | some o => jzbd (st s.2.2.2) fun s1 => jzbd (sub s1) fun r => jzbd (jzl st sub lv n r.1) fun r2 => .inr (r2.1, r.2 ++ Int32.ofNat o :: r2.2)
/-- what stands from a token on: 0 or, 1 and, 2 not, 3 compared, 4 sum, 5 term, 6 one; op of ( not - are open -/
def jzp (st : Nat → Nat ⊕ jS0) : Nat → Nat → Nat → jS0 → jzR
  | 0, _, _, _ => .inl 0
  | k + 1, lv, op, s =>
    if lv = 0 ∨ lv = 1 ∨ lv = 4 ∨ lv = 5 then jzbd (jzp st k (lv + 1) op s) fun r => jzbd (jzl st (jzp st k (lv + 1) op) lv 160 r.1) fun r2 => .inr (r2.1, r.2 ++ r2.2)
    else if lv = 2 then (if s.1 = 7 then (if op < 5 then jzbd (st s.2.2.2) fun s1 => jzbd (jzp st k 2 (op + 1) s1) fun r => .inr (r.1, r.2 ++ [3]) else .inl s.2.2.1) else jzp st k 3 op s)
    else if lv = 3 then jzbd (jzp st k 4 op s) fun r => if r.1.1 = 60 ∨ r.1.1 = 61 then jzbd (st r.1.2.2.2) fun s1 => jzbd (jzp st k 4 op s1) fun r2 => .inr (r2.1, r.2 ++ (r2.2 ++ [if r.1.1 = 60 then 8 else 9])) else .inr r
    else if s.1 = 2 ∨ s.1 = 3 then jzbd (st s.2.2.2) fun s1 => .inr (s1, [Int32.ofNat (s.1 - 2 + 16 * s.2.1)])
    else if s.1 = 45 then (if op < 5 then jzbd (st s.2.2.2) fun s1 => jzbd (jzp st k 6 (op + 1) s1) fun r => .inr (r.1, r.2 ++ [2]) else .inl s.2.2.1)
    else if s.1 = 40 then (if op < 5 then jzbd (st s.2.2.2) fun s1 => jzbd (jzp st k 0 (op + 1) s1) fun r => if r.1.1 = 41 then jzbd (st r.1.2.2.2) fun s2 => .inr (s2, r.2) else .inl r.1.2.2.1 else .inl s.2.2.1)
    else .inl s.2.2.1
def jzx (st : Nat → Nat ⊕ jS0) (w : Nat) (s : jS0) : Nat ⊕ jS0 := if s.1 = w then (if w = 1 then .inr s else st s.2.2.2) else .inl s.2.2.1
/-- a text: its steps, or the place of its fault -/
def jzrd (b : Nat → Nat) (n : Nat) : Nat ⊕ List Int32 :=
  jzbd (jzs b n 0) fun s0 => jzbd (jzx (jzs b n) 4 s0) fun s1 => jzbd (jzp (jzs b n) 64 0 0 s1) fun r => jzbd (jzx (jzs b n) 59 r.1) fun s2 => jzbd (jzx (jzs b n) 1 s2) fun _ => .inr r.2
/-! what holds of tokens, of steps -/
theorem jzbd_r {α β : Type} {a : α} {f : α → Nat ⊕ β} : jzbd (.inr a) f = f a := Eq.trans (Eq.refl _) (Eq.refl _)
theorem jzbd_l {α β : Type} {p : Nat} {f : α → Nat ⊕ β} : jzbd (.inl p) f = .inl p := Eq.trans (Eq.refl _) (Eq.refl _)
theorem jzbd_some {α β : Type} {x : Nat ⊕ α} {f : α → Nat ⊕ β} {y : β} (h : jzbd x f = .inr y) : ∃ a, x = .inr a ∧ f a = .inr y := by
  cases x with
  | inl p => cases h
  | inr a => exact ⟨a, rfl, h⟩
/-- a token within a text of n bytes -/
def jzW (n : Nat) (s : jS0) : Prop := s.2.2.1 ≤ n ∧ s.2.2.2 ≤ n ∧ (s.1 ≠ 1 → s.2.2.1 < s.2.2.2) ∧ (s.1 = 1 → s.2.2.1 = n ∧ s.2.2.2 = n) ∧ s.1 < 256 ∧ s.2.1 < 10000
theorem jzb_le {b : Nat → Nat} {n : Nat} : ∀ (t i : Nat), i ≤ n → i ≤ jzb b n t i ∧ jzb b n t i ≤ n := by
  intro t
  induction t with
  | zero => intro i h; exact ⟨Nat.le_refl _, h⟩
  | succ t ih =>
    intro i h
    unfold jzb
    split
    · rename_i q
      have := ih (i + 1) (by omega)
      omega
    · exact ⟨Nat.le_refl _, h⟩
theorem jze_le {lo hi : Nat} {b : Nat → Nat} {n : Nat} : ∀ (t i : Nat), i ≤ n → i ≤ jze lo hi b n t i ∧ jze lo hi b n t i ≤ n := by
  intro t
  induction t with
  | zero => intro i h; exact ⟨Nat.le_refl _, h⟩
  | succ t ih =>
    intro i h
    unfold jze
    split
    · rename_i q
      have := ih (i + 1) (by omega)
      omega
    · exact ⟨Nat.le_refl _, h⟩
theorem jze_lt {lo hi : Nat} {b : Nat → Nat} {n i : Nat} (h : i < n) (h1 : lo ≤ b i) (h2 : b i ≤ hi) : i < jze lo hi b n (n - i) i := by
  obtain ⟨t, e⟩ : ∃ t, n - i = t + 1 := ⟨n - i - 1, by omega⟩
  rw [e]
  unfold jze
  rw [if_pos ⟨h, h1, h2⟩]
  have := jze_le (lo := lo) (hi := hi) (b := b) (n := n) t (i + 1) (by omega)
  omega
theorem jze_in {lo hi : Nat} {b : Nat → Nat} {n : Nat} : ∀ (t i j : Nat), i ≤ j → j < jze lo hi b n t i → lo ≤ b j ∧ b j ≤ hi := by
  intro t
  induction t with
  | zero => intro i j h1 h2; unfold jze at h2; omega
  | succ t ih =>
    intro i j h1 h2
    unfold jze at h2
    split at h2
    · rename_i q
      by_cases e : j = i
      · subst e; exact q.2
      · exact ih (i + 1) j (by omega) h2
    · omega
theorem jzv_lt {b : Nat → Nat} : ∀ (t i v : Nat), (∀ j, i ≤ j → j < i + t → b j ≤ 57) → jzv b t i v < (v + 1) * 10 ^ t := by
  intro t
  induction t with
  | zero => intro i v _; unfold jzv; omega
  | succ t ih =>
    intro i v h
    unfold jzv
    have h1 := h i (Nat.le_refl _) (by omega)
    have h2 := ih (i + 1) (v * 10 + (b i - 48)) (fun j a c => h j (by omega) (by omega))
    have h3 : (v * 10 + (b i - 48) + 1) * 10 ^ t ≤ ((v + 1) * 10) * 10 ^ t := Nat.mul_le_mul_right _ (by omega)
    have h4 : (v + 1) * 10 ^ (t + 1) = ((v + 1) * 10) * 10 ^ t := by rw [Nat.pow_succ, Nat.mul_assoc, Nat.mul_comm (10 ^ t) 10]
    omega
theorem jzn_lt {b : Nat → Nat} {p q : Nat} (h : 97 ≤ b p) : (jzn b p q).1 < 8 ∧ (jzn b p q).2 < 10 ∧ (jzn b p q).1 ≠ 1 ∧ (jzn b p q).1 ≠ 2 := by
  unfold jzn
  split
  · rename_i h1
    exact ⟨by show 3 < 8; omega, by show b p - 97 < 10; omega, by show 3 ≠ 1; omega, by show 3 ≠ 2; omega⟩
  repeat' split
  all_goals decide
theorem jzt_W {b : Nat → Nat} {n p : Nat} (hp : p ≤ n) {s : jS0} (h : jzt b n p = .inr s) : jzW n s ∧ s.2.2.1 = p := by
  unfold jzt at h
  split at h
  · rename_i h1
    cases h
    exact ⟨⟨hp, hp, fun h => absurd rfl h, fun _ => ⟨by show p = n; omega, by show p = n; omega⟩, by show 1 < 256; omega, by show 0 < 10000; omega⟩, rfl⟩
  · rename_i h1
    split at h
    · rename_i h2
      unfold jztw at h
      split at h
      · cases h
      · have hl := jze_lt (b := b) (n := n) (i := p) (by omega) h2.1 h2.2
        have hm := jze_le (lo := 97) (hi := 122) (b := b) (n := n) (n - p) p hp
        have hn := jzn_lt (b := b) (p := p) (q := jze 97 122 b n (n - p) p) h2.1
        cases h
        exact ⟨⟨hp, hm.2, fun _ => hl, fun e => absurd e hn.2.2.1, Nat.lt_of_lt_of_le hn.1 (by decide), Nat.lt_of_lt_of_le hn.2.1 (by decide)⟩, rfl⟩
    · split at h
      · rename_i h2
        unfold jztn at h
        split at h
        · cases h
        · rename_i h3
          have hl := jze_lt (b := b) (n := n) (i := p) (by omega) h2.1 h2.2
          have hm := jze_le (lo := 48) (hi := 57) (b := b) (n := n) (n - p) p hp
          have hv := jzv_lt (b := b) (jze 48 57 b n (n - p) p - p) p 0 (fun j a c => (jze_in (lo := 48) (hi := 57) (b := b) (n := n) (n - p) p j a (by omega)).2)
          have hv2 : 10 ^ (jze 48 57 b n (n - p) p - p) ≤ 10 ^ 4 := Nat.pow_le_pow_right (by omega) (by omega)
          cases h
          exact ⟨⟨hp, hm.2, fun _ => hl, fun e => absurd (show (2 : Nat) = 1 from e) (by decide), by show 2 < 256; omega, by show jzv b _ p 0 < 10000; omega⟩, rfl⟩
      · split at h
        · rename_i h2
          have h3 : b p < 256 ∧ b p ≠ 1 := by
            unfold jzg at h2
            simp only [Bool.or_eq_true, decide_eq_true_eq] at h2
            omega
          cases h
          exact ⟨⟨hp, by show p + 1 ≤ n; omega, fun _ => by show p < p + 1; omega, fun e => absurd e h3.2, h3.1, by show 0 < 10000; omega⟩, rfl⟩
        · cases h
theorem jzs_W {b : Nat → Nat} {n i : Nat} (hi : i ≤ n) {s : jS0} (h : jzs b n i = .inr s) : jzW n s ∧ i ≤ s.2.2.1 := by
  unfold jzs at h
  have h1 := jzb_le (b := b) (n := n) (n - i) i hi
  have h2 := jzt_W h1.2 h
  exact ⟨h2.1, by rw [h2.2]; exact h1.1⟩
/-- steps come out of bytes: no more than these -/
def jzM (n : Nat) (h : jS0 → jzR) : Prop := ∀ s, jzW n s → ∀ r, h s = .inr r → jzW n r.1 ∧ s.2.2.1 + r.2.length ≤ r.1.2.2.1
def jzMs (n : Nat) (st : Nat → Nat ⊕ jS0) : Prop := ∀ i, i ≤ n → ∀ s, st i = .inr s → jzW n s ∧ i ≤ s.2.2.1
theorem jzop_1 {lv tk o : Nat} (h : jzop lv tk = some o) : tk ≠ 1 ∧ o < 16 := by
  unfold jzop at h
  repeat' split at h
  all_goals first | (cases h; done) | (cases h; omega)
theorem jzl_M {n lv : Nat} {st : Nat → Nat ⊕ jS0} {sub : jS0 → jzR} (hs : jzMs n st) (hb : jzM n sub) : ∀ t, jzM n (jzl st sub lv t) := by
  intro t
  induction t with
  | zero =>
    intro s hw r h
    cases h
    exact ⟨hw, Nat.le_refl _⟩
  | succ t ih =>
    intro s hw r h
    unfold jzl at h
    split at h
    · cases h
      exact ⟨hw, Nat.le_refl _⟩
    · rename_i o ho
      obtain ⟨s1, e1, h⟩ := jzbd_some h
      obtain ⟨r1, e2, h⟩ := jzbd_some h
      obtain ⟨r2, e3, h⟩ := jzbd_some h
      cases h
      obtain ⟨a1, a2⟩ := hs _ hw.2.1 _ e1
      obtain ⟨b1, b2⟩ := hb _ a1 _ e2
      obtain ⟨c1, c2⟩ := ih _ b1 _ e3
      have := hw.2.2.1 (jzop_1 ho).1
      refine ⟨c1, ?_⟩
      simp only [List.length_append, List.length_cons]
      omega
theorem jzp_M {n : Nat} {st : Nat → Nat ⊕ jS0} (hs : jzMs n st) : ∀ k lv op, jzM n (jzp st k lv op) := by
  intro k
  induction k with
  | zero => intro lv op s _ r h; cases h
  | succ k ih =>
    intro lv op s hw r h
    unfold jzp at h
    split at h
    · obtain ⟨r1, e1, h⟩ := jzbd_some h
      obtain ⟨r2, e2, h⟩ := jzbd_some h
      cases h
      obtain ⟨a1, a2⟩ := ih _ _ _ hw _ e1
      obtain ⟨b1, b2⟩ := jzl_M hs (ih _ _) 160 _ a1 _ e2
      refine ⟨b1, ?_⟩
      simp only [List.length_append]
      omega
    split at h
    · split at h
      · rename_i h7
        split at h
        · obtain ⟨s1, e1, h⟩ := jzbd_some h
          obtain ⟨r1, e2, h⟩ := jzbd_some h
          cases h
          obtain ⟨a1, a2⟩ := hs _ hw.2.1 _ e1
          obtain ⟨b1, b2⟩ := ih _ _ _ a1 _ e2
          have := hw.2.2.1 (by omega)
          refine ⟨b1, ?_⟩
          simp only [List.length_append, List.length_cons, List.length_nil]
          omega
        · cases h
      · exact ih _ _ _ hw _ h
    split at h
    · obtain ⟨r1, e1, h⟩ := jzbd_some h
      obtain ⟨a1, a2⟩ := ih _ _ _ hw _ e1
      split at h
      · rename_i h6
        obtain ⟨s1, e2, h⟩ := jzbd_some h
        obtain ⟨r2, e3, h⟩ := jzbd_some h
        cases h
        obtain ⟨b1, b2⟩ := hs _ a1.2.1 _ e2
        obtain ⟨c1, c2⟩ := ih _ _ _ b1 _ e3
        have := a1.2.2.1 (by omega)
        refine ⟨c1, ?_⟩
        simp only [List.length_append, List.length_cons, List.length_nil]
        omega
      · cases h
        exact ⟨a1, a2⟩
    split at h
    · rename_i h2
      obtain ⟨s1, e1, h⟩ := jzbd_some h
      cases h
      obtain ⟨a1, a2⟩ := hs _ hw.2.1 _ e1
      have := hw.2.2.1 (by omega)
      refine ⟨a1, ?_⟩
      simp only [List.length_cons, List.length_nil]
      omega
    split at h
    · rename_i h2
      split at h
      · obtain ⟨s1, e1, h⟩ := jzbd_some h
        obtain ⟨r1, e2, h⟩ := jzbd_some h
        cases h
        obtain ⟨a1, a2⟩ := hs _ hw.2.1 _ e1
        obtain ⟨b1, b2⟩ := ih _ _ _ a1 _ e2
        have := hw.2.2.1 (by omega)
        refine ⟨b1, ?_⟩
        simp only [List.length_append, List.length_cons, List.length_nil]
        omega
      · cases h
    split at h
    · rename_i h2
      split at h
      · obtain ⟨s1, e1, h⟩ := jzbd_some h
        obtain ⟨r1, e2, h⟩ := jzbd_some h
        obtain ⟨a1, a2⟩ := hs _ hw.2.1 _ e1
        obtain ⟨b1, b2⟩ := ih _ _ _ a1 _ e2
        have := hw.2.2.1 (by omega)
        split at h
        · rename_i h4
          obtain ⟨s2, e3, h⟩ := jzbd_some h
          cases h
          obtain ⟨c1, c2⟩ := hs _ b1.2.1 _ e3
          have := b1.2.2.1 (by omega)
          refine ⟨c1, ?_⟩
          show s.2.2.1 + r1.2.length ≤ s2.2.2.1
          omega
        · cases h
      · cases h
    · cases h
theorem jzs_Ms {b : Nat → Nat} {n : Nat} : jzMs n (jzs b n) := fun _ hi _ h => jzs_W hi h
