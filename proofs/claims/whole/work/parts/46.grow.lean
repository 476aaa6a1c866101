/-! a tree is grown -/
theorem jlet_m {α β : Type} {e : α} {f : α → β} : jlet e f = f e := Eq.trans (Eq.refl _) (Eq.refl _)
/-- the kids of x, as bits -/
def jkidw : List (Nat × Nat) → Nat → Nat
  | [], _ => 0
  | p :: l, x => (if p.2 = x then 2 ^ p.1 else 0) ||| jkidw l x
theorem jkidw_lt : ∀ {l : List (Nat × Nat)} {x : Nat}, (∀ p, p ∈ l → p.1 < 4) → jkidw l x < 16 := by
  intro l
  induction l with
  | nil => intro x _; show 0 < 16; omega
  | cons p l ih =>
    intro x h
    unfold jkidw
    refine Nat.or_lt_two_pow (n := 4) ?_ (ih (fun q hq => h q (List.mem_cons_of_mem _ hq)))
    split
    · have h4 := h p (List.mem_cons_self ..)
      have := jp2 (i := p.1) (j := 3) (by omega)
      omega
    · decide
theorem jplc_lt {A : Nat → Nat} : ∀ {l : List (Nat × Nat)} {s s' : Nat}, jplc A l s s' → ∀ p, p ∈ l → p.1 < 4 := by
  intro l
  induction l with
  | nil => intro s s' _ p hp; cases hp
  | cons a l ih =>
    intro s s' h p hp
    rcases List.mem_cons.mp hp with rfl | hp
    · exact h.1
    · exact ih h.2.2.2.2.2.2 p hp
theorem jset_clr' {s k : Nat} (hs : s < 16) (hk : k < 0 + 4) : Int32.ofNat s &&& (Int32.ofNat (2 ^ k) ^^^ (-1 : Int32)) = Int32.ofNat (jclr s k) := by
  rw [← jshl_1 (by omega), jset_clr (by omega) (by omega)]
/-- cells of a tree at b -/
abbrev jLT (m : jMe) (b : Nat) : Prop := jK m b = 40 ∧ jP m b 0 = b + 1 ∧ jP m b 1 = b + 2 ∧ jP m b 2 = b + 3 ∧ jP m b 3 = b + 4 ∧ jK m (b + 1) = 1 ∧ jZ m (b + 1) = 4 ∧ jK m (b + 2) = 1 ∧ jZ m (b + 2) = 4 ∧ jK m (b + 3) = 1 ∧ jZ m (b + 3) = 4 ∧ jK m (b + 4) = 1 ∧ jZ m (b + 4) = 4
theorem jLT_of {m m' : jMe} {b : Nat} (hK : jK m' = jK m) (hZ : jZ m' = jZ m) (hP : jP m' = jP m) (h : jLT m b) : jLT m' b := by
  unfold jLT at h ⊢
  rw [hK, hZ, hP]
  exact h
/-- what may change as it is planted -/
def jSp (b : Nat) : Nat → Prop := fun a => a = b ∨ a = b + 1 ∨ a = b + 2 ∨ a = b + 3
section GROW
variable {F b : Nat} {A : Nat → Nat}
theorem q_takeOut {m : jMe} {r n : Nat} (hL : jLT m b) (hr : r < 4) (hn : jI m b 4 = Int32.ofNat n) (hn4 : n < 4) : c_X8_takeOut F m b (Int32.ofNat r) = some (jsI (jsI m (b + 3) n (Int32.ofNat r)) b 4 (Int32.ofNat (n + 1))) := by
  obtain ⟨l1, l2, l3, l4, l5, l6, l7, l8, l9, l10, l11, l12, l13⟩ := hL
  unfold c_X8_takeOut
  rw [if_neg (ji_ne1 (by omega)), jgd_t l1, hn, jl_4, if_neg (ji_len (by omega) (by omega) (by omega)), l4, jgd_t l10, l11, jgd_t (ji_int (by omega) (by omega)), ji_n (by omega), jsI_n (by omega), hn, jl_1, ji_add]
theorem q_plant_stop {m : jMe} {s a : Nat} {B : jMe → Nat → Int32 → Int32 → Option ((Int32 × jMe) ⊕ (jMe × Nat × Int32))} (hs : s < 16) (ha : a < 4) (hp : jpop 8 s ≤ 1) : c_X8_plant_l25_b F B m b (Int32.ofNat s) (Int32.ofNat a) = some (.inr (m, b, Int32.ofNat s)) := by
  have hpl := jpop_le 8 s
  unfold c_X8_plant_l25_b
  rw [jl_4, if_neg (ji_len (by omega) (by omega) (by omega)), jbitCount (by omega), jb_some, if_pos (show Int32.ofNat (jpop 8 s) ≤ (1 : Int32) from ji_lep (b := 1) (by omega) (by omega) hp)]
theorem q_plant_none (hF : 100 < F) (hA : ∀ q, q < 4 → A q < 64) {m : jMe} {s a : Nat} {B : jMe → Nat → Int32 → Int32 → Option ((Int32 × jMe) ⊕ (jMe × Nat × Int32))} (hL : jLT m b) (hm : ∀ q, q < 4 → s.testBit q = true → jI m (b + 4) q = Int32.ofNat (A q)) (hs : s < 16) (ha : a < 4) (hp : ¬ jpop 8 s ≤ 1) (er : jfear A s = none) : c_X8_plant_l25_b F B m b (Int32.ofNat s) (Int32.ofNat a) = some (.inl (0, m)) := by
  have hpl := jpop_le 8 s
  obtain ⟨l1, l2, l3, l4, l5, l6, l7, l8, l9, l10, l11, l12, l13⟩ := hL
  unfold c_X8_plant_l25_b
  rw [jl_4, if_neg (ji_len (by omega) (by omega) (by omega)), jbitCount (by omega), jb_some, if_neg (show ¬ Int32.ofNat (jpop 8 s) ≤ (1 : Int32) from ji_len (b := 1) (by omega) (by omega) hp), jgd_t l1, q_firstEar hF l1 l5 l12 l13 hA hm hs, jb_some, er, if_pos (show jo1 none = -1 from rfl)]
theorem q_plant_step (hF : 100 < F) (hA : ∀ q, q < 4 → A q < 64) {m : jMe} {s a r q n w : Nat} {B : jMe → Nat → Int32 → Int32 → Option ((Int32 × jMe) ⊕ (jMe × Nat × Int32))} (hL : jLT m b) (hm : ∀ q, q < 4 → s.testBit q = true → jI m (b + 4) q = Int32.ofNat (A q)) (hs : s < 16) (ha : a < 4) (hp : ¬ jpop 8 s ≤ 1) (er : jfear A s = some r) (eq : jstem A s r = some q) (hn : jI m b 4 = Int32.ofNat n) (hn4 : n < 4) (w1 : w < 16) (w2 : jI m (b + 2) q = Int32.ofNat w) : c_X8_plant_l25_b F B m b (Int32.ofNat s) (Int32.ofNat a) = B (jsI (jsI (jsI (jsI m (b + 1) r (Int32.ofNat q)) (b + 2) q (Int32.ofNat (w ||| 2 ^ r))) (b + 3) n (Int32.ofNat r)) b 4 (Int32.ofNat (n + 1))) b (Int32.ofNat (jclr s r)) (Int32.ofNat a + 1) := by
  have hpl := jpop_le 8 s
  have hL0 := hL
  obtain ⟨l1, l2, l3, l4, l5, l6, l7, l8, l9, l10, l11, l12, l13⟩ := hL
  obtain ⟨-, r1, r2, r3⟩ := jfef_in er
  obtain ⟨-, c1, c2, c3, c4⟩ := jstf_in eq
  have h2r := jp2 (i := r) (j := 3) (by omega)
  unfold c_X8_plant_l25_b
  rw [jl_4, if_neg (ji_len (by omega) (by omega) (by omega)), jbitCount (by omega), jb_some, if_neg (show ¬ Int32.ofNat (jpop 8 s) ≤ (1 : Int32) from ji_len (b := 1) (by omega) (by omega) hp), jgd_t l1, q_firstEar hF l1 l5 l12 l13 hA hm hs, jb_some, er]
  rw [if_neg (show ¬ jo1 (some r) = -1 by rw [jo1_ne (fun a h => by cases h; omega)]; simp)]
  rw [show jo1 (some r) = Int32.ofNat r from rfl, q_stemOf hF l1 l5 l12 l13 hA hm hs (by omega) r2, eq, jb_some, show jo1 (some q) = Int32.ofNat q from rfl]
  have e1 : ∀ x, jK (jsI m (b + 1) r x) = jK m := fun _ => rfl
  have e2 : ∀ x, jZ (jsI m (b + 1) r x) = jZ m := fun _ => rfl
  have e3 : ∀ x, jP (jsI m (b + 1) r x) = jP m := fun _ => rfl
  rw [l2, ji_n (show r < 2147483648 by omega), e3, l2, l3, jgd_t l6, l7, jgd_t (ji_int (by omega) (by omega)), jgd_t l6, jgd_t (ji_int (by omega) (by omega)), jgd_t l8, jsI_e, jupd_e, ji_n (show q < 2147483648 by omega), l9, jgd_t (ji_int (by omega) (by omega)), jgd_t (ji_int (by omega) (by omega)), jsI_n (by omega), w2, jshl_1 (by omega), jset_clr' hs r1, ji_or (by omega) (by omega), jlet_m]
  have hb1 : jI (jsI (jsI m (b + 1) r (Int32.ofNat q)) (b + 2) q (Int32.ofNat (w ||| 2 ^ r))) b = jI m b := by
    rw [jsI_n (by omega), jsI_n (by omega)]
  have hL1 : jLT (jsI (jsI m (b + 1) r (Int32.ofNat q)) (b + 2) q (Int32.ofNat (w ||| 2 ^ r))) b := jLT_of (m := m) rfl rfl rfl hL0
  rw [jgd_t hL1.1, q_takeOut hL1 (by omega) (by rw [hb1, hn]) hn4, jb_some]
theorem q_plant_l25 (hF : 100 < F) (hA : ∀ q, q < 4 → A q < 64) : ∀ (t s n g : Nat) (m : jMe), jLT m b → (∀ q, q < 4 → s.testBit q = true → jI m (b + 4) q = Int32.ofNat (A q)) → s < 16 → t < 4 → n + t < 4 → t < g → jI m b 4 = Int32.ofNat n → (∀ x, x < 4 → ∃ w, w < 16 ∧ jI m (b + 2) x = Int32.ofNat w) → ∃ z, c_X8_plant_l25 F g m b (Int32.ofNat s) (Int32.ofNat (4 - t)) = some z ∧ (match jplant A t s with
    | none => ∃ m', z = .inl (0, m') ∧ jfr (jSp b) m m' ∧ (∀ k, k ≠ 4 → k ≠ 5 → jI m' b k = jI m b k)
    | some p => ∃ m', z = .inr (m', b, Int32.ofNat p.2) ∧ jfr (jSp b) m m' ∧ (∀ k, k ≠ 4 → k ≠ 5 → jI m' b k = jI m b k) ∧ (∀ x, jI m' (b + 1) x = match jlk p.1 x with | some q => Int32.ofNat q | none => jI m (b + 1) x) ∧ (∀ x, x < 4 → jI m' (b + 2) x = jI m (b + 2) x ||| Int32.ofNat (jkidw p.1 x)) ∧ (∀ i, jI m' (b + 3) i = if n ≤ i ∧ i < n + p.1.length then Int32.ofNat ((p.1.map Prod.fst).getD (i - n) 0) else jI m (b + 3) i) ∧ jI m' b 4 = Int32.ofNat (n + p.1.length)) := by
  intro t
  induction t with
  | zero =>
    intro s n g m hL hm hs h4 hnt hg hn hk
    obtain ⟨g, rfl⟩ := jsucc hg
    refine ⟨.inr (m, b, Int32.ofNat s), ?_, m, rfl, jfr.rfl, fun _ _ _ => rfl, fun x => rfl, fun x hx => ?_, fun i => ?_, hn⟩
    · show c_X8_plant_l25_b F _ m b _ _ = _
      unfold c_X8_plant_l25_b
      rw [jl_4, if_pos (ji_lep (by omega) (by omega) (by omega))]
    · show _ = _ ||| (0 : Int32)
      rw [Int32.or_zero]
    · rw [if_neg]
      intro h
      have : i < n + 0 := h.2
      omega
  | succ t ih =>
    intro s n g m hL hm hs h4 hnt hg hn hk
    obtain ⟨g, rfl⟩ := jsucc hg
    have hL0 := hL
    have hst : ∀ z, c_X8_plant_l25_b F (fun m y0 y2 y3 => c_X8_plant_l25 F g m y0 y2 y3) m b (Int32.ofNat s) (Int32.ofNat (4 - (t + 1))) = z → c_X8_plant_l25 F (g + 1) m b (Int32.ofNat s) (Int32.ofNat (4 - (t + 1))) = z := fun z h => h
    unfold jplant
    by_cases q1 : jpop 8 s ≤ 1
    · rw [if_pos q1]
      refine ⟨_, hst _ (q_plant_stop hs (by omega) q1), m, rfl, jfr.rfl, fun _ _ _ => rfl, fun x => rfl, fun x hx => ?_, fun i => ?_, hn⟩
      · show _ = _ ||| (0 : Int32)
        rw [Int32.or_zero]
      · rw [if_neg]
        intro h
        have : i < n + 0 := h.2
        omega
    rw [if_neg q1]
    cases er : jfear A s with
    | none => exact ⟨_, hst _ (q_plant_none hF hA hL hm hs (by omega) q1 er), m, rfl, jfr.rfl, fun _ _ _ => rfl⟩
    | some r =>
      obtain ⟨-, r1, r2, r3⟩ := jfef_in er
      obtain ⟨q, eq⟩ := Option.isSome_iff_exists.mp r3
      obtain ⟨-, c1, c2, c3, c4⟩ := jstf_in eq
      obtain ⟨w, w1, w2⟩ := hk q (by omega)
      have hst2 := q_plant_step hF hA (B := fun m y0 y2 y3 => c_X8_plant_l25 F g m y0 y2 y3) hL hm hs (show 4 - (t + 1) < 4 by omega) q1 er eq hn (by omega) w1 w2
      have h2r := jp2 (i := r) (j := 3) (by omega)
      have w3 : w ||| 2 ^ r < 16 := Nat.or_lt_two_pow (n := 4) w1 (by omega)
      generalize hm1 : jsI (jsI m (b + 1) r (Int32.ofNat q)) (b + 2) q (Int32.ofNat (w ||| 2 ^ r)) = m1 at hst2
      have hf1 : jfr (jSp b) m m1 := by
        rw [← hm1]
        exact (jsI_f (S := jSp b) (Or.inr (Or.inl rfl))).trans (jsI_f (Or.inr (Or.inr (Or.inl rfl))))
      have hL1 : jLT m1 b := jLT_of hf1.2.2.1 hf1.2.2.2.1 hf1.2.2.2.2.1 hL0
      have hb1 : jI m1 b = jI m b := by
        rw [← hm1, jsI_n (by omega), jsI_n (by omega)]
      have hn1 : jI m1 b 4 = Int32.ofNat n := by
        rw [hb1, hn]
      generalize hm2 : jsI (jsI m1 (b + 3) n (Int32.ofNat r)) b 4 (Int32.ofNat (n + 1)) = m2 at hst2
      have hf2 : jfr (jSp b) m m2 := by
        rw [← hm2]
        exact hf1.trans ((jsI_f (S := jSp b) (Or.inr (Or.inr (Or.inr rfl)))).trans (jsI_f (Or.inl rfl)))
      have hL2 : jLT m2 b := jLT_of hf2.2.2.1 hf2.2.2.2.1 hf2.2.2.2.2.1 hL0
      have g0 : ∀ k, k ≠ 4 → jI m2 b k = jI m b k := by
        intro k hk
        rw [← hm2, jsI_e, jupd_n hk, jsI_n (by omega), hb1]
      have g1 : jI m2 (b + 1) = jupd (jI m (b + 1)) r (Int32.ofNat q) := by
        rw [← hm2, jsI_n (by omega), jsI_n (by omega), ← hm1, jsI_n (by omega), jsI_e]
      have g2 : jI m2 (b + 2) = jupd (jI m (b + 2)) q (Int32.ofNat (w ||| 2 ^ r)) := by
        rw [← hm2, jsI_n (by omega), jsI_n (by omega), ← hm1, jsI_e, jsI_n (by omega)]
      have g3 : jI m2 (b + 3) = jupd (jI m (b + 3)) n (Int32.ofNat r) := by
        rw [← hm2, jsI_n (by omega), jsI_e, ← hm1, jsI_n (by omega), jsI_n (by omega)]
      have g4 : jI m2 (b + 4) = jI m (b + 4) := hf2.2.2.2.2.2.1 _ (by unfold jSp; omega)
      obtain ⟨z, z1, z2⟩ := ih (jclr s r) (n + 1) g m2 hL2 (fun x hx hb => by
        rw [jclr_bit hs (by omega) hx, Bool.and_eq_true] at hb
        rw [g4, hm x hx hb.1]) (jclr_lt hs) (by omega) (by omega) (by omega) (by rw [← hm2, jsI_e, jupd_e]) (fun x hx => by
        rw [g2]
        by_cases e : x = q
        · rw [e, jupd_e]
          exact ⟨_, w3, rfl⟩
        · rw [jupd_n e]
          exact hk x hx)
      have hz : c_X8_plant_l25 F (g + 1) m b (Int32.ofNat s) (Int32.ofNat (4 - (t + 1))) = some z := by
        refine hst _ (hst2.trans ?_)
        rw [show Int32.ofNat (4 - (t + 1)) + 1 = Int32.ofNat (4 - t) by rw [show (1 : Int32) = Int32.ofNat 1 from rfl, ji_add, show 4 - (t + 1) + 1 = 4 - t by omega]]
        exact z1
      refine ⟨z, hz, ?_⟩
      dsimp only
      rw [eq]
      dsimp only
      cases ep : jplant A t (jclr s r) with
      | none =>
        rw [ep] at z2
        obtain ⟨m', y1, y2, y3⟩ := z2
        exact ⟨m', y1, hf2.trans y2, fun k k1 k2 => (y3 k k1 k2).trans (g0 k k1)⟩
      | some p =>
        rw [ep] at z2
        obtain ⟨m', y1, y2, y3, y4, y5, y6, y7⟩ := z2
        refine ⟨m', y1, hf2.trans y2, fun k k1 k2 => (y3 k k1 k2).trans (g0 k k1), fun x => ?_, fun x hx => ?_, fun i => ?_, ?_⟩
        · rw [y4, g1]
          show _ = match (match jlk p.1 x with | some q => some q | none => if r = x then some q else none) with | some q => Int32.ofNat q | none => jI m (b + 1) x
          cases jlk p.1 x with
          | some q => rfl
          | none =>
            by_cases e : r = x
            · subst e
              rw [if_pos rfl]
              exact jupd_e _ _ _
            · rw [if_neg e]
              exact jupd_n (Ne.symm e)
        · rw [y5 x hx, g2]
          show _ = _ ||| Int32.ofNat ((if q = x then 2 ^ r else 0) ||| jkidw p.1 x)
          have hkw : jkidw p.1 x < 16 := jkidw_lt (fun p' hp' => jplc_lt (jplant_c (jclr_lt hs) ep).1 _ hp')
          by_cases e : q = x
          · subst e
            rw [if_pos rfl, jupd_e, w2, ji_or (by omega) (by omega), ji_or (by omega) (by have := Nat.or_lt_two_pow (n := 4) (show 2 ^ r < 2 ^ 4 by omega) hkw; omega), Nat.or_assoc]
          · rw [if_neg e, jupd_n (Ne.symm e), Nat.zero_or]
        · rw [y6, g3]
          show _ = if n ≤ i ∧ i < n + (p.1.length + 1) then Int32.ofNat ((r :: p.1.map Prod.fst).getD (i - n) 0) else jI m (b + 3) i
          by_cases e : i = n
          · subst e
            rw [if_neg (by omega), if_pos (by omega), jupd_e, Nat.sub_self]
            rfl
          · rw [jupd_n e]
            by_cases e2 : n + 1 ≤ i ∧ i < n + 1 + p.1.length
            · rw [if_pos e2, if_pos (by omega), show i - n = (i - (n + 1)) + 1 by omega, List.getD_cons_succ]
            · rw [if_neg e2, if_neg (by omega)]
        · rw [y7]
          show Int32.ofNat (n + 1 + p.1.length) = Int32.ofNat (n + (p.1.length + 1))
          rw [show n + 1 + p.1.length = n + (p.1.length + 1) by omega]
/-- the first of a set -/
def jfst (s : Nat) : Nat → Nat → Option Nat
  | 0, _ => none
  | t + 1, a => if s.testBit a = true then some a else jfst s t (a + 1)
theorem jfst_lt {s x : Nat} (h : jfst s 4 0 = some x) : x < 4 := by
  have : ∀ (t a : Nat), jfst s t a = some x → x < a + t := by
    intro t
    induction t with
    | zero => intro a h; cases h
    | succ t ih =>
      intro a h
      unfold jfst at h
      split at h
      · cases h
        omega
      · have := ih (a + 1) h
        omega
  have := this 4 0 h
  omega
theorem q_plant_l114 {s : Nat} (hs : s < 16) : ∀ (t a g : Nat) (m : jMe) (o : Option Nat), jLT m b → a + t = 4 → t < g → jI m b 5 = jo1 o → (∀ x, o = some x → x < 4) → ∃ m', c_X8_plant_l114 F g m b (Int32.ofNat s) (Int32.ofNat a) = some (m', b) ∧ jfr (· = b) m m' ∧ (∀ k, k ≠ 5 → jI m' b k = jI m b k) ∧ jI m' b 5 = jo1 (match o with | some x => some x | none => jfst s t a) := by
  intro t
  induction t with
  | zero =>
    intro a g m o hL h1 h2 h5 ho
    obtain ⟨g, rfl⟩ := jsucc h2
    refine ⟨m, ?_, jfr.rfl, fun _ _ => rfl, ?_⟩
    · show c_X8_plant_l114_b F _ m b _ _ = _
      unfold c_X8_plant_l114_b
      rw [jl_4, if_pos (ji_lep (by omega) (by omega) (by omega))]
    · rw [h5]
      cases o <;> rfl
  | succ t ih =>
    intro a g m o hL h1 h2 h5 ho
    obtain ⟨g, rfl⟩ := jsucc h2
    cases o with
    | some x =>
      refine ⟨m, ?_, jfr.rfl, fun _ _ => rfl, h5⟩
      show c_X8_plant_l114_b F _ m b _ _ = _
      unfold c_X8_plant_l114_b
      rw [jl_4, if_neg (ji_len (by omega) (by omega) (by omega)), jgd_t hL.1, h5, if_neg (show ¬ jo1 (some x) = -1 by rw [jo1_ne (fun a h => by have := ho a h; omega)]; simp)]
    | none =>
      have hb : ∀ x, c_X8_plant_l114_b F (fun m y0 y2 y3 => c_X8_plant_l114 F g m y0 y2 y3) m b (Int32.ofNat s) (Int32.ofNat a) = x ↔ c_X8_plant_l114 F g (jsI m b 5 (jo1 (if s.testBit a = true then some a else none))) b (Int32.ofNat s) (Int32.ofNat (a + 1)) = x := by
        intro x
        unfold c_X8_plant_l114_b c_X8_plant_j141_l114
        rw [jl_4, if_neg (ji_len (by omega) (by omega) (by omega)), jgd_t hL.1, h5, if_pos (show jo1 none = -1 from rfl), q_isIn (by omega) (by omega), jb_some, jgd_t hL.1, jgd_t hL.1]
        rw [show Int32.ofNat a + 1 = Int32.ofNat (a + 1) from ji_add a 1]
        cases s.testBit a with
        | false => rw [if_pos (by decide)]; exact Iff.rfl
        | true => rw [if_neg (by decide)]; exact Iff.rfl
      obtain ⟨m', y1, y2, y3, y4⟩ := ih (a + 1) g (jsI m b 5 (jo1 (if s.testBit a = true then some a else none))) (if s.testBit a = true then some a else none) (jLT_of (m := m) rfl rfl rfl hL) (by omega) (by omega) (by rw [jsI_e, jupd_e]) (fun x hx => by
        split at hx
        · cases hx
          omega
        · cases hx)
      refine ⟨m', (hb _).mpr y1, (jsI_f (S := (· = b)) rfl).trans y2, fun k hk => by rw [y3 k hk, jsI_e, jupd_n hk], ?_⟩
      rw [y4]
      show _ = jo1 (if s.testBit a = true then some a else jfst s t (a + 1))
      by_cases e : s.testBit a = true
      · rw [if_pos e, if_pos e]
      · rw [if_neg e, if_neg e]
theorem q_plant (hF : 2000 < F) (hA : ∀ q, q < 4 → A q < 64) {m : jMe} {s : Nat} (hL : jLT m b) (hm : ∀ q, q < 4 → s.testBit q = true → jI m (b + 4) q = Int32.ofNat (A q)) (hs : s < 16) : ∃ m', c_X8_plant F m b (Int32.ofNat s) = some (jbi (jplant A 3 s).isSome, m') ∧ jfr (jSp b) m m' ∧ (∀ k, k ≠ 4 → k ≠ 5 → jI m' b k = jI m b k) ∧ (match jplant A 3 s with
    | none => True
    | some p => (∀ x, x < 4 → jI m' (b + 1) x = jo1 (jlk p.1 x)) ∧ (∀ x, x < 4 → jI m' (b + 2) x = Int32.ofNat (jkidw p.1 x)) ∧ (∀ i, i < p.1.length → jI m' (b + 3) i = Int32.ofNat ((p.1.map Prod.fst).getD i 0)) ∧ jI m' b 5 = jo1 (jfst p.2 4 0) ∧ (∀ x, jfst p.2 4 0 = some x → jI m' (b + 3) p.1.length = Int32.ofNat x) ∧ jI m' b 4 = Int32.ofNat (p.1.length + (if (jfst p.2 4 0).isSome then 1 else 0))) := by
  have hL0 := hL
  obtain ⟨l1, l2, l3, l4, l5, l6, l7, l8, l9, l10, l11, l12, l13⟩ := hL
  obtain ⟨m1, a1, a2, a3⟩ := q_fill (F := F) (x := -1) (by omega) (by omega) l6 l7
  have b1 : ∀ x, jI m1 x = if x = b + 1 then jI m1 (b + 1) else jI m x := by
    intro x
    by_cases e : x = b + 1
    · rw [if_pos e, e]
    · rw [if_neg e]
      exact a2.2.2.2.2.2.1 x e
  have hK1 : jK m1 = jK m := a2.2.2.1
  have hZ1 : jZ m1 = jZ m := a2.2.2.2.1
  have hP1 : jP m1 = jP m := a2.2.2.2.2.1
  obtain ⟨m2, c1, c2, c3⟩ := q_fill (F := F) (x := 0) (b := b + 2) (z := 4) (m := m1) (by omega) (by omega) (by rw [hK1, l8]) (by rw [hZ1, l9])
  have hK2 : jK m2 = jK m := c2.2.2.1.trans hK1
  have hZ2 : jZ m2 = jZ m := c2.2.2.2.1.trans hZ1
  have hP2 : jP m2 = jP m := c2.2.2.2.2.1.trans hP1
  have hf2 : jfr (jSp b) m m2 := (a2.weak (fun a h => Or.inr (Or.inl h))).trans (c2.weak (fun a h => Or.inr (Or.inr (Or.inl h))))
  have hI2 : ∀ x, x ≠ b + 1 → x ≠ b + 2 → jI m2 x = jI m x := fun x h1 h2 => (c2.2.2.2.2.2.1 x h2).trans (a2.2.2.2.2.2.1 x h1)
  generalize hm3 : jsI m2 b 4 (0 : Int32) = m3
  have hf3 : jfr (jSp b) m m3 := by
    rw [← hm3]
    exact hf2.trans (jsI_f (Or.inl rfl))
  have hL3 : jLT m3 b := jLT_of hf3.2.2.1 hf3.2.2.2.1 hf3.2.2.2.2.1 hL0
  have hI3 : ∀ x, x ≠ b → x ≠ b + 1 → x ≠ b + 2 → jI m3 x = jI m x := by
    intro x h0 h1 h2
    rw [← hm3, jsI_n h0, hI2 x h1 h2]
  have hb3 : ∀ k, k ≠ 4 → jI m3 b k = jI m b k := by
    intro k hk
    rw [← hm3, jsI_e, jupd_n hk, hI2 b (by omega) (by omega)]
  have hp3 : ∀ x, x < 4 → jI m3 (b + 1) x = -1 := by
    intro x hx
    rw [← hm3, jsI_n (by omega), c2.2.2.2.2.2.1 _ (by omega), a3, if_pos hx]
  have hk3 : ∀ x, x < 4 → jI m3 (b + 2) x = Int32.ofNat 0 := by
    intro x hx
    rw [← hm3, jsI_n (by omega), c3, if_pos hx]
    rfl
  obtain ⟨z, z1, z2⟩ := q_plant_l25 (F := F) (b := b) (by omega) hA 3 s 0 F m3 hL3 (fun q hq hb => by rw [hI3 _ (by omega) (by omega) (by omega), hm q hq hb]) hs (by omega) (by omega) (by omega) (by rw [← hm3, jsI_e, jupd_e]; rfl) (fun x hx => ⟨0, by omega, hk3 x hx⟩)
  have hst : ∀ y, c_X8_plant F m b (Int32.ofNat s) = y ↔ jb2 (c_X8_plant_l25 F F m3 b (Int32.ofNat s) (Int32.ofNat (4 - 3))) (fun q => some q) (fun e30 => c_X8_plant_j107 F e30.1 e30.2.1 e30.2.2) = y := by
    intro y
    unfold c_X8_plant
    rw [jgd_t l1, l2, a1, jb_some, hK1, jgd_t l1, hP1, l3, c1, jb_some, hK2, jgd_t l1, show (0 : Int32) = Int32.ofNat 0 from rfl, show (1 : Int32) = Int32.ofNat (4 - 3) from rfl]
    rw [show jsI m2 b 4 (Int32.ofNat 0) = m3 from hm3]
  rw [z1] at hst
  cases ep : jplant A 3 s with
  | none =>
    rw [ep] at z2
    obtain ⟨m', y1, y2, y3⟩ := z2
    subst y1
    exact ⟨m', (hst _).mpr rfl, hf3.trans y2, fun k k1 k2 => (y3 k k1 k2).trans (hb3 k k1), trivial⟩
  | some p =>
    rw [ep] at z2
    obtain ⟨m4, y1, y2, y3, y4, y5, y6, y7⟩ := z2
    subst y1
    have hpl := jplant_c hs ep
    dsimp only
    rw [jb2_r] at hst
    have hL4 : jLT m4 b := jLT_of y2.2.2.1 y2.2.2.2.1 y2.2.2.2.2.1 hL3
    generalize hm5 : jsI m4 b 5 (-1 : Int32) = m5
    have hf45 : jfr (· = b) m4 m5 := by
      rw [← hm5]
      exact jsI_f rfl
    have hL5 : jLT m5 b := jLT_of hf45.2.2.1 hf45.2.2.2.1 hf45.2.2.2.2.1 hL4
    obtain ⟨m6, x1, x2, x3, x4⟩ := q_plant_l114 (F := F) (b := b) (s := p.2) hpl.2.2.2.2.1 4 0 F m5 none hL5 (by omega) (by omega) (by rw [← hm5, jsI_e, jupd_e]; rfl) (fun x h => by cases h)
    have hst2 : ∀ y, c_X8_plant F m b (Int32.ofNat s) = y ↔ c_X8_plant_j150 F m6 b = y := by
      intro y
      rw [hst]
      unfold c_X8_plant_j107
      show jgd (jK m4 b = 40) (jb (c_X8_plant_l114 F F (jsI m4 b 5 (-1 : Int32)) b (Int32.ofNat p.2) (0 : Int32)) fun e41 => c_X8_plant_j150 F e41.1 e41.2) = y ↔ _
      rw [jgd_t hL4.1, hm5, show (0 : Int32) = Int32.ofNat 0 from rfl, x1, jb_some]
    have hL6 : jLT m6 b := jLT_of x2.2.2.1 x2.2.2.2.1 x2.2.2.2.2.1 hL5
    have h56 : ∀ x, x ≠ b → jI m6 x = jI m4 x := by
      intro x hx
      rw [x2.2.2.2.2.2.1 x hx, ← hm5, jsI_n hx]
    have h5b : ∀ k, k ≠ 5 → jI m6 b k = jI m4 b k := by
      intro k hk
      rw [x3 k hk, ← hm5, jsI_e, jupd_n hk]
    have hf6 : jfr (jSp b) m m6 := by
      refine (hf3.trans y2).trans (jfr.trans ?_ (x2.weak (fun a h => Or.inl h)))
      rw [← hm5]
      exact jsI_f (Or.inl rfl)
    have hn6 : jI m6 b 4 = Int32.ofNat (p.1.length) := by
      rw [h5b 4 (by omega), y7, Nat.zero_add]
    have hlen := hpl.2.1
    have hpar : ∀ x, x < 4 → jI m6 (b + 1) x = jo1 (jlk p.1 x) := by
      intro x hx
      rw [h56 _ (by omega), y4, hp3 x hx]
      cases jlk p.1 x <;> rfl
    have hkid : ∀ x, x < 4 → jI m6 (b + 2) x = Int32.ofNat (jkidw p.1 x) := by
      intro x hx
      rw [h56 _ (by omega), y5 x hx, hk3 x hx]
      exact Int32.zero_or
    have hord : ∀ i, i < p.1.length → jI m6 (b + 3) i = Int32.ofNat ((p.1.map Prod.fst).getD i 0) := by
      intro i hi
      rw [h56 _ (by omega), y6, if_pos (by omega), Nat.sub_zero]
    have hroot : jI m6 b 5 = jo1 (jfst p.2 4 0) := x4
    cases er : jfst p.2 4 0 with
    | none =>
      rw [er] at hroot
      refine ⟨m6, (hst2 _).mpr ?_, hf6, fun k k1 k2 => by rw [h5b k k2, y3 k k1 k2, hb3 k k1], hpar, hkid, hord, hroot, (fun x h => absurd h (by simp)), hn6⟩
      unfold c_X8_plant_j150
      rw [jgd_t hL6.1, hroot]
      unfold c_X8_takeOut
      rw [if_pos (show jo1 none = -1 from rfl), jb_some]
      rfl
    | some r =>
      rw [er] at hroot
      have hr4 : r < 4 := jfst_lt er
      refine ⟨_, (hst2 (some (1, jsI (jsI m6 (b + 3) p.1.length (Int32.ofNat r)) b 4 (Int32.ofNat (p.1.length + 1))))).mpr ?_, hf6.trans ((jsI_f (S := jSp b) (Or.inr (Or.inr (Or.inr rfl)))).trans (jsI_f (Or.inl rfl))), fun k k1 k2 => ?_, fun x hx => ?_, fun x hx => ?_, fun i hi => ?_, ?_, fun x h => ?_, ?_⟩
      · unfold c_X8_plant_j150
        rw [jgd_t hL6.1, hroot, show jo1 (some r) = Int32.ofNat r from rfl, q_takeOut hL6 hr4 hn6 (by omega), jb_some]
      · rw [jsI_e, jupd_n k1, jsI_n (by omega), h5b k k2, y3 k k1 k2, hb3 k k1]
      · rw [jsI_n (by omega), jsI_n (by omega), hpar x hx]
      · rw [jsI_n (by omega), jsI_n (by omega), hkid x hx]
      · rw [jsI_n (by omega), jsI_e, jupd_n (by omega), hord i hi]
      · rw [jsI_e, jupd_n (by omega), jsI_n (by omega), hroot]
      · cases h
        rw [jsI_n (by omega), jsI_e, jupd_e]
      · rw [jsI_e, jupd_e]
        rfl
end GROW
