/-! shuffles, as the reference tells them -/
section YSHUF
variable {F : Nat} {D : jD} {S : jTS}
/-- swaps from step i on: each draws what is left, and swaps -/
def jshu (n : Nat) : Nat → Nat → Int32 → (Nat → Nat) → Nat → Nat
  | 0, _, _, St => St
  | t + 1, i, z, St => jshu n t (i + 1) (jbelow (n - i) z).2 (fun x => if x = i + (jbelow (n - i) z).1 then St i else if x = i then St (i + (jbelow (n - i) z).1) else St x)
/-- the first of pairs that has a key -/
def jsto (K V : Nat → Nat) (x : Nat) : Nat → Nat → Nat
  | 0, _ => x
  | t + 1, k => if K k = x then V k else jsto K V x t (k + 1)
def jySh (St : Nat → Nat) (c : Nat) (m : jMe) : Prop := ∃ K V : Nat → Nat, jI m 101 47 = Int32.ofNat c ∧ (∀ k, k < c → jL m 119 k = Int64.ofNat (K k) ∧ jL m 120 k = Int64.ofNat (V k) ∧ K k ≤ jMX) ∧ ∀ x, St x = jsto K V x c 0
theorem jsto_c {K V K' V' : Nat → Nat} {x : Nat} : ∀ (t k : Nat), (∀ j, k ≤ j → j < k + t → K j = K' j ∧ V j = V' j) → jsto K V x t k = jsto K' V' x t k := by
  intro t
  induction t with
  | zero => intro k _; rfl
  | succ t ih =>
    intro k h
    obtain ⟨h1, h2⟩ := h k (by omega) (by omega)
    rw [jsto, jsto, h1, h2, ih (k + 1) (fun j h3 h4 => h j (by omega) (by omega))]
theorem y_stood_l2 {m : jMe} (hL : jLM m) {K V : Nat → Nat} {c x : Nat} (hc : c ≤ 16) (h47 : jI m 101 47 = Int32.ofNat c) (hKV : ∀ k, k < c → jL m 119 k = Int64.ofNat (K k) ∧ jL m 120 k = Int64.ofNat (V k) ∧ K k ≤ jMX) (hx : x ≤ jMX) : ∀ (t k f : Nat), k + t = c → t < f → jb2 (c_X10_stood_l2 F m f 101 (Int64.ofNat x) (Int32.ofNat k)) (fun q => some q) (fun e9 => some e9) = some (Int64.ofNat (jsto K V x t k)) := by
  intro t
  induction t with
  | zero =>
    intro k f h1 h2
    obtain ⟨f, rfl⟩ := jsucc h2
    have : c_X10_stood_l2 F m (f + 1) 101 (Int64.ofNat x) (Int32.ofNat k) = some (.inr (Int64.ofNat x)) := by
      show c_X10_stood_l2_b F _ m _ _ _ = _
      unfold c_X10_stood_l2_b
      rw [jgd_t hL.1, h47, if_pos (ji_lep (by omega) (by omega) (by omega))]
    rw [this, jb2_r]
    rfl
  | succ t ih =>
    intro k f h1 h2
    obtain ⟨f, rfl⟩ := jsucc h2
    have ih := ih (k + 1) f (by omega) (by omega)
    obtain ⟨e1, e2, e3⟩ := hKV k (by omega)
    have : c_X10_stood_l2 F m (f + 1) 101 (Int64.ofNat x) (Int32.ofNat k) = if K k = x then some (.inl (Int64.ofNat (V k))) else c_X10_stood_l2 F m f 101 (Int64.ofNat x) (Int32.ofNat (k + 1)) := by
      show c_X10_stood_l2_b F _ m _ _ _ = _
      unfold c_X10_stood_l2_b
      rw [jgd_t hL.1, h47, if_neg (ji_len (by omega) (by omega) (by omega)), jp_119 hL, jgd_t (jk_119 hL), jz_119 hL, jgd_t (ji_int (by omega) (by omega)), jp_120 hL, jgd_t (jk_120 hL), jz_120 hL, jgd_t (ji_int (by omega) (by omega)), ji_n (by omega), e1, e2, show Int32.ofNat k + 1 = Int32.ofNat (k + 1) from ji_add k 1]
      by_cases e : K k = x
      · rw [if_pos (jc_eq0.mpr (by rw [e])), if_pos e]
      · rw [if_neg (fun h => e ((jq_eq e3 hx).mp (jc_eq0.mp h))), if_neg e]
    rw [this, jsto]
    by_cases e : K k = x
    · rw [if_pos e, if_pos e, jb2_l]
    · rw [if_neg e, if_neg e]
      exact ih
theorem y_stood (hF : 100 < F) {m : jMe} (hL : jLM m) {St : Nat → Nat} {c : Nat} (hc : c ≤ 16) (h : jySh St c m) {x : Nat} (hx : x ≤ jMX) : c_X10_stood F m 101 (Int64.ofNat x) = some (Int64.ofNat (St x)) := by
  obtain ⟨K, V, h1, h2, h3⟩ := h
  unfold c_X10_stood
  have := y_stood_l2 (F := F) hL hc h1 h2 hx c 0 F (by omega) (by omega)
  rw [h3]
  exact this
/-- pairs from k on, with one told anew -/
theorem y_puts_l3 {m : jMe} (hL : jLM m) {K V : Nat → Nat} {c x v : Nat} (hc : c ≤ 16) (h47 : jI m 101 47 = Int32.ofNat c) (hKV : ∀ k, k < c → jL m 119 k = Int64.ofNat (K k) ∧ jL m 120 k = Int64.ofNat (V k) ∧ K k ≤ jMX) (hx : x ≤ jMX) : ∀ (t k f : Nat), k + t = c → t < f → (c_X10_puts_l3 F f m 101 (Int64.ofNat x) (Int64.ofNat v) (Int32.ofNat k) = some (.inr (m, 101, Int64.ofNat x, Int64.ofNat v)) ∧ ∀ j, k ≤ j → j < c → K j ≠ x) ∨ ∃ j, k ≤ j ∧ j < c ∧ K j = x ∧ (∀ i, k ≤ i → i < j → K i ≠ x) ∧ c_X10_puts_l3 F f m 101 (Int64.ofNat x) (Int64.ofNat v) (Int32.ofNat k) = some (.inl (jsL m 120 j (Int64.ofNat v))) := by
  intro t
  induction t with
  | zero =>
    intro k f h1 h2
    obtain ⟨f, rfl⟩ := jsucc h2
    refine Or.inl ⟨?_, fun j h3 h4 => by omega⟩
    show c_X10_puts_l3_b F _ m _ _ _ _ = _
    unfold c_X10_puts_l3_b
    rw [jgd_t hL.1, h47, if_pos (ji_lep (by omega) (by omega) (by omega))]
  | succ t ih =>
    intro k f h1 h2
    obtain ⟨f, rfl⟩ := jsucc h2
    obtain ⟨e1, e2, e3⟩ := hKV k (by omega)
    have hst : c_X10_puts_l3 F (f + 1) m 101 (Int64.ofNat x) (Int64.ofNat v) (Int32.ofNat k) = if K k = x then some (.inl (jsL m 120 k (Int64.ofNat v))) else c_X10_puts_l3 F f m 101 (Int64.ofNat x) (Int64.ofNat v) (Int32.ofNat (k + 1)) := by
      show c_X10_puts_l3_b F _ m _ _ _ _ = _
      unfold c_X10_puts_l3_b
      rw [jgd_t hL.1, h47, if_neg (ji_len (by omega) (by omega) (by omega)), jp_119 hL, jgd_t (jk_119 hL), jz_119 hL, jgd_t (ji_int (by omega) (by omega)), jp_120 hL, jgd_t (jk_120 hL), jz_120 hL, jgd_t (ji_int (by omega) (by omega)), ji_n (by omega), e1, show Int32.ofNat k + 1 = Int32.ofNat (k + 1) from ji_add k 1]
      by_cases e : K k = x
      · rw [if_pos (jc_eq0.mpr (by rw [e])), if_pos e]
      · rw [if_neg (fun h => e ((jq_eq e3 hx).mp (jc_eq0.mp h))), if_neg e]
    rw [hst]
    by_cases e : K k = x
    · rw [if_pos e]
      exact Or.inr ⟨k, by omega, by omega, e, fun i h3 h4 => by omega, rfl⟩
    · rw [if_neg e]
      rcases ih (k + 1) f (by omega) (by omega) with ⟨a1, a2⟩ | ⟨j, a1, a2, a3, a4, a5⟩
      · refine Or.inl ⟨a1, fun j h3 h4 => ?_⟩
        by_cases h5 : j = k
        · rw [h5]; exact e
        · exact a2 j (by omega) h4
      · refine Or.inr ⟨j, by omega, a2, a3, fun i h3 h4 => ?_, a5⟩
        by_cases h5 : i = k
        · rw [h5]; exact e
        · exact a4 i (by omega) h4
theorem jsto_new {K V : Nat → Nat} {x v c : Nat} : ∀ (t k : Nat), k + t = c → (∀ j, k ≤ j → j < c → K j ≠ x) → ∀ y, jsto (fun k => if k = c then x else K k) (fun k => if k = c then v else V k) y (t + 1) k = if y = x then v else jsto K V y t k := by
  intro t
  induction t with
  | zero =>
    intro k h1 _ y
    rw [jsto, jsto, jsto, if_pos (show k = c by omega), if_pos (show k = c by omega)]
    by_cases e : y = x
    · rw [if_pos e.symm, if_pos e]
    · rw [if_neg (fun h => e h.symm), if_neg e]
  | succ t ih =>
    intro k h1 h2 y
    rw [jsto, if_neg (show ¬ k = c by omega), if_neg (show ¬ k = c by omega), ih (k + 1) (by omega) (fun j h3 h4 => h2 j (by omega) h4) y, jsto]
    by_cases e : y = x
    · rw [if_pos e, if_pos e, if_neg (by rw [e]; exact h2 k (by omega) (by omega))]
    · rw [if_neg e, if_neg e]
theorem jsto_at {K V : Nat → Nat} {x v j : Nat} (hj : K j = x) : ∀ (t k : Nat), k ≤ j → j < k + t → (∀ i, k ≤ i → i < j → K i ≠ x) → ∀ y, jsto K (fun k => if k = j then v else V k) y t k = if y = x then v else jsto K V y t k := by
  intro t
  induction t with
  | zero => intro k h1 h2; omega
  | succ t ih =>
    intro k h1 h2 h3 y
    rw [jsto, jsto]
    by_cases e : k = j
    · rw [if_pos e, e, hj]
      by_cases e2 : x = y
      · rw [if_pos e2, if_pos e2.symm]
      · rw [if_neg e2, if_neg e2, if_neg (fun h => e2 h.symm)]
        exact jsto_c t (j + 1) (fun i h4 h5 => ⟨rfl, by rw [if_neg (by omega)]⟩)
    · rw [if_neg e, ih (k + 1) (by omega) (by omega) (fun i h4 h5 => h3 i (by omega) h5) y]
      by_cases e2 : y = x
      · rw [if_pos e2, if_pos e2, if_neg (by rw [e2]; exact h3 k (by omega) (by omega))]
      · rw [if_neg e2, if_neg e2]
def jyFh (a i : Nat) : Prop := a = 119 ∨ a = 120 ∨ (a = 101 ∧ (i = 43 ∨ i = 47))
theorem y_puts (hF : 100 < F) {m : jMe} (hL : jLM m) {St : Nat → Nat} {c : Nat} (hc : c < 16) (h : jySh St c m) {x v : Nat} (hx : x ≤ jMX) : ∃ m' c', c_X10_puts F m 101 (Int64.ofNat x) (Int64.ofNat v) = some m' ∧ jfx (fun a i => a = 119 ∨ a = 120 ∨ (a = 101 ∧ i = 47)) m m' ∧ c' ≤ c + 1 ∧ jySh (fun y => if y = x then v else St y) c' m' := by
  obtain ⟨K, V, h1, h2, h3⟩ := h
  unfold c_X10_puts
  rcases y_puts_l3 (F := F) hL (by omega) h1 h2 hx (v := v) c 0 F (by omega) (by omega) with ⟨a1, a2⟩ | ⟨j, a1, a2, a3, a4, a5⟩
  · have a1 : c_X10_puts_l3 F F m 101 (Int64.ofNat x) (Int64.ofNat v) (0 : Int32) = _ := a1
    rw [a1, jb2_r]
    dsimp only
    rw [jgd_t hL.1, jp_119 hL, jgd_t (jk_119 hL), jz_119 hL, h1, jgd_t (ji_int (by omega) (by omega)), ji_n (by omega)]
    have fx1 : jfx (fun a i => a = 119 ∨ a = 120 ∨ (a = 101 ∧ i = 47)) m (jsL m 119 c (Int64.ofNat x)) := jfx_L (Or.inl rfl)
    have L1 : jL (jsL m 119 c (Int64.ofNat x)) 119 c = Int64.ofNat x := jsL_y
    have L1o : ∀ b j, ¬ (b = 119 ∧ j = c) → jL (jsL m 119 c (Int64.ofNat x)) b j = jL m b j := fun b j q => jsL_no q
    have e47 : jI (jsL m 119 c (Int64.ofNat x)) 101 47 = Int32.ofNat c := h1
    generalize jsL m 119 c (Int64.ofNat x) = m1 at fx1 L1 L1o e47 ⊢
    have hL1 : jLM m1 := jLM_fx fx1 hL
    rw [jp_120 hL1, jgd_t (show jK m 120 = 2 from jk_120 hL), jgd_t (show jin (jI m1 101 47) (jZ m 120) = true by rw [jz_120 hL, e47]; exact ji_int (by omega) (by omega)), e47, ji_n (by omega)]
    have fx2 : jfx (fun a i => a = 119 ∨ a = 120 ∨ (a = 101 ∧ i = 47)) m1 (jsL m1 120 c (Int64.ofNat v)) := jfx_L (Or.inr (Or.inl rfl))
    have L2 : jL (jsL m1 120 c (Int64.ofNat v)) 120 c = Int64.ofNat v := jsL_y
    have L2o : ∀ b j, ¬ (b = 120 ∧ j = c) → jL (jsL m1 120 c (Int64.ofNat v)) b j = jL m1 b j := fun b j q => jsL_no q
    have e47' : jI (jsL m1 120 c (Int64.ofNat v)) 101 47 = Int32.ofNat c := e47
    generalize jsL m1 120 c (Int64.ofNat v) = m2 at fx2 L2 L2o e47' ⊢
    rw [e47', show Int32.ofNat c + 1 = Int32.ofNat (c + 1) from ji_add c 1, jlet_m]
    refine ⟨_, c + 1, rfl, (fx1.trans fx2).trans (jfx_I (Or.inr (Or.inr ⟨rfl, rfl⟩))), by omega, fun k => if k = c then x else K k, fun k => if k = c then v else V k, jsI_y, fun k hk => ?_, fun y => ?_⟩
    · show jL m2 119 k = _ ∧ jL m2 120 k = _ ∧ _
      dsimp only
      by_cases e : k = c
      · rw [e, if_pos rfl, if_pos rfl, L2, L2o _ _ (by omega), L1]
        exact ⟨rfl, rfl, hx⟩
      · rw [if_neg e, if_neg e, L2o _ _ (by omega), L2o _ _ (by omega), L1o _ _ (by omega), L1o _ _ (by omega)]
        exact h2 k (by omega)
    · show (if y = x then v else St y) = _
      rw [jsto_new c 0 (by omega) (fun j h4 h5 => a2 j h4 h5) y, h3]
  · have a5 : c_X10_puts_l3 F F m 101 (Int64.ofNat x) (Int64.ofNat v) (0 : Int32) = _ := a5
    rw [a5, jb2_l]
    refine ⟨_, c, rfl, jfx_L (Or.inr (Or.inl rfl)), by omega, K, fun k => if k = j then v else V k, by rw [← h1]; rfl, fun k hk => ⟨?_, ?_, (h2 k hk).2.2⟩, fun y => ?_⟩
    · rw [jsL_no (by omega)]
      exact (h2 k hk).1
    · show _ = Int64.ofNat (if k = j then v else V k)
      by_cases e : k = j
      · rw [e, jsL_y, if_pos rfl]
      · rw [jsL_no (by omega), if_neg e]
        exact (h2 k hk).2.1
    · show (if y = x then v else St y) = _
      rw [jsto_at a3 c 0 (by omega) (by omega) (fun i h4 h5 => a4 i h4 h5) y, h3]
theorem jySh_fx {Q : Nat → Nat → Prop} {St : Nat → Nat} {c : Nat} {m m' : jMe} (h : jfx Q m m') (hQ : ¬ Q 101 47 ∧ (∀ i, ¬ Q 119 i) ∧ ∀ i, ¬ Q 120 i) (k : jySh St c m) : jySh St c m' := by
  obtain ⟨K, V, h1, h2, h3⟩ := k
  exact ⟨K, V, by rw [h.I hQ.1]; exact h1, fun k hk => ⟨by rw [h.L (hQ.2.1 k)]; exact (h2 k hk).1, by rw [h.L (hQ.2.2 k)]; exact (h2 k hk).2.1, (h2 k hk).2.2⟩, h3⟩
theorem jyFh_Y {m m' : jMe} (h : jfx jyFh m m') (k : jYg D S m) : jYg D S m' := jYg_fx h (fun a i h => by unfold jSyg jSr at h; unfold jyFh; omega) k
theorem y_shuffle_l59 (hF : 1000 < F) {p : Nat} (hp : p < 8) (hpn : p + 1 ≤ jsp D 4) : ∀ (t i f c : Nat) (z : Int32) (St : Nat → Nat) (m : jMe), i + t = p + 1 → t < f → c + 2 * t ≤ 16 → jYg D S m → jySh St c m → jI m 101 43 = z → ∃ m' c', c_X10_shuffle_l59 F f m 101 (Int32.ofNat p) (Int32.ofNat i) = some (m', 101, Int32.ofNat p) ∧ jfx jyFh m m' ∧ jYg D S m' ∧ c' ≤ 16 ∧ jySh (jshu (jsp D 4) t i z St) c' m' := by
  intro t
  induction t with
  | zero =>
    intro i f c z St m h1 h2 h3 hY hS hz
    obtain ⟨f, rfl⟩ := jsucc h2
    refine ⟨m, c, ?_, jfx.rfl, hY, by omega, hS⟩
    show c_X10_shuffle_l59_b F _ m _ _ _ = _
    unfold c_X10_shuffle_l59_b
    rw [if_pos (ji_ltp (by omega) (by omega) (by omega))]
  | succ t ih =>
    intro i f c z St m h1 h2 h3 hY hS hz
    obtain ⟨f, rfl⟩ := jsucc h2
    have hL := hY.1.1.1
    have hn : jsp D 4 ≤ jMX := hY.2.2.2.2.2.1
    obtain ⟨m1, a1, a2, a3⟩ := y_below (F := F) hF (n := jsp D 4 - i) (by omega) (by omega) hL hz
    have hd : (jbelow (jsp D 4 - i) z).1 < jsp D 4 - i := jbe_lt (by omega) 30 z 0
    have hY1 : jYg D S m1 := jyFh_Y (a2.weak (fun a i h => by unfold jyFh; omega)) hY
    have hL1 := hY1.1.1.1
    have hS1 : jySh St c m1 := jySh_fx a2 ⟨by omega, fun i => by omega, fun i => by omega⟩ hS
    have b1 := y_stood (F := F) (by omega) hL1 (by omega) hS1 (x := i) (by omega)
    have b2 := y_stood (F := F) (by omega) hL1 (by omega) hS1 (x := i + (jbelow (jsp D 4 - i) z).1) (by omega)
    obtain ⟨m2, c2, d1, d2, d3, d4⟩ := y_puts (F := F) (by omega) hL1 (by omega) hS1 (x := i) (v := St (i + (jbelow (jsp D 4 - i) z).1)) (by omega)
    have hY2 : jYg D S m2 := jyFh_Y (d2.weak (fun a i h => by unfold jyFh; omega)) hY1
    have hL2 := hY2.1.1.1
    obtain ⟨m3, c3, e1, e2, e3, e4⟩ := y_puts (F := F) (by omega) hL2 (by omega) d4 (x := i + (jbelow (jsp D 4 - i) z).1) (v := St i) (by omega)
    have hY3 : jYg D S m3 := jyFh_Y (e2.weak (fun a i h => by unfold jyFh; omega)) hY2
    have hz3 : jI m3 101 43 = (jbelow (jsp D 4 - i) z).2 := by
      rw [e2.I (by omega), d2.I (by omega)]
      exact a3
    obtain ⟨m', c', g1, g2, g3, g4, g5⟩ := ih (i + 1) f c3 (jbelow (jsp D 4 - i) z).2 _ m3 (by omega) (by omega) (by omega) hY3 e4 hz3
    have w1 : jfx jyFh m m1 := a2.weak (fun a i h => by unfold jyFh; omega)
    have w2 : jfx jyFh m1 m2 := d2.weak (fun a i h => by unfold jyFh; omega)
    have w3 : jfx jyFh m2 m3 := e2.weak (fun a i h => by unfold jyFh; omega)
    refine ⟨m', c', ?_, ((w1.trans w2).trans w3).trans g2, g3, g4, g5⟩
    show c_X10_shuffle_l59_b F _ m _ _ _ = _
    unfold c_X10_shuffle_l59_b
    rw [if_neg (ji_ltn (by omega) (by omega) (by omega)), jgd_t hL.1, hY.2.2.2.2.1, jt64 (by omega), jq_sub (by omega), a1, jb_some]
    dsimp only
    rw [jgd_t hL1.1, b1, jb_some, jq_add, b2, jb_some, d1, jb_some, jgd_t hL2.1, e1, jb_some, show Int32.ofNat i + 1 = Int32.ofNat (i + 1) from ji_add i 1]
    exact g1
/-- where place x3 of a shuffle of x2 comes from -/
def jshT (D : jD) (x1 x2 x3 : Int32) : Option Nat := if (jbt2 x2 1 8 && jin x3 x2.toNatClampNeg) = true ∧ x2.toNatClampNeg ≤ jsp D 4 then some (jshu (jsp D 4) (x3.toNatClampNeg + 1) 0 x1 (fun x => x) x3.toNatClampNeg) else none
theorem y_shuffle (hF : 1000 < F) (hDS : jDS D S) {g : Bool} (hg : g = true ↔ jGt D) {m : jMe} (hQ : jyQ D S m) {x1 x2 x3 : Int32} : ∃ m', c_X10_shuffle F m 101 x1 x2 x3 = some (if jDq D ≠ 0 ∧ g = false then jlN (jshT D x1 x2 x3) else -4611686018427387904, m') ∧ jfx jyO m m' ∧ jyQ D S m' := by
  unfold c_X10_shuffle jshT
  rw [show (1 : Int64) = Int64.ofNat 1 from rfl, show (8 : Int64) = Int64.ofNat 8 from rfl, q_in_int (by omega) (by omega), jb_some]
  have hnone : (if jDq D ≠ 0 ∧ g = false then jlN none else -4611686018427387904) = (-4611686018427387904 : Int64) := by
    show (if jDq D ≠ 0 ∧ g = false then (-4611686018427387904 : Int64) else -4611686018427387904) = _
    rw [ite_self]
  cases e1 : jbt2 x2 1 8 with
  | false =>
    refine ⟨m, ?_, jfx.rfl, hQ⟩
    rw [if_pos (show jbi false = 0 from rfl), Bool.false_and, if_neg (show ¬ (false = true ∧ x2.toNatClampNeg ≤ jsp D 4) from fun h => by cases h.1), hnone]
  | true =>
    have hx2 : ¬ x2 < 0 := by
      intro h
      unfold jbt2 at e1
      rw [decide_eq_false (Int32.not_le.mpr h), Bool.false_and] at e1
      cases e1
    obtain ⟨k, rfl, hk⟩ := ji_nat hx2
    have hk8 : 1 ≤ k ∧ k ≤ 8 := by
      unfold jbt2 at e1
      rw [ji_n hk] at e1
      simp only [Bool.and_eq_true, decide_eq_true_eq] at e1
      omega
    rw [if_neg (show ¬ jbi true = 0 by decide), q_in_jin (by omega), jb_some, ji_n hk, Bool.true_and]
    cases e2 : jin x3 k with
    | false =>
      refine ⟨m, ?_, jfx.rfl, hQ⟩
      rw [if_pos (show jbi false = 0 from rfl), if_neg (show ¬ (false = true ∧ k ≤ jsp D 4) from fun h => by cases h.1), hnone]
    | true =>
      obtain ⟨p, rfl, hp1, hp2⟩ := jin_nat e2
      obtain ⟨m1, a1, a2, a3, a4⟩ := y_isTold (F := F) hF hDS hg hQ
      rw [if_neg (show ¬ jbi true = 0 by decide), jgd_t hQ.1.1.1, a1, jb_some, ji_n hp1]
      by_cases hq0 : jDq D = 0
      · refine ⟨m1, ?_, a2, a4⟩
        rw [decide_eq_true hq0, if_pos (show jbi (!true && !g) = 0 from rfl), if_neg (fun h => h.1 hq0)]
      by_cases hgg : g = true
      · refine ⟨m1, ?_, a2, a4⟩
        rw [hgg, if_pos (show jbi (!decide (jDq D = 0) && !true) = 0 by rw [show (!true) = false from rfl, Bool.and_false]; rfl), if_neg (fun h => by cases h.2)]
      have hgf : g = false := by cases g with | false => rfl | true => exact absurd rfl hgg
      have hng : ¬ jGt D := fun h => hgg (hg.mpr h)
      have hY := jYg_of a3 hng
      have hn : jsp D 4 ≤ jMX := hY.2.2.2.2.2.1
      rw [decide_eq_false hq0, hgf, if_neg (show ¬ jbi (!false && !false) = 0 by decide), if_pos (show jDq D ≠ 0 ∧ false = false from ⟨hq0, rfl⟩), jgd_t hY.1.1.1.1, hY.2.2.2.2.1, jt64 hk]
      by_cases hle : k ≤ jsp D 4
      · rw [if_pos (jc_0le.mpr ((jq_le (by unfold jMX; omega) hn).mpr hle)), if_pos (show true = true ∧ k ≤ jsp D 4 from ⟨rfl, hle⟩)]
        have fx : jfx jyFh m1 (jsI (jsI m1 101 43 x1) 101 47 (0 : Int32)) := (jfx_I (Or.inr (Or.inr ⟨rfl, Or.inl rfl⟩))).trans (jfx_I (Or.inr (Or.inr ⟨rfl, Or.inr rfl⟩)))
        have h47 : jI (jsI (jsI m1 101 43 x1) 101 47 (0 : Int32)) 101 47 = Int32.ofNat 0 := jsI_y
        have h43 : jI (jsI (jsI m1 101 43 x1) 101 47 (0 : Int32)) 101 43 = x1 := by
          rw [jsI_no (by omega), jsI_y]
        generalize jsI (jsI m1 101 43 x1) 101 47 (0 : Int32) = m2 at fx h47 h43 ⊢
        have hY2 := jyFh_Y fx hY
        obtain ⟨m3, c, b1, b2, b3, b4, b5⟩ := y_shuffle_l59 (F := F) hF (p := p) (by omega) (by omega) (p + 1) 0 F 0 x1 (fun x => x) m2 (by omega) (by omega) (by omega) hY2 ⟨fun _ => 0, fun _ => 0, h47, fun k h => by omega, fun x => rfl⟩ h43
        have b1 : c_X10_shuffle_l59 F F m2 101 (Int32.ofNat p) (0 : Int32) = _ := b1
        have hL3 := b3.1.1.1
        have fr : jfx jyFh m1 m3 := fx.trans b2
        refine ⟨m3, ?_, a2.trans (fr.weak (fun a i h => by unfold jyFh at h; unfold jyO; omega)), jyQ_fx fr (by unfold jyFh; omega) b3.1.1 a4⟩
        rw [b1, jb_some]
        dsimp only
        rw [jgd_t hL3.1, jt64 (by omega), y_stood (by omega) hL3 b4 b5 (by unfold jMX; omega), jb_some]
        rfl
      · refine ⟨m1, ?_, a2, a4⟩
        rw [if_neg (fun h => hle ((jq_le (by unfold jMX; omega) hn).mp (jc_0le.mp h))), if_neg (fun h => hle h.2)]
        rfl
end YSHUF
