/-! the reference's reader: tokens -/
def jyB (t : Nat) (b : Nat → Nat) (n : Nat) (m : jMe) : Prop := jLM m ∧ t < 6 ∧ jI m 101 17 = Int32.ofNat (160 * t) ∧ jI m 101 18 = Int32.ofNat n ∧ n ≤ 160 ∧ ∀ i, i < n → jI m 102 (160 * t + i) = Int32.ofNat (b i) ∧ b i < 256
abbrev jyF (m m' : jMe) : Prop := jfx (fun a i => a = 101 ∧ 19 ≤ i ∧ i ≤ 25) m m'
abbrev jyFs (m m' : jMe) : Prop := jfx (fun a i => a = 101 ∧ 19 ≤ i ∧ i ≤ 22) m m'
theorem jyFs_F {m m' : jMe} (h : jyFs m m') : jyF m m' := h.weak (fun a i h => by omega)
theorem jyB_of {t : Nat} {b : Nat → Nat} {n : Nat} {m m' : jMe} (h : jyF m m') (k : jyB t b n m) : jyB t b n m' := by
  obtain ⟨k1, k2, k3, k4, k5, k6⟩ := k
  refine ⟨jLM_fx h k1, k2, by rw [h.I (by omega)]; exact k3, by rw [h.I (by omega)]; exact k4, k5, fun i hi => ?_⟩
  rw [h.I (by omega)]
  exact k6 i hi
def jyw (b : Nat → Nat) (p q : Nat) : Prop := ∀ j, p ≤ j → j < q → 97 ≤ b j ∧ b j ≤ 122
def jyC (b : Nat → Nat) (s : jS0) (m : jMe) : Prop := jI m 101 24 = 0 ∧ jI m 101 21 = Int32.ofNat s.2.2.1 ∧ jI m 101 19 = Int32.ofNat s.2.2.2 ∧ s.1 ≠ 0 ∧ (s.1 = 1 → jI m 101 20 = 0) ∧ (s.1 = 2 → jI m 101 20 = 2 ∧ jL m 101 22 = Int64.ofNat s.2.1) ∧ (3 ≤ s.1 → s.1 ≤ 7 → jI m 101 20 = 1 ∧ jzn b s.2.2.1 s.2.2.2 = (s.1, s.2.1) ∧ jyw b s.2.2.1 s.2.2.2 ∧ s.2.2.1 < s.2.2.2) ∧ (8 ≤ s.1 → jI m 101 20 = 3 ∧ jL m 101 22 = Int64.ofNat s.1)
/-- a fault is found, or will be -/
def jyD (b : Nat → Nat) (n p : Nat) (m : jMe) : Prop := p ≤ 160 ∧ ((jI m 101 24 = 1 ∧ jI m 101 25 = Int32.ofNat p) ∨ (jI m 101 24 = 0 ∧ jI m 101 21 = Int32.ofNat p ∧ (jI m 101 20 = 4 ∨ (jI m 101 20 = 1 ∧ ∃ q, jI m 101 19 = Int32.ofNat q ∧ q ≤ n ∧ p < q ∧ jyw b p q ∧ (jzn b p q).1 = 0))))
def jyU (b : Nat → Nat) (n : Nat) (m' : jMe) (x : Nat ⊕ jS0) : Prop := match x with
  | .inl p => jyD b n p m'
  | .inr s => jyC b s m'
section YTOK
variable {F : Nat} {t : Nat} {b : Nat → Nat} {n : Nat}
theorem y_byteAt {m : jMe} (hB : jyB t b n m) {i : Nat} (hi : i < 1000000) : c_X10_byteAt F m 101 (Int32.ofNat i) = some (if i < n then Int32.ofNat (b i) else -1) := by
  obtain ⟨hL, ht, h17, h18, hn, hb⟩ := hB
  unfold c_X10_byteAt
  rw [jgd_t hL.1, h18]
  by_cases q : i < n
  · rw [if_neg (ji_len (by omega) (by omega) (by omega)), if_pos q, jp_102 hL, jgd_t (jk_102 hL), jz_102 hL, h17, ji_add, jgd_t (ji_int (by omega) (by omega)), ji_n (by omega), (hb i q).1]
  · rw [if_pos (ji_lep (by omega) (by omega) (by omega)), if_neg q]
theorem y_inb {m : jMe} (hb : ∀ i, i < n → b i < 256) {i lo hi : Nat} (hl : lo < 1000) (hh : hi < 1000) : c_X10_in F m (Int32.toInt64 (if i < n then Int32.ofNat (b i) else -1)) (Int64.ofNat lo) (Int64.ofNat hi) = some (jbi (decide (i < n ∧ lo ≤ b i ∧ b i ≤ hi))) := by
  by_cases q : i < n
  · have := hb i q
    rw [if_pos q, jt64 (by omega), q_in_nat (by unfold jMX; omega) (by unfold jMX; omega) (by unfold jMX; omega)]
    congr 2
    exact decide_eq_decide.mpr (by omega)
  · rw [if_neg q, q_in_neg (by decide) (by unfold jMX; omega), decide_eq_false (fun h => q h.1)]
    rfl
theorem y_next_l0 : ∀ (w i f : Nat) (m : jMe), i + w = n → w < f → jyB t b n m → jI m 101 19 = Int32.ofNat i → ∃ m', c_X10_next_l0 F f m 101 = some (m', 101) ∧ jfx (fun a j => a = 101 ∧ j = 19) m m' ∧ jI m' 101 19 = Int32.ofNat (jzb b n w i) := by
  intro w
  induction w with
  | zero =>
    intro i f m h1 h2 hB h4
    obtain ⟨f, rfl⟩ := jsucc h2
    refine ⟨m, ?_, jfx.rfl, h4⟩
    have := hB.2.2.2.2.1
    show c_X10_next_l0_b F _ m _ = _
    unfold c_X10_next_l0_b
    rw [jgd_t hB.1.1, h4, y_byteAt hB (by omega), if_neg (show ¬ i < n by omega), jb_some, jb_some, if_neg (by decide), if_neg (by decide)]
  | succ w ih =>
    intro i f m h1 h2 hB h4
    obtain ⟨f, rfl⟩ := jsucc h2
    have hn := hB.2.2.2.2.1
    have hbi := (hB.2.2.2.2.2 i (by omega)).2
    have hst : ∀ z, (if b i = 32 ∨ b i = 10 then c_X10_next_l0 F f (jsI m 101 19 (Int32.ofNat (i + 1))) 101 else some (m, 101)) = z → c_X10_next_l0 F (f + 1) m 101 = z := by
      intro z h
      rw [← h]
      show c_X10_next_l0_b F _ m _ = _
      unfold c_X10_next_l0_b c_X10_next_j26_l0
      have e1 : Int32.ofNat (b i) = (32 : Int32) ↔ b i = 32 := ji_tk (k := 32) hbi (by omega)
      have e2 : Int32.ofNat (b i) = (10 : Int32) ↔ b i = 10 := ji_tk (k := 10) hbi (by omega)
      simp only [jgd_t hB.1.1]
      rw [h4, y_byteAt hB (by omega), if_pos (show i < n by omega), jb_some, jb_some, jl_1, ji_add]
      by_cases q1 : b i = 32
      · rw [if_pos (e1.mpr q1), if_pos (Or.inl q1)]
      · rw [if_neg (fun h => q1 (e1.mp h))]
        by_cases q2 : b i = 10
        · rw [if_pos (e2.mpr q2), if_pos (Or.inr q2)]
        · rw [if_neg (fun h => q2 (e2.mp h)), if_neg (by omega)]
    by_cases q : b i = 32 ∨ b i = 10
    · have hf : jfx (fun a j => a = 101 ∧ j = 19) m (jsI m 101 19 (Int32.ofNat (i + 1))) := jfx_I ⟨rfl, rfl⟩
      obtain ⟨m', a1, a2, a3⟩ := ih (i + 1) f _ (by omega) (by omega) (jyB_of (hf.weak (fun a j h => by omega)) hB) jsI_y
      refine ⟨m', hst _ (by rw [if_pos q]; exact a1), hf.trans a2, ?_⟩
      rw [a3, jzb_y ⟨by omega, q⟩]
    · refine ⟨m, hst _ (if_neg q), jfx.rfl, ?_⟩
      rw [h4, jzb_n (fun h => q h.2)]
theorem y_next_l100 : ∀ (w i f : Nat) (m : jMe), i + w = n → w < f → jyB t b n m → jI m 101 19 = Int32.ofNat i → ∃ m', c_X10_next_l100 F f m 101 = some m' ∧ jfx (fun a j => a = 101 ∧ j = 19) m m' ∧ jI m' 101 19 = Int32.ofNat (jze 97 122 b n w i) := by
  intro w
  induction w with
  | zero =>
    intro i f m h1 h2 hB h4
    obtain ⟨f, rfl⟩ := jsucc h2
    refine ⟨m, ?_, jfx.rfl, h4⟩
    have := hB.2.2.2.2.1
    show c_X10_next_l100_b F _ m _ = _
    unfold c_X10_next_l100_b
    rw [jgd_t hB.1.1, h4, y_byteAt hB (by omega), jb_some, show (97 : Int64) = Int64.ofNat 97 from rfl, show (122 : Int64) = Int64.ofNat 122 from rfl, y_inb (fun i h => (hB.2.2.2.2.2 i h).2) (by omega) (by omega), jb_some, decide_eq_false (by omega), if_pos (by decide)]
  | succ w ih =>
    intro i f m h1 h2 hB h4
    obtain ⟨f, rfl⟩ := jsucc h2
    have hn := hB.2.2.2.2.1
    have hst : ∀ z, (if 97 ≤ b i ∧ b i ≤ 122 then c_X10_next_l100 F f (jsI m 101 19 (Int32.ofNat (i + 1))) 101 else some m) = z → c_X10_next_l100 F (f + 1) m 101 = z := by
      intro z h
      rw [← h]
      show c_X10_next_l100_b F _ m _ = _
      unfold c_X10_next_l100_b
      rw [jgd_t hB.1.1, h4, y_byteAt hB (by omega), jb_some, show (97 : Int64) = Int64.ofNat 97 from rfl, show (122 : Int64) = Int64.ofNat 122 from rfl, y_inb (fun i h => (hB.2.2.2.2.2 i h).2) (by omega) (by omega), jb_some, jl_1, ji_add]
      by_cases q : 97 ≤ b i ∧ b i ≤ 122
      · rw [decide_eq_true ⟨by omega, q⟩, if_neg (by decide), if_pos q]
      · rw [decide_eq_false (fun h => q h.2), if_pos (by decide), if_neg q]
    by_cases q : 97 ≤ b i ∧ b i ≤ 122
    · have hf : jfx (fun a j => a = 101 ∧ j = 19) m (jsI m 101 19 (Int32.ofNat (i + 1))) := jfx_I ⟨rfl, rfl⟩
      obtain ⟨m', a1, a2, a3⟩ := ih (i + 1) f _ (by omega) (by omega) (jyB_of (hf.weak (fun a j h => by omega)) hB) jsI_y
      refine ⟨m', hst _ (by rw [if_pos q]; exact a1), hf.trans a2, ?_⟩
      rw [a3, jze_y ⟨by omega, q⟩]
    · refine ⟨m, hst _ (if_neg q), jfx.rfl, ?_⟩
      rw [h4, jze_no (fun h => q h.2)]
theorem y_next_l160 : ∀ (w i c v f : Nat) (m : jMe), i + w = n → w < f → c ≤ i → jyB t b n m → jI m 101 19 = Int32.ofNat i → jL m 101 22 = Int64.ofNat v → ∃ m' v', c_X10_next_l160 F f m 101 (Int32.ofNat c) = some (m', 101, Int32.ofNat (c + (jze 48 57 b n w i - i))) ∧ jfx (fun a j => a = 101 ∧ (j = 19 ∨ j = 22)) m m' ∧ jI m' 101 19 = Int32.ofNat (jze 48 57 b n w i) ∧ jL m' 101 22 = Int64.ofNat v' ∧ (c + (jze 48 57 b n w i - i) ≤ 4 → v' = jzv b (jze 48 57 b n w i - i) i v) := by
  intro w
  induction w with
  | zero =>
    intro i c v f m h1 h2 hc hB h4 h7
    obtain ⟨f, rfl⟩ := jsucc h2
    refine ⟨m, v, ?_, jfx.rfl, h4, h7, fun _ => ?_⟩
    · have := hB.2.2.2.2.1
      show c_X10_next_l160_b F _ m _ _ = some (m, 101, Int32.ofNat (c + (i - i)))
      unfold c_X10_next_l160_b
      rw [jgd_t hB.1.1, h4, y_byteAt hB (by omega), jb_some, show (48 : Int64) = Int64.ofNat 48 from rfl, show (57 : Int64) = Int64.ofNat 57 from rfl, y_inb (fun i h => (hB.2.2.2.2.2 i h).2) (by omega) (by omega), jb_some, decide_eq_false (by omega), if_pos (by decide), Nat.sub_self, Nat.add_zero]
    · show v = jzv b (i - i) i v
      rw [Nat.sub_self]
      rfl
  | succ w ih =>
    intro i c v f m h1 h2 hc hB h4 h7
    obtain ⟨f, rfl⟩ := jsucc h2
    have hn := hB.2.2.2.2.1
    have hbi := (hB.2.2.2.2.2 i (by omega)).2
    generalize hv2 : (if 4 ≤ c then v else v * 10 + (b i - 48)) = v2
    have hst : ∀ z, (if 48 ≤ b i ∧ b i ≤ 57 then c_X10_next_l160 F f (jsI (jsL m 101 22 (Int64.ofNat v2)) 101 19 (Int32.ofNat (i + 1))) 101 (Int32.ofNat (c + 1)) else some (m, 101, Int32.ofNat c)) = z → c_X10_next_l160 F (f + 1) m 101 (Int32.ofNat c) = z := by
      intro z h
      rw [← h]
      show c_X10_next_l160_b F _ m _ _ = _
      unfold c_X10_next_l160_b c_X10_next_j216_l160
      simp only [jgd_t hB.1.1, jK_sL, jI_sL]
      rw [h4, y_byteAt hB (by omega), jb_some, show (48 : Int64) = Int64.ofNat 48 from rfl, show (57 : Int64) = Int64.ofNat 57 from rfl, y_inb (fun i h => (hB.2.2.2.2.2 i h).2) (by omega) (by omega), jb_some, jb_some, if_pos (show i < n by omega), h7, jl_1, ji_add, ji_add]
      by_cases q : 48 ≤ b i ∧ b i ≤ 57
      · rw [decide_eq_true ⟨by omega, q⟩, if_neg (by decide), if_pos q, ← hv2]
        by_cases q4 : 4 ≤ c
        · rw [if_pos (show (4 : Int32) ≤ Int32.ofNat c from ji_lep (a := 4) (by omega) (by omega) q4), if_pos q4]
        · rw [if_neg (show ¬ (4 : Int32) ≤ Int32.ofNat c from ji_len (a := 4) (by omega) (by omega) q4), if_neg q4, jt64 (by omega), show (10 : Int64) = Int64.ofNat 10 from rfl, jq_mul, jq_add, jq_sub (by omega), show 10 * v + b i - 48 = v * 10 + (b i - 48) by omega]
      · rw [decide_eq_false (fun h => q h.2), if_pos (by decide), if_neg q]
    by_cases q : 48 ≤ b i ∧ b i ≤ 57
    · have hf : jfx (fun a j => a = 101 ∧ (j = 19 ∨ j = 22)) m (jsI (jsL m 101 22 (Int64.ofNat v2)) 101 19 (Int32.ofNat (i + 1))) := (jfx_L (S := fun a j => a = 101 ∧ (j = 19 ∨ j = 22)) ⟨rfl, Or.inr rfl⟩).trans (jfx_I ⟨rfl, Or.inl rfl⟩)
      obtain ⟨m', v', a1, a2, a3, a4, a5⟩ := ih (i + 1) (c + 1) v2 f _ (by omega) (by omega) (by omega) (jyB_of (hf.weak (fun a j h => by omega)) hB) jsI_y (by rw [jL_sI, jsL_y])
      have hle := jze_le (lo := 48) (hi := 57) (b := b) (n := n) w (i + 1) (by omega)
      have e : jze 48 57 b n (w + 1) i = jze 48 57 b n w (i + 1) := jze_y ⟨by omega, q⟩
      refine ⟨m', v', hst _ ?_, hf.trans a2, ?_, a4, fun h => ?_⟩
      · rw [if_pos q, a1, e, show c + 1 + (jze 48 57 b n w (i + 1) - (i + 1)) = c + (jze 48 57 b n w (i + 1) - i) by omega]
      · rw [a3, e]
      · rw [e] at h ⊢
        rw [a5 (by omega), ← hv2, if_neg (by omega), show jze 48 57 b n w (i + 1) - i = (jze 48 57 b n w (i + 1) - (i + 1)) + 1 by omega]
        rfl
    · have e : jze 48 57 b n (w + 1) i = i := jze_no (fun h => q h.2)
      refine ⟨m, v, hst _ ?_, jfx.rfl, ?_, h7, fun _ => ?_⟩
      · rw [if_neg q, e, Nat.sub_self, Nat.add_zero]
      · rw [h4, e]
      · rw [e, Nat.sub_self]
        rfl
theorem y_next (hF : 1000 < F) {m : jMe} {i : Nat} (hB : jyB t b n m) (h4 : jI m 101 19 = Int32.ofNat i) (hi : i ≤ n) (h24 : jI m 101 24 = 0) : ∃ m', c_X10_next F m 101 = some m' ∧ jyFs m m' ∧ jyU b n m' (jzs b n i) := by
  have hn160 := hB.2.2.2.2.1
  have hb := fun i h => (hB.2.2.2.2.2 i h).2
  obtain ⟨m1, a1, a2, a3⟩ := y_next_l0 (F := F) (n - i) i F m (by omega) (by omega) hB h4
  have hle := jzb_le (b := b) (n := n) (n - i) i hi
  unfold jzs
  generalize jzb b n (n - i) i = p at a3 hle ⊢
  have f1 : jyFs m m1 := a2.weak (fun a j h => by omega)
  have hB1 := jyB_of (jyFs_F f1) hB
  generalize hm2 : jsI m1 101 21 (jI m1 101 19) = m2
  have f2 : jyFs m1 m2 := by rw [← hm2]; exact jfx_I ⟨rfl, by omega⟩
  have hB2 := jyB_of (jyFs_F f2) hB1
  have h21 : jI m2 101 21 = Int32.ofNat p := by rw [← hm2, jsI_y]; exact a3
  have h19 : jI m2 101 19 = Int32.ofNat p := by rw [← hm2, jsI_no (by omega)]; exact a3
  generalize hm3 : jsI m2 101 20 (4 : Int32) = m3
  have f3 : jyFs m2 m3 := by rw [← hm3]; exact jfx_I ⟨rfl, by omega⟩
  have hB3 := jyB_of (jyFs_F f3) hB2
  have f13 := (f1.trans f2).trans f3
  have g21 : jI m3 101 21 = Int32.ofNat p := by rw [← hm3, jsI_no (by omega)]; exact h21
  have g19 : jI m3 101 19 = Int32.ofNat p := by rw [← hm3, jsI_no (by omega)]; exact h19
  have g20 : jI m3 101 20 = 4 := by rw [← hm3, jsI_y]
  have g24 : jI m3 101 24 = 0 := by rw [f13.I (by omega)]; exact h24
  have g18 := hB3.2.2.2.1
  unfold c_X10_next c_X10_next_j306 c_X10_next_j246
  rw [a1, jb_some]
  dsimp only
  rw [jgd_t hB1.1.1, hm2, hm3, h19, y_byteAt hB2 (by omega), jb_some]
  unfold jzt
  by_cases q0 : n ≤ p
  · rw [if_neg (show ¬ p < n by omega), if_neg (show ¬ (0 : Int32) ≤ -1 by decide), if_pos q0, jlet_m]
    refine ⟨_, rfl, f13.trans ((jfx_I (S := fun a i => a = 101 ∧ 19 ≤ i ∧ i ≤ 22) ⟨rfl, by omega⟩).trans (jfx_I ⟨rfl, by omega⟩)), ?_, ?_, ?_, by show (1 : Nat) ≠ 0; omega, fun _ => ?_, fun h => ?_, fun h => ?_, fun h => ?_⟩
    · rw [jsI_no (by omega), jsI_no (by omega)]; exact g24
    · rw [jsI_y, jsI_no (by omega), g18, show n = p by omega]
    · rw [jsI_no (by omega), jsI_no (by omega)]; exact g19
    · rw [jsI_no (by omega), jsI_y]
    · have h : (1 : Nat) = 2 := h
      omega
    · have h : 3 ≤ (1 : Nat) := h
      omega
    · have h : 8 ≤ (1 : Nat) := h
      omega
  · have hp : p < n := by omega
    have hbp := hb p hp
    have hin := fun lo hi h1 h2 => y_inb (F := F) (m := m3) hb (i := p) (lo := lo) (hi := hi) h1 h2
    have hi1 := hin 97 122 (by omega) (by omega)
    have hi2 := hin 48 57 (by omega) (by omega)
    rw [if_pos hp] at hi1 hi2
    rw [if_pos hp, if_pos (ji_0le (by omega)), show (97 : Int64) = Int64.ofNat 97 from rfl, show (122 : Int64) = Int64.ofNat 122 from rfl, show (48 : Int64) = Int64.ofNat 48 from rfl, show (57 : Int64) = Int64.ofNat 57 from rfl, hi1, jb_some, if_neg q0]
    by_cases q1 : 97 ≤ b p ∧ b p ≤ 122
    · rw [decide_eq_true ⟨hp, q1⟩, if_neg (by decide), if_pos q1]
      generalize hm4 : jsI m3 101 20 (1 : Int32) = m4
      have f4 : jyFs m3 m4 := by rw [← hm4]; exact jfx_I ⟨rfl, by omega⟩
      have hB4 := jyB_of (jyFs_F f4) hB3
      obtain ⟨m5, b1, b2, b3⟩ := y_next_l100 (F := F) (n - p) p F m4 (by omega) (by omega) hB4 (by rw [← hm4, jsI_no (by omega)]; exact g19)
      have hlt := jze_lt (b := b) (n := n) (i := p) hp q1.1 q1.2
      have hle2 := (jze_le (lo := 97) (hi := 122) (b := b) (n := n) (n - p) p (by omega)).2
      have hwd : jyw b p (jze 97 122 b n (n - p) p) := fun j h1 h2 => jze_in (n - p) p j h1 h2
      generalize jze 97 122 b n (n - p) p = q at b3 hlt hle2 hwd ⊢
      have hn8 := jzn_lt (b := b) (p := p) (q := q) q1.1
      have k20 : jI m5 101 20 = 1 := by rw [b2.I (by omega), ← hm4, jsI_y]
      have k21 : jI m5 101 21 = Int32.ofNat p := by rw [b2.I (by omega), ← hm4, jsI_no (by omega)]; exact g21
      have k24 : jI m5 101 24 = 0 := by rw [b2.I (by omega), ← hm4, jsI_no (by omega)]; exact g24
      rw [b1, jb_some]
      refine ⟨m5, rfl, (f13.trans f4).trans (b2.weak (fun a j h => by omega)), ?_⟩
      unfold jztw
      by_cases qn : (jzn b p q).1 = 0
      · rw [if_pos qn]
        exact ⟨by omega, Or.inr ⟨k24, k21, Or.inr ⟨k20, q, b3, hle2, hlt, hwd, qn⟩⟩⟩
      · rw [if_neg qn]
        refine ⟨k24, k21, b3, qn, fun h => absurd h hn8.2.2.1, fun h => absurd h hn8.2.2.2, fun _ _ => ⟨k20, rfl, hwd, hlt⟩, fun h => ?_⟩
        have h : 8 ≤ (jzn b p q).1 := h
        omega
    · rw [decide_eq_false (fun h => q1 h.2), if_pos (show jbi false = 0 from rfl), if_neg q1, hi2, jb_some]
      by_cases q2 : 48 ≤ b p ∧ b p ≤ 57
      · rw [decide_eq_true ⟨hp, q2⟩, if_neg (by decide), if_pos q2]
        generalize hm4 : jsL (jsI m3 101 20 (2 : Int32)) 101 22 (0 : Int64) = m4
        have f4 : jyFs m3 m4 := by rw [← hm4]; exact (jfx_I (S := fun a i => a = 101 ∧ 19 ≤ i ∧ i ≤ 22) ⟨rfl, by omega⟩).trans (jfx_L ⟨rfl, by omega⟩)
        have hB4 := jyB_of (jyFs_F f4) hB3
        obtain ⟨m5, v', b1, b2, b3, b4, b5⟩ := y_next_l160 (F := F) (n - p) p 0 0 F m4 (by omega) (by omega) (by omega) hB4 (by rw [← hm4, jI_sL, jsI_no (by omega)]; exact g19) (by rw [← hm4, jsL_y]; rfl)
        have hlt := jze_lt (b := b) (n := n) (i := p) hp q2.1 q2.2
        have hle2 := (jze_le (lo := 48) (hi := 57) (b := b) (n := n) (n - p) p (by omega)).2
        generalize jze 48 57 b n (n - p) p = q at b1 b3 b5 hlt hle2 ⊢
        have k21 : jI m5 101 21 = Int32.ofNat p := by rw [b2.I (by omega), ← hm4, jI_sL, jsI_no (by omega)]; exact g21
        have k24 : jI m5 101 24 = 0 := by rw [b2.I (by omega), ← hm4, jI_sL, jsI_no (by omega)]; exact g24
        have f5 : jyFs m4 m5 := b2.weak (fun a j h => by omega)
        have hB5 := jyB_of (jyFs_F f5) hB4
        rw [Nat.zero_add] at b1 b5
        rw [jl_0, b1, jb_some]
        dsimp only
        simp only [jgd_t hB5.1.1]
        unfold jztn
        by_cases q3 : q - p ≤ 4
        · rw [if_pos (show Int32.ofNat (q - p) ≤ 4 from ji_lep (b := 4) (by omega) (by omega) q3), if_neg (show ¬ 4 < q - p by omega)]
          refine ⟨_, rfl, ((f13.trans f4).trans f5).trans (jfx_I ⟨rfl, by omega⟩), ?_, ?_, ?_, by show (2 : Nat) ≠ 0; omega, fun h => ?_, fun _ => ⟨?_, ?_⟩, fun h => ?_, fun h => ?_⟩
          · rw [jsI_no (by omega)]; exact k24
          · rw [jsI_no (by omega)]; exact k21
          · rw [jsI_no (by omega)]; exact b3
          · have h : (2 : Nat) = 1 := h
            omega
          · rw [jsI_y]
          · rw [jL_sI, b4, b5 q3]
          · have h : 3 ≤ (2 : Nat) := h
            omega
          · have h : 8 ≤ (2 : Nat) := h
            omega
        · rw [if_neg (show ¬ Int32.ofNat (q - p) ≤ 4 from ji_len (b := 4) (by omega) (by omega) q3), if_pos (show 4 < q - p by omega)]
          refine ⟨_, rfl, ((f13.trans f4).trans f5).trans (jfx_I ⟨rfl, by omega⟩), show p ≤ 160 by omega, Or.inr ⟨?_, ?_, Or.inl ?_⟩⟩
          · rw [jsI_no (by omega)]; exact k24
          · rw [jsI_no (by omega)]; exact k21
          · rw [jsI_y]
      · rw [decide_eq_false (fun h => q2 h.2), if_pos (show jbi false = 0 from rfl), if_neg q2]
        simp only [jgd_t hB3.1.1]
        have hsg : jzg (b p) = true → ∃ m', some (jsI (jsL (jsI m3 101 20 (3 : Int32)) 101 22 (Int32.toInt64 (Int32.ofNat (b p)))) 101 19 ((jI (jsL (jsI m3 101 20 (3 : Int32)) 101 22 (Int32.toInt64 (Int32.ofNat (b p)))) 101 19) + (1 : Int32))) = some m' ∧ jyFs m m' ∧ jyU b n m' (if jzg (b p) = true then .inr (b p, 0, p, p + 1) else .inl p) := by
          intro hg
          have h8 : 8 ≤ b p := by
            unfold jzg at hg
            simp only [Bool.or_eq_true, decide_eq_true_eq] at hg
            omega
          rw [if_pos hg]
          refine ⟨_, rfl, f13.trans (((jfx_I (S := fun a i => a = 101 ∧ 19 ≤ i ∧ i ≤ 22) ⟨rfl, by omega⟩).trans (jfx_L ⟨rfl, by omega⟩)).trans (jfx_I ⟨rfl, by omega⟩)), ?_, ?_, ?_, by show b p ≠ 0; omega, fun h => ?_, fun h => ?_, fun _ h => ?_, fun _ => ⟨?_, ?_⟩⟩
          · rw [jsI_no (by omega), jI_sL, jsI_no (by omega)]; exact g24
          · rw [jsI_no (by omega), jI_sL, jsI_no (by omega)]; exact g21
          · rw [jsI_y, jI_sL, jsI_no (by omega), g19, jl_1, ji_add]
          · have h : b p = 1 := h
            omega
          · have h : b p = 2 := h
            omega
          · have h : b p ≤ 7 := h
            omega
          · rw [jsI_no (by omega), jI_sL, jsI_y]
          · rw [jL_sI, jsL_y, jt64 (by omega)]
        have hk : ∀ k, k < 256 → (Int32.ofNat (b p) = Int32.ofNat k ↔ b p = k) := fun k h => ji_tk hbp h
        have hg : ∀ k, b p = k → jzg k = true → jzg (b p) = true := fun k e h => by rw [e]; exact h
        by_cases c1 : b p = 40
        · rw [if_pos (show Int32.ofNat (b p) = 40 from (hk 40 (by omega)).mpr c1)]
          exact hsg (hg 40 c1 (by decide))
        rw [if_neg (show ¬ Int32.ofNat (b p) = 40 from fun h => c1 ((hk 40 (by omega)).mp h))]
        by_cases c2 : b p = 41
        · rw [if_pos (show Int32.ofNat (b p) = 41 from (hk 41 (by omega)).mpr c2)]
          exact hsg (hg 41 c2 (by decide))
        rw [if_neg (show ¬ Int32.ofNat (b p) = 41 from fun h => c2 ((hk 41 (by omega)).mp h))]
        by_cases c3 : b p = 59
        · rw [if_pos (show Int32.ofNat (b p) = 59 from (hk 59 (by omega)).mpr c3)]
          exact hsg (hg 59 c3 (by decide))
        rw [if_neg (show ¬ Int32.ofNat (b p) = 59 from fun h => c3 ((hk 59 (by omega)).mp h))]
        by_cases c4 : b p = 43
        · rw [if_pos (show Int32.ofNat (b p) = 43 from (hk 43 (by omega)).mpr c4)]
          exact hsg (hg 43 c4 (by decide))
        rw [if_neg (show ¬ Int32.ofNat (b p) = 43 from fun h => c4 ((hk 43 (by omega)).mp h))]
        by_cases c5 : b p = 45
        · rw [if_pos (show Int32.ofNat (b p) = 45 from (hk 45 (by omega)).mpr c5)]
          exact hsg (hg 45 c5 (by decide))
        rw [if_neg (show ¬ Int32.ofNat (b p) = 45 from fun h => c5 ((hk 45 (by omega)).mp h))]
        by_cases c6 : b p = 42
        · rw [if_pos (show Int32.ofNat (b p) = 42 from (hk 42 (by omega)).mpr c6)]
          exact hsg (hg 42 c6 (by decide))
        rw [if_neg (show ¬ Int32.ofNat (b p) = 42 from fun h => c6 ((hk 42 (by omega)).mp h))]
        by_cases c7 : b p = 37
        · rw [if_pos (show Int32.ofNat (b p) = 37 from (hk 37 (by omega)).mpr c7)]
          exact hsg (hg 37 c7 (by decide))
        rw [if_neg (show ¬ Int32.ofNat (b p) = 37 from fun h => c7 ((hk 37 (by omega)).mp h))]
        by_cases c8 : b p = 60
        · rw [if_pos (show Int32.ofNat (b p) = 60 from (hk 60 (by omega)).mpr c8)]
          exact hsg (hg 60 c8 (by decide))
        rw [if_neg (show ¬ Int32.ofNat (b p) = 60 from fun h => c8 ((hk 60 (by omega)).mp h))]
        by_cases c9 : b p = 61
        · rw [if_pos (show Int32.ofNat (b p) = 61 from (hk 61 (by omega)).mpr c9)]
          exact hsg (hg 61 c9 (by decide))
        rw [if_neg (show ¬ Int32.ofNat (b p) = 61 from fun h => c9 ((hk 61 (by omega)).mp h))]
        have hno : ¬ jzg (b p) = true := by
          intro h
          unfold jzg at h
          simp only [Bool.or_eq_true, decide_eq_true_eq] at h
          omega
        rw [if_neg hno]
        exact ⟨m3, rfl, f13, by omega, Or.inr ⟨g24, g21, Or.inl g20⟩⟩
theorem y_fail {m : jMe} (hL : jLM m) {p : Nat} (hp : p ≤ 160) (h : (jI m 101 24 = 0 ∧ jI m 101 21 = Int32.ofNat p) ∨ (jI m 101 24 = 1 ∧ jI m 101 25 = Int32.ofNat p)) : ∃ m', c_X10_fail F m 101 = some m' ∧ jfx (fun a i => a = 101 ∧ (i = 24 ∨ i = 25)) m m' ∧ jI m' 101 24 = 1 ∧ jI m' 101 25 = Int32.ofNat p := by
  unfold c_X10_fail
  rw [jgd_t hL.1]
  rcases h with ⟨h1, h2⟩ | ⟨h1, h2⟩
  · rw [if_pos h1]
    refine ⟨_, rfl, (jfx_I (S := fun a i => a = 101 ∧ (i = 24 ∨ i = 25)) ⟨rfl, Or.inl rfl⟩).trans (jfx_I ⟨rfl, Or.inr rfl⟩), ?_, ?_⟩
    · rw [jsI_no (by omega), jsI_y]
    · rw [jsI_y, jsI_no (by omega), h2]
  · rw [if_neg (by rw [h1]; decide)]
    exact ⟨m, rfl, jfx.rfl, h1, h2⟩
end YTOK
