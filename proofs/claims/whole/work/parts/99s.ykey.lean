/-! without, key, as the reference tells them -/
section YKEY
variable {F : Nat} {D : jD} {S : jTS}
abbrev jwD (D : jD) (r k : Nat) : jD := jUl D r (jli (jDl D r) k false)
def jGw (D : jD) (G : Nat → Nat → Bool) : Prop := ∀ r k, r < 4 → k < jDz D r → (jDl D r).testBit k = true → (G r k = true ↔ jGt (jwD D r k))
/-- a count without a row, or none -/
def jcwo (D : jD) (G : Nat → Nat → Bool) (r k : Nat) : Int64 := if (jDl D r).testBit k = true ∧ G r k = false then Int64.ofNat (jct (jwD D r k) jf1) else -4611686018427387904
def jwou (D : jD) (G : Nat → Nat → Bool) (x1 x2 : Int32) : Int64 := if jrow D x1 x2 = true ∧ jDq D ≠ 0 then jcwo D G x1.toNatClampNeg x2.toNatClampNeg else -4611686018427387904
theorem y_without (hF : 5000 < F) (hDS : jDS D S) {G : Nat → Nat → Bool} (hG : jGw D G) {m : jMe} (hQ : jyQ D S m) {x1 x2 : Int32} : ∃ m', c_X10_without F m 101 x1 x2 = some (jwou D G x1 x2, m') ∧ jfx jyP m m' ∧ jyQ D S m' := by
  have hD := hDS.1
  have hL := hQ.1.1
  unfold c_X10_without jwou
  rw [jgd_t hL.1, y_isRow hL hQ.1.2.1 hD, jb_some]
  cases e1 : jrow D x1 x2 with
  | false =>
    refine ⟨m, ?_, jfx.rfl, hQ⟩
    rw [if_pos (show jbi false = 0 from rfl), if_neg (fun h => by cases h.1)]
  | true =>
    obtain ⟨r, k, rfl, rfl, hr, hk, hr2, hk2⟩ := jrow_nat e1
    have hr4 : r < 4 := Nat.lt_of_lt_of_le hr hD.1
    have hz := (hD.2.2.1 r hr4).2.2.1
    rw [if_neg (show ¬ jbi true = 0 by decide), ji_n hr2, ji_n hk2, jp_110 hL, jgd_t (jk_110 hL), jz_110 hL, show (8 : Int32) = Int32.ofNat 8 from rfl, ji_mul, ji_add, jgd_t (ji_int (by omega) (by omega)), ji_n (by omega), ((hQ.1.2.1.2.2.2 r hr4).2.2.2 k hk).2.2, hQ.1.2.1.2.2.1]
    unfold jcwo
    cases e2 : (jDl D r).testBit k with
    | false =>
      refine ⟨m, ?_, jfx.rfl, hQ⟩
      rw [if_pos (show jbi false = 0 from rfl), if_neg (show ¬ (false = true ∧ G r k = false) from fun h => by cases h.1), ite_self]
    | true =>
      rw [if_neg (show ¬ jbi true = 0 by decide)]
      by_cases hq0 : jDq D = 0
      · refine ⟨m, ?_, jfx.rfl, hQ⟩
        rw [if_pos ((jDq_0 hD).mpr hq0), if_neg (fun h => h.2 hq0)]
      · obtain ⟨m1, a1, a2, a3⟩ := y_countWithout (F := F) hF hDS hq0 hr4 hk e2 (hG r k hr4 hk e2) hQ
        refine ⟨m1, ?_, a2, a3⟩
        rw [if_neg (fun h => hq0 ((jDq_0 hD).mp h)), if_pos ⟨rfl, hq0⟩, a1, jb_some]
        cases G r k with
        | false => rw [if_pos rfl, if_pos ⟨rfl, rfl⟩]
        | true => rw [if_neg (by decide), if_neg (show ¬ (true = true ∧ true = false) from fun h => by cases h.2)]
/-- the least of counts, with its item: one more is seen -/
def jkst (v it : Int64) (s : Int64 × Int64) : Int64 × Int64 := if v = -4611686018427387904 then s else if s.1 = -4611686018427387904 then (it, v) else if s.2 ≤ v then s else (it, v)
def jk40 (D : jD) (G : Nat → Nat → Bool) (r : Nat) : Nat → Nat → Int64 × Int64 → Int64 × Int64
  | 0, _, s => s
  | t + 1, k, s => jk40 D G r t (k + 1) (jkst (jcwo D G r k) (Int64.ofNat (8 * r + k)) s)
def jk31 (D : jD) (G : Nat → Nat → Bool) : Nat → Nat → Int64 × Int64 → Int64 × Int64
  | 0, _, s => s
  | t + 1, r, s => jk31 D G t (r + 1) (if (jDq D).testBit r = true then jk40 D G r (jDz D r) 0 s else s)
theorem y_key_j91 {B : jMe → Nat → Int32 → Int64 → Int64 → Int32 → Int32 → Option (jMe × Nat × Int32 × Int64 × Int64 × Int32)} {m : jMe} {x : Int32} {r k : Nat} (hr : r < 4) (hk : k < 8) {s : Int64 × Int64} {v : Int64} : c_X10_key_j91_l40 F B m 101 x s.1 s.2 (Int32.ofNat r) (Int32.ofNat k) v = B m 101 x (jkst v (Int64.ofNat (8 * r + k)) s).1 (jkst v (Int64.ofNat (8 * r + k)) s).2 (Int32.ofNat r) (Int32.ofNat (k + 1)) := by
  unfold c_X10_key_j91_l40 c_X10_key_j118_l40 jkst
  rw [jt64 (by omega), jt64 (by omega), show (8 : Int64) = Int64.ofNat 8 from rfl, jq_mul, jq_add, show Int32.ofNat k + 1 = Int32.ofNat (k + 1) from ji_add k 1]
  by_cases e1 : v = -4611686018427387904
  · rw [if_pos (jc_eq0.mpr e1), if_pos e1]
  rw [if_neg (fun h => e1 (jc_eq0.mp h)), if_neg e1]
  by_cases e2 : s.1 = -4611686018427387904
  · rw [if_pos (jc_eq0.mpr e2), if_pos e2]
  rw [if_neg (fun h => e2 (jc_eq0.mp h)), if_neg e2]
  by_cases e3 : s.2 ≤ v
  · rw [if_pos (jc_0le.mpr e3), if_pos e3]
  · rw [if_neg (fun h => e3 (jc_0le.mp h)), if_neg e3]
theorem y_key_l40 (hF : 5000 < F) (hDS : jDS D S) (hq0 : jDq D ≠ 0) {G : Nat → Nat → Bool} (hG : jGw D G) {x : Int32} {r : Nat} (hr : r < 4) (hin : (jDq D).testBit r = true) : ∀ (t k f : Nat) (m : jMe) (s : Int64 × Int64), k + t = jDz D r → t < f → jyQ D S m → ∃ m', c_X10_key_l40 F f m 101 x s.1 s.2 (Int32.ofNat r) (Int32.ofNat k) = some (m', 101, x, (jk40 D G r t k s).1, (jk40 D G r t k s).2, Int32.ofNat r) ∧ jfx jyP m m' ∧ jyQ D S m' := by
  have hD := hDS.1
  have hz := (hD.2.2.1 r hr).2.2.1
  have hq16 := jDok_q hD
  intro t
  induction t with
  | zero =>
    intro k f m s h1 h2 hQ
    obtain ⟨f, rfl⟩ := jsucc h2
    have hL := hQ.1.1
    refine ⟨m, ?_, jfx.rfl, hQ⟩
    show c_X10_key_l40_b F _ m _ _ _ _ _ _ = _
    unfold c_X10_key_l40_b
    rw [jgd_t hL.1, y_isIn hL hQ.1.2.1 hq16 (by omega), jb_some, hin, if_neg (show ¬ jbi true = 0 by decide), jp_107 hL, jgd_t (jk_107 hL), jz_107 hL, jgd_t (ji_int (by omega) hr), ji_n (by omega), (hQ.1.2.1.2.2.2 r hr).2.2.1, if_pos (ji_lep (by omega) (by omega) (by omega))]
    rfl
  | succ t ih =>
    intro k f m s h1 h2 hQ
    obtain ⟨f, rfl⟩ := jsucc h2
    have hL := hQ.1.1
    have hk : k < jDz D r := by omega
    show ∃ m', c_X10_key_l40_b F _ m _ _ _ _ _ _ = _ ∧ _
    unfold c_X10_key_l40_b
    rw [jgd_t hL.1, y_isIn hL hQ.1.2.1 hq16 (by omega), jb_some, hin, if_neg (show ¬ jbi true = 0 by decide), jp_107 hL, jgd_t (jk_107 hL), jz_107 hL, jgd_t (ji_int (by omega) hr), ji_n (by omega), (hQ.1.2.1.2.2.2 r hr).2.2.1, if_neg (ji_len (by omega) (by omega) (by omega)), jp_110 hL, jgd_t (jk_110 hL), jz_110 hL, show (8 : Int32) = Int32.ofNat 8 from rfl, ji_mul, ji_add, jgd_t (ji_int (by omega) (by omega)), ji_n (by omega), ((hQ.1.2.1.2.2.2 r hr).2.2.2 k hk).2.2, jk40]
    cases e2 : (jDl D r).testBit k with
    | false =>
      have hv : jcwo D G r k = -4611686018427387904 := by
        unfold jcwo
        rw [if_neg (fun h => by rw [e2] at h; cases h.1)]
      rw [if_pos (show jbi false = 0 from rfl), y_key_j91 hr (by omega), hv]
      exact ih (k + 1) f m _ (by omega) (by omega) hQ
    | true =>
      obtain ⟨m1, a1, a2, a3⟩ := y_countWithout (F := F) hF hDS hq0 hr hk e2 (hG r k hr hk e2) hQ
      have hv : jcwo D G r k = if G r k = false then Int64.ofNat (jct (jwD D r k) jf1) else -4611686018427387904 := by
        unfold jcwo
        by_cases e : G r k = false
        · rw [if_pos e, if_pos ⟨e2, e⟩]
        · rw [if_neg e, if_neg (fun h => e h.2)]
      rw [if_neg (show ¬ jbi true = 0 by decide), a1, jb_some]
      dsimp only
      rw [y_key_j91 hr (by omega), ← hv]
      obtain ⟨m', b1, b2, b3⟩ := ih (k + 1) f m1 _ (by omega) (by omega) a3
      exact ⟨m', b1, a2.trans b2, b3⟩
theorem y_key_l31 (hF : 5000 < F) (hDS : jDS D S) (hq0 : jDq D ≠ 0) {G : Nat → Nat → Bool} (hG : jGw D G) {x : Int32} : ∀ (t r f : Nat) (m : jMe) (s : Int64 × Int64), r + t = 4 → t < f → jyQ D S m → ∃ m', c_X10_key_l31 F f m 101 x s.1 s.2 (Int32.ofNat r) = some (m', x, (jk31 D G t r s).1, (jk31 D G t r s).2) ∧ jfx jyP m m' ∧ jyQ D S m' := by
  have hD := hDS.1
  have hq16 := jDok_q hD
  intro t
  induction t with
  | zero =>
    intro r f m s h1 h2 hQ
    obtain ⟨f, rfl⟩ := jsucc h2
    refine ⟨m, ?_, jfx.rfl, hQ⟩
    show c_X10_key_l31_b F _ m _ _ _ _ _ = _
    unfold c_X10_key_l31_b
    rw [if_pos (show (4 : Int32) ≤ Int32.ofNat r from ji_lep (a := 4) (by omega) (by omega) (by omega))]
    rfl
  | succ t ih =>
    intro r f m s h1 h2 hQ
    obtain ⟨f, rfl⟩ := jsucc h2
    have hL := hQ.1.1
    show ∃ m', c_X10_key_l31_b F _ m _ _ _ _ _ = _ ∧ _
    unfold c_X10_key_l31_b
    rw [if_neg (show ¬ (4 : Int32) ≤ Int32.ofNat r from ji_len (a := 4) (by omega) (by omega) (by omega)), jk31]
    have hz := (hD.2.2.1 r (by omega)).2.2.1
    cases e : (jDq D).testBit r with
    | false =>
      have h0 : c_X10_key_l40 F F m 101 x s.1 s.2 (Int32.ofNat r) (0 : Int32) = some (m, 101, x, s.1, s.2, Int32.ofNat r) := by
        obtain ⟨F', rfl⟩ := jsucc (show 0 < F by omega)
        show c_X10_key_l40_b (F' + 1) _ m _ _ _ _ _ _ = _
        unfold c_X10_key_l40_b
        rw [jgd_t hL.1, y_isIn hL hQ.1.2.1 hq16 (by omega), jb_some, e, if_pos (show jbi false = 0 from rfl)]
      rw [h0, jb_some, if_neg (show ¬ false = true by decide)]
      dsimp only
      rw [show Int32.ofNat r + 1 = Int32.ofNat (r + 1) from ji_add r 1]
      exact ih (r + 1) f m s (by omega) (by omega) hQ
    | true =>
      obtain ⟨m1, a1, a2, a3⟩ := y_key_l40 (F := F) hF hDS hq0 hG (x := x) (r := r) (by omega) e (jDz D r) 0 F m s (by omega) (by omega) hQ
      have a1 : c_X10_key_l40 F F m 101 x s.1 s.2 (Int32.ofNat r) (0 : Int32) = _ := a1
      rw [a1, jb_some, if_pos (show true = true from rfl)]
      dsimp only
      rw [show Int32.ofNat r + 1 = Int32.ofNat (r + 1) from ji_add r 1]
      obtain ⟨m', b1, b2, b3⟩ := ih (r + 1) f m1 _ (by omega) (by omega) a3
      exact ⟨m', b1, a2.trans b2, b3⟩
def jkey1 (D : jD) (G : Nat → Nat → Bool) (x1 : Int32) : Int64 := if (jk31 D G 4 0 (-4611686018427387904, 0)).1 = -4611686018427387904 then -4611686018427387904 else if x1 = 0 then (jk31 D G 4 0 (-4611686018427387904, 0)).1 else (jk31 D G 4 0 (-4611686018427387904, 0)).2
theorem y_key (hF : 5000 < F) (hDS : jDS D S) {g : Bool} (hg : g = true ↔ jGt D) {G : Nat → Nat → Bool} (hG : jGw D G) {m : jMe} (hQ : jyQ D S m) {x1 : Int32} : ∃ m', c_X10_key F m 101 x1 = some (if jbt2 x1 0 1 = true ∧ jDq D ≠ 0 ∧ g = false then jkey1 D G x1 else -4611686018427387904, m') ∧ jfx jyP m m' ∧ jyQ D S m' := by
  have hL := hQ.1.1
  unfold c_X10_key
  rw [show c_X10_in F m (Int32.toInt64 x1) (0 : Int64) (1 : Int64) = some (jbi (jbt2 x1 0 1)) from q_in_int (lo := 0) (hi := 1) (by omega) (by omega), jb_some]
  cases e1 : jbt2 x1 0 1 with
  | false =>
    refine ⟨m, ?_, jfx.rfl, hQ⟩
    rw [if_pos (show jbi false = 0 from rfl), if_neg (fun h => by cases h.1)]
  | true =>
    rw [if_neg (show ¬ jbi true = 0 by decide), jgd_t hL.1]
    rcases y_told (F := F) (by omega) hDS hg hQ with ⟨ht, m1, a1, a2, a3, a4⟩ | ⟨ht, m1, a1, a2, a3, a4⟩
    · rw [if_pos ⟨rfl, ht⟩, a1, jb_some]
      dsimp only
      rw [if_neg (show ¬ (1 : Int32) = 0 by decide)]
      obtain ⟨m2, b1, b2, b3⟩ := y_key_l31 (F := F) hF hDS ht.1 hG (x := x1) 4 0 F m1 (-4611686018427387904, 0) (by omega) (by omega) a4
      have b1 : c_X10_key_l31 F F m1 101 x1 (-4611686018427387904) 0 (0 : Int32) = _ := b1
      rw [b1, jb_some]
      refine ⟨m2, ?_, (a2.weak (fun a i h => Or.inl h)).trans b2, b3⟩
      unfold jkey1
      dsimp only
      by_cases e2 : (jk31 D G 4 0 (-4611686018427387904, 0)).1 = -4611686018427387904
      · rw [if_pos (jc_eq0.mpr e2), if_pos e2, e2]
      · rw [if_neg (fun h => e2 (jc_eq0.mp h)), if_neg e2]
        by_cases e3 : x1 = 0
        · rw [if_pos e3, if_pos e3]
        · rw [if_neg e3, if_neg e3]
    · rw [if_neg (fun h => ht h.2), a1, jb_some]
      exact ⟨m1, rfl, a2.weak (fun a i h => Or.inl h), a4⟩
end YKEY
