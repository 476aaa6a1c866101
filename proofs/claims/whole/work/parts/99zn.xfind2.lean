/-! the least position of an answer, as the class finds it -/
section XPLACE
variable {F b : Nat} {D : jD}
theorem jq_addz (n : Nat) : Int64.ofNat n + (0 : Int64) = Int64.ofNat n := by
  rw [show (0 : Int64) = Int64.ofNat 0 from rfl, jq_add, Nat.add_zero]
theorem q_weightsAhead_l62 {m : jMe} {r : Nat} (hr : r < 4) (hI : jIn D b m) {R : Nat → Nat} (hR : jI m (b + 12) r = Int32.ofNat (R r)) (hRz : R r < jDz D r) (hw : jWd D b m r) {g0 gs : Int32} {S : Nat → Bool} (hgs : ∀ a, a < 8 → jnb gs a = if S a then 15 else 0) (hM : ∀ k, k < jDz D r → jmg D r k S (jnb g0) = jMp D R r k) : ∀ (t k f : Nat), k + t = R r → t < f → c_X2_weightsAhead_l62 F m f b (Int32.ofNat r) g0 gs (Int64.ofNat (jsum k (fun k => if jMp D R r k = true then jW1 D r k else 0))) (Int32.ofNat k) = some (Int64.ofNat (jwa D R r)) := by
  have hz := (hI.2.2.2.2.2 r hr).2.2.1
  have hpk := hI.1.2.2.2.2.2.2.2.2.2.2.2.2.2.2.2.2.1
  have hwt := hI.1.2.2.2.2.2.2.2.2.2.2.1
  obtain ⟨r1, r2⟩ := hI.2.2.1.2.2 r hr
  intro t
  induction t with
  | zero =>
    intro k f h1 h2
    obtain ⟨f, rfl⟩ := jsucc h2
    show c_X2_weightsAhead_l62_b F _ m _ _ _ _ _ _ = _
    unfold c_X2_weightsAhead_l62_b
    rw [jgd_t hI.1.1, hI.1.2.2.2.2.2.2.2.2.1, jgd_t hpk.1, hpk.2, jgd_t (ji_int (by omega) hr), ji_n (by omega), hR, if_pos (ji_lep (by omega) (by omega) (by omega)), show k = R r by omega]
    rfl
  | succ t ih =>
    intro k f h1 h2
    obtain ⟨f, rfl⟩ := jsucc h2
    have ih := ih (k + 1) f (by omega) (by omega)
    rw [jsum_s] at ih
    show c_X2_weightsAhead_l62_b F _ m _ _ _ _ _ _ = _
    unfold c_X2_weightsAhead_l62_b
    rw [jgd_t hI.1.1, hI.1.2.2.2.2.2.2.2.2.1, jgd_t hpk.1, hpk.2, jgd_t (ji_int (by omega) hr), ji_n (by omega), hR, if_neg (ji_len (by omega) (by omega) (by omega)), hI.2.1, jgd_t hI.2.2.1.1, hI.2.2.1.2.1, jgd_t (ji_int (by omega) hr), r1, jgd_t r2.1, q_matches r2 (hI.2.2.2.2.2 r hr) (hI.2.2.2.2.1 r hr) (by omega) hgs, jb_some, hM k (by omega), hI.1.2.2.1, jgd_t hwt.1, hwt.2, show Int32.ofNat r * (8 : Int32) + Int32.ofNat k = Int32.ofNat (r * 8 + k) by rw [show (8 : Int32) = Int32.ofNat 8 from rfl, ji_mul, ji_add], jgd_t (ji_int (by omega) (by omega)), ji_n (by omega), (hw k (by omega)).1, jq_add, jq_addz, show Int32.ofNat k + 1 = Int32.ofNat (k + 1) from ji_add k 1]
    cases e : jMp D R r k with
    | false =>
      rw [e, if_neg (by decide), Nat.add_zero] at ih
      rw [if_pos (show jbi false = 0 from rfl)]
      exact ih
    | true =>
      rw [e, if_pos rfl] at ih
      rw [if_neg (show ¬ jbi true = 0 by decide)]
      exact ih
/-- rows that stand as an answer -/
def jansR (D : jD) (R : Nat → Nat) : Prop := ∀ r, r < 4 → (jDq D).testBit r = true → R r < jDz D r ∧ jpb D r (R r) = true ∧ ∀ q, q < 4 → (jDq D).testBit q = true → q ≠ r → jmt D q (R q) r (R r) = true
theorem jord_q {root : Nat} (hT : jTre (jDa D) (jdK D) root (jpar D) (jord D)) {r : Nat} (hr : r ∈ jord D) : r < 4 ∧ (jdK D).testBit r = true ∧ (jDq D).testBit r = true := by
  obtain ⟨h1, h2⟩ := (hT.2.1 r).mp hr
  exact ⟨h1, h2, (jdK_bits r h1).1 h2⟩
theorem jpar_o {root : Nat} (hT : jTre (jDa D) (jdK D) root (jpar D) (jord D)) {r u : Nat} (hr : r ∈ jord D) (hu : jpar D r = some u) : u ∈ jord D := by
  obtain ⟨pre, post, e⟩ := List.append_of_mem hr
  obtain ⟨p1, p2⟩ := hT.2.2 pre r post e
  by_cases q : post = []
  · rw [(p1 q).2] at hu
    cases hu
  · obtain ⟨x, x1, x2, -⟩ := p2 q
    rw [x1] at hu
    cases hu
    rw [e]
    exact List.mem_append_right _ (List.mem_cons_of_mem _ x2)
theorem q_weightsAhead (hF : 100 < F) {root : Nat} (hT : jTre (jDa D) (jdK D) root (jpar D) (jord D)) {R : Nat → Nat} (hok : jansR D R) {r : Nat} (hro : r ∈ jord D) {m : jMe} (hI : jIn D b m) (hM : jTM D (b + 1) m) (hR : ∀ x, x < 4 → (jDq D).testBit x = true → jI m (b + 12) x = Int32.ofNat (R x)) (hw : jWd D b m r) : c_X2_weightsAhead F m b (Int32.ofNat r) = some (Int64.ofNat (jwa D R r)) := by
  obtain ⟨hr, hrk, hrq⟩ := jord_q hT hro
  have hz := (hI.2.2.2.2.2 r hr).2.2.1
  have hRz := (hok r hr hrq).1
  have hLT := hI.1.2.2.2.2.2.2.2.2.2.2.2.2.2.2.2.2.2.2
  have hpk := hI.1.2.2.2.2.2.2.2.2.2.2.2.2.2.2.2.2.1
  have hpr := hM.2.2.1 r hr
  unfold c_X2_weightsAhead c_X2_weightsAhead_j35
  rw [jgd_t hI.1.1, hI.1.2.1, jgd_t hLT.1, hLT.2.1, jgd_t hLT.2.2.2.2.2.1, hLT.2.2.2.2.2.2.1, jgd_t (ji_int (by omega) hr), ji_n (by omega), hpr]
  cases hp : jpar D r with
  | none =>
    have h := q_weightsAhead_l62 (F := F) hr hI (hR r hr hrq) hRz hw (g0 := 0) (gs := 0) (S := fun _ => false) (fun a _ => by rw [jnb_0]; rfl) (fun k _ => by
      rw [jmg_iff.mpr (fun a _ _ h => by cases h)]
      unfold jMp
      rw [hp]) (R r) 0 F (by omega) (by omega)
    have h : c_X2_weightsAhead_l62 F m F b (Int32.ofNat r) (0 : Int32) (0 : Int32) (0 : Int64) (0 : Int32) = _ := h
    rw [show jo1 none = -1 from rfl, if_pos rfl, if_pos rfl, h, jb_some]
  | some u =>
    obtain ⟨hu, huk, huq⟩ := jord_q hT (jpar_o hT hro hp)
    obtain ⟨u1, u2⟩ := hI.2.2.1.2.2 u hu
    have hCu := hI.2.2.2.2.1 u hu
    have hDu := hI.2.2.2.2.2 u hu
    have hzu := hDu.2.2.1
    have hRu := (hok u hu huq).1
    have h := q_weightsAhead_l62 (F := F) hr hI (hR r hr hrq) hRz hw (g0 := jI m (jrv u) (R u)) (gs := jI m (jrc u) 4) (S := fun a => (jDa D u).testBit a) hCu.2.2.1 (fun k hk => by
      unfold jMp
      rw [hp]
      dsimp only
      unfold jmt
      exact jmg_c (fun _ _ => rfl) (fun a ha => (hCu.2.2.2.2.2 (R u) hRu).1 a (by omega))) (R r) 0 F (by omega) (by omega)
    have h : c_X2_weightsAhead_l62 F m F b (Int32.ofNat r) (jI m (jrv u) (R u)) (jI m (jrc u) 4) (0 : Int64) (0 : Int32) = _ := h
    rw [show jo1 (some u) = Int32.ofNat u from rfl, if_neg (ji_ne1 (by omega)), if_neg (ji_ne1 (by omega)), hI.2.1, jgd_t hI.2.2.1.1, hI.2.2.1.2.1, jgd_t (ji_int (by omega) hu), ji_n (by omega), u1, jgd_t u2.1, hI.1.2.2.2.2.2.2.2.2.1, jgd_t hpk.1, hpk.2, jgd_t (ji_int (by omega) hu), u2.2.1, jgd_t u2.2.2.2.1, u2.2.2.2.2.1, hR u hu huq, jgd_t (ji_int (by omega) (by omega)), ji_n (by omega), jgd_t hI.1.1, jgd_t hI.2.2.1.1, jgd_t (ji_int (by omega) hu), jgd_t u2.1, h, jb_some]
theorem q_leastUnder_l5 (hD : jDok D) {R : Nat → Nat} {h : Nat → Nat} {r : Nat} (hr : r < 4) {m : jMe} (hI : jIn D b m) (hM : jTM D (b + 1) m) (hR : jI m (b + 12) r = Int32.ofNat (R r)) (hRz : R r < jDz D r) (hU : jUd D b m r (R r)) (hl : ∀ c, c < 4 → jkid D c r = true → jL m (b + 13) c = Int64.ofNat (h c)) : ∀ (t c f : Nat), c + t = 4 → t < f → c_X2_leastUnder_l5 F m f b (Int32.ofNat r) (Int64.ofNat (jhn D R h r c)) (Int32.ofNat c) = some (Int64.ofNat (jhn D R h r 4)) := by
  have hq := jDok_q hD
  have hz := (hI.2.2.2.2.2 r hr).2.2.1
  have hLT := hI.1.2.2.2.2.2.2.2.2.2.2.2.2.2.2.2.2.2.2
  have hpk := hI.1.2.2.2.2.2.2.2.2.2.2.2.2.2.2.2.2.1
  have hun := hI.1.2.2.2.2.2.2.2.2.2.2.2.2.1
  have hld := hI.1.2.2.2.2.2.2.2.2.2.2.2.2.2.2.2.2.2.1
  intro t
  induction t with
  | zero =>
    intro c f h1 h2
    obtain ⟨f, rfl⟩ := jsucc h2
    show c_X2_leastUnder_l5_b F _ m _ _ _ _ = _
    unfold c_X2_leastUnder_l5_b
    rw [if_pos (show (4 : Int32) ≤ Int32.ofNat c from ji_lep (a := 4) (by omega) (by omega) (by omega)), show c = 4 by omega]
  | succ t ih =>
    intro c f h1 h2
    obtain ⟨f, rfl⟩ := jsucc h2
    have ih := ih (c + 1) f (by omega) (by omega)
    show c_X2_leastUnder_l5_b F _ m _ _ _ _ = _
    unfold c_X2_leastUnder_l5_b
    rw [if_neg (show ¬ (4 : Int32) ≤ Int32.ofNat c from ji_len (a := 4) (by omega) (by omega) (by omega)), jgd_t hI.1.1, hI.1.2.1, jgd_t hLT.1, hLT.2.2.1, jgd_t hLT.2.2.2.2.2.2.2.1, hLT.2.2.2.2.2.2.2.2.1, jgd_t (ji_int (by omega) hr), ji_n (show r < 2147483648 by omega), hM.2.2.2.1 r hr, q_isIn (by omega) (Nat.lt_trans (jkidw_16 hq) (by omega)), jb_some, jkid_w hq (by omega), hI.1.2.2.2.2.2.2.2.2.1, jgd_t hpk.1, hpk.2, jgd_t (ji_int (by omega) hr), hR, hI.1.2.2.2.2.1, jgd_t hun.1, hun.2, show (Int32.ofNat r * (8 : Int32) + Int32.ofNat (R r)) * (4 : Int32) + Int32.ofNat c = Int32.ofNat ((r * 8 + R r) * 4 + c) by rw [show (8 : Int32) = Int32.ofNat 8 from rfl, show (4 : Int32) = Int32.ofNat 4 from rfl, ji_mul, ji_add, ji_mul, ji_add], jgd_t (ji_int (by omega) (by omega)), hI.1.2.2.2.2.2.2.2.2.2.1, jgd_t hld.1, hld.2, jgd_t (ji_int (by omega) (by omega)), jlet_m, ji_n (by omega), ji_n (by omega), show Int32.ofNat c + 1 = Int32.ofNat (c + 1) from ji_add c 1]
    cases e : jkid D c r with
    | false =>
      rw [jhn, e, if_neg (by decide)] at ih
      rw [if_pos (show jbi false = 0 from rfl)]
      exact ih
    | true =>
      rw [jhn, e, if_pos rfl] at ih
      rw [if_neg (show ¬ jbi true = 0 by decide), (hU c (by omega) e).2.2, hl c (by omega) e, jq_mul, jq_add]
      exact ih
theorem q_placeOf_l14 (hF : 100 < F) (hD : jDok D) {root : Nat} (hT : jTre (jDa D) (jdK D) root (jpar D) (jord D)) {R : Nat → Nat} (hok : jansR D R) : ∀ (post pre : List Nat) (f : Nat) (m : jMe), jord D = pre ++ post → post.length < f → jIn D b m → jTM D (b + 1) m → (∀ r, r ∈ jord D → jRd D b m r) → (∀ x, x < 4 → (jDq D).testBit x = true → jI m (b + 12) x = Int32.ofNat (R x)) → (∀ x, x ∈ pre → jL m (b + 13) x = Int64.ofNat (jlst D R 4 x)) → ∃ m', c_X2_placeOf_l14 F f m b (Int32.ofNat pre.length) = some (m', b) ∧ jfr (· = b + 13) m m' ∧ jI m' = jI m ∧ ∀ x, x ∈ jord D → jL m' (b + 13) x = Int64.ofNat (jlst D R 4 x) := by
  have hlen := jord_le hT
  intro post
  induction post with
  | nil =>
    intro pre f m h1 h2 hI hM hRd hR hp
    obtain ⟨f, rfl⟩ := jsucc h2
    have hLT := hI.1.2.2.2.2.2.2.2.2.2.2.2.2.2.2.2.2.2.2
    rw [List.append_nil] at h1
    refine ⟨m, ?_, jfr.rfl, rfl, fun x hx => hp x (by rw [← h1]; exact hx)⟩
    show c_X2_placeOf_l14_b F _ m _ _ = _
    unfold c_X2_placeOf_l14_b
    rw [jgd_t hI.1.1, hI.1.2.1, jgd_t hLT.1, hM.2.2.2.2.2.1, if_pos (ji_lep (by omega) (by rw [← h1]; omega) (by rw [h1]; omega))]
  | cons r post ih =>
    intro pre f m h1 h2 hI hM hRd hR hp
    obtain ⟨f, rfl⟩ := jsucc h2
    have hLT := hI.1.2.2.2.2.2.2.2.2.2.2.2.2.2.2.2.2.2.2
    have hld := hI.1.2.2.2.2.2.2.2.2.2.2.2.2.2.2.2.2.2.1
    have hro : r ∈ jord D := by rw [h1]; exact List.mem_append_right _ (List.mem_cons_self ..)
    obtain ⟨hr, hrk, hrq⟩ := jord_q hT hro
    have hl2 : (jord D).length = pre.length + (post.length + 1) := by rw [h1, List.length_append, List.length_cons]
    have hor : jI m (b + 1 + 3) pre.length = Int32.ofNat r := by
      rw [hM.2.2.2.2.1 pre.length (by omega), h1, List.getD_eq_getElem?_getD, List.getElem?_append_right (Nat.le_refl _), Nat.sub_self]
      rfl
    have hkid : ∀ c, c < 4 → jkid D c r = true → jL m (b + 13) c = Int64.ofNat (jlst D R 4 c) := by
      intro c hc hk
      have hk2 := hk
      unfold jkid at hk2
      rw [Bool.and_eq_true, beq_iff_eq] at hk2
      exact hp c (jTr_kid hT h1 hc hk2.1 hk2.2)
    have hW := q_weightsAhead (F := F) hF hT hok hro hI hM hR (hRd r hro).1
    have hU := q_leastUnder_l5 (F := F) hD (R := R) (h := jlst D R 4) hr hI hM (hR r hr hrq) (hok r hr hrq).1 ((hRd r hro).2 (R r) (hok r hr hrq).1 (hok r hr hrq).2.1) hkid 4 0 F (by omega) (by omega)
    have hU2 : c_X2_leastUnder F m b (Int32.ofNat r) = some (Int64.ofNat (jhn D R (jlst D R 4) r 4)) := by
      unfold c_X2_leastUnder
      rw [show c_X2_leastUnder_l5 F m F b (Int32.ofNat r) (0 : Int64) (0 : Int32) = _ from hU, jb_some]
    have hf1 : jfr (· = b + 13) m (jsL m (b + 13) r (Int64.ofNat (jlst D R 4 r))) := jsL_f rfl
    have hLn : ∀ a, a ≠ b + 13 → jL (jsL m (b + 13) r (Int64.ofNat (jlst D R 4 r))) a = jL m a := fun a ha => jsL_n ha
    obtain ⟨m', a1, a2, a3, a4⟩ := ih (pre ++ [r]) f (jsL m (b + 13) r (Int64.ofNat (jlst D R 4 r))) (by rw [h1, List.append_assoc]; rfl) (by rw [List.length_cons] at h2; omega) (jIn_fr (S := (· = b + 13)) (fun a q => by omega) hf1 hI) hM (fun x hx => jRd_of (hLn _ (by omega)) (hLn _ (by omega)) (hRd x hx)) hR (fun x hx => by
      rw [jsL_g]
      by_cases e : x = r
      · rw [if_pos ⟨rfl, e⟩, e]
      · rw [if_neg (fun q => e q.2)]
        rcases List.mem_append.mp hx with q | q
        · exact hp x q
        · exact absurd (List.mem_singleton.mp q) e)
    refine ⟨m', ?_, hf1.trans a2, by rw [a3, jI_sL], a4⟩
    rw [List.length_append, List.length_singleton] at a1
    show c_X2_placeOf_l14_b F _ m _ _ = _
    unfold c_X2_placeOf_l14_b
    rw [jgd_t hI.1.1, hI.1.2.1, jgd_t hLT.1, hM.2.2.2.2.2.1, if_neg (ji_len (by omega) (by omega) (by omega)), hLT.2.2.2.1, jgd_t hLT.2.2.2.2.2.2.2.2.2.1, hLT.2.2.2.2.2.2.2.2.2.2.1, jgd_t (ji_int (by omega) (by omega)), ji_n (by omega), hor, hW, jb_some, hU2, jb_some, hI.1.2.2.2.2.2.2.2.2.2.1, jgd_t hld.1, hld.2, jgd_t (ji_int (by omega) hr), ji_n (by omega), jq_add, ← jlst_e hT hro, show Int32.ofNat pre.length + 1 = Int32.ofNat (pre.length + 1) from ji_add _ 1]
    exact a1
theorem q_seat_e {m : jMe} {r k : Nat} (hI : jIn D b m) (hr : r < 4) (hk : k < jDz D r) : c_X2_seat F m b (Int32.ofNat r) (Int32.ofNat k) = some (jsI (jsI (jsI m (b + 12) r (Int32.ofNat k)) b 16 (jI m b 16 ||| jI m (jrv r) k)) b 17 (jI m b 17 ||| jI m (jrc r) 4)) := by
  obtain ⟨i1, i2, i3, i4, i5, i6⟩ := hI
  obtain ⟨r1, r2⟩ := i3.2.2 r hr
  have hz := (i6 r hr).2.2.1
  have hp := i1.2.2.2.2.2.2.2.2.2.2.2.2.2.2.2.2.1
  unfold c_X2_seat
  rw [jgd_t i1.1, i1.2.2.2.2.2.2.2.2.1, jgd_t hp.1, hp.2, jgd_t (ji_int (by omega) hr), ji_n (by omega)]
  simp only [jP_sI, i2, i3.2.1, r1, r2.2.1, r2.2.2.2.2.1]
  rw [jgd_t i3.1, jgd_t (ji_int (by omega) hr), jgd_t r2.1, jgd_t r2.2.2.2.1, jgd_t (ji_int (by omega) (by omega)), ji_n (by omega), jlet_m]
  have e1 : jI (jsI m (b + 12) r (Int32.ofNat k)) b = jI m b := jsI_n (by omega)
  have e2 : jI (jsI m (b + 12) r (Int32.ofNat k)) (jrv r) = jI m (jrv r) := jsI_n (by unfold jrv; have := i4.2; omega)
  rw [e1, e2]
  simp only [jP_sI, jK_sI, jZ_sI, i2, i3.2.1, r1]
  rw [jgd_t i1.1, jgd_t i3.1, jgd_t (ji_int (by omega) hr), jgd_t r2.1, jsI_e, jupd_n (by omega), e1]
  have e3 : jI (jsI (jsI m (b + 12) r (Int32.ofNat k)) b 16 (jI m b 16 ||| jI m (jrv r) k)) (jrc r) = jI m (jrc r) := by
    rw [jsI_n (by unfold jrc; have := i4.2; omega), jsI_n (by unfold jrc; have := i4.2; omega)]
  rw [e3]
/-- a row of an answer is seated again -/
theorem q_seatR {R : Nat → Nat} (hok : jansR D R) {P : Nat → Bool} (hPq : ∀ x, x < 4 → P x = true → (jDq D).testBit x = true) {r : Nat} (hr : r < 4) (hrq : (jDq D).testBit r = true) (hPr : P r = false) {m : jMe} (hI : jIn D b m) (hs : jsd D P R b m) (hR : ∀ x, x < 4 → (jDq D).testBit x = true → jI m (b + 12) x = Int32.ofNat (R x)) : ∃ m', c_X2_seat F m b (Int32.ofNat r) (jI m (b + 12) r) = some m' ∧ jfr (jSle b) m m' ∧ jL m' = jL m ∧ (∀ j, j ≠ 16 → j ≠ 17 → jI m' b j = jI m b j) ∧ jsd D (fun x => P x || x == r) R b m' ∧ jI m' (b + 12) = jI m (b + 12) := by
  obtain ⟨o1, o2, o3⟩ := hok r hr hrq
  have hm : jmg D r (R r) (jSs D P) (jnb (jI m b 16)) = true := by
    rw [jMx_e hs, List.all_eq_true]
    intro q hq
    have hq := List.mem_range.mp hq
    cases e : P q with
    | false => rfl
    | true =>
      rw [o3 q hq (hPq q hq e) (fun z => by rw [z, hPr] at e; cases e)]
      rfl
  obtain ⟨m', b1, b2, b3, b4, b5⟩ := q_seat (F := F) hI hr o1 hPr hs hm
  rw [hR r hr hrq]
  refine ⟨m', b1, b2, b3, b4, ?_, ?_⟩
  · rw [show (fun x => if x = r then R r else R x) = R from funext fun x => by
      by_cases e : x = r
      · rw [if_pos e, e]
      · rw [if_neg e]] at b5
    exact b5
  · have e := q_seat_e (F := F) hI hr o1
    rw [b1] at e
    rw [Option.some.inj e, jsI_n (by omega), jsI_n (by omega), jsI_e]
    funext i
    by_cases q : i = r
    · rw [q, jupd_e, hR r hr hrq]
    · rw [jupd_n q]
theorem q_placeOf_l99 (hF : 100 < F) (hD : jDok D) {R : Nat → Nat} (hok : jansR D R) {p : Int64} : ∀ (t r f : Nat) (m : jMe), r + t = 4 → t < f → jIn D b m → jTM D (b + 1) m → jsd D (fun x => (jdK D).testBit x && decide (x < r)) R b m → (∀ x, x < 4 → (jDq D).testBit x = true → jI m (b + 12) x = Int32.ofNat (R x)) → ∃ m', c_X2_placeOf_l99 F f m b p (Int32.ofNat r) = some (m', b, p) ∧ jfr (jSle b) m m' ∧ jL m' = jL m ∧ (∀ j, j ≠ 16 → j ≠ 17 → jI m' b j = jI m b j) ∧ jsd D (fun x => (jdK D).testBit x) R b m' ∧ jI m' (b + 12) = jI m (b + 12) := by
  have hK16 := jdK_lt (jDok_q hD)
  intro t
  induction t with
  | zero =>
    intro r f m h1 h2 hI hM hs hR
    obtain ⟨f, rfl⟩ := jsucc h2
    refine ⟨m, ?_, jfr.rfl, rfl, fun _ _ _ => rfl, jsd_c (fun x hx => by rw [decide_eq_true (show x < r by omega), Bool.and_true]) hs, rfl⟩
    show c_X2_placeOf_l99_b F _ m _ _ _ = _
    unfold c_X2_placeOf_l99_b
    rw [if_pos (show (4 : Int32) ≤ Int32.ofNat r from ji_lep (a := 4) (by omega) (by omega) (by omega))]
  | succ t ih =>
    intro r f m h1 h2 hI hM hs hR
    obtain ⟨f, rfl⟩ := jsucc h2
    have hLT := hI.1.2.2.2.2.2.2.2.2.2.2.2.2.2.2.2.2.2.2
    have hpk := hI.1.2.2.2.2.2.2.2.2.2.2.2.2.2.2.2.2.1
    have hst : ∀ u, (if jbi ((jdK D).testBit r) = 0 then c_X2_placeOf_l99 F f m b p (Int32.ofNat (r + 1)) else jb (c_X2_seat F m b (Int32.ofNat r) (jI m (b + 12) r)) fun t34 => c_X2_placeOf_l99 F f t34 b p (Int32.ofNat (r + 1))) = u → c_X2_placeOf_l99 F (f + 1) m b p (Int32.ofNat r) = u := by
      intro u h
      rw [← h]
      show c_X2_placeOf_l99_b F _ m _ _ _ = _
      unfold c_X2_placeOf_l99_b
      rw [if_neg (show ¬ (4 : Int32) ≤ Int32.ofNat r from ji_len (a := 4) (by omega) (by omega) (by omega)), jgd_t hI.1.1, hI.1.2.1, jgd_t hLT.1, hM.1, q_isIn (by omega) (by omega), jb_some, hI.1.2.2.2.2.2.2.2.2.1, jgd_t hpk.1, hpk.2, jgd_t (ji_int (by omega) (by omega)), ji_n (by omega), show Int32.ofNat r + 1 = Int32.ofNat (r + 1) from ji_add r 1]
    cases e : (jdK D).testBit r with
    | false =>
      obtain ⟨m', a1, a2⟩ := ih (r + 1) f m (by omega) (by omega) hI hM (jsd_c (fun x _ => by
        by_cases ex : x = r
        · rw [ex, e, Bool.false_and, Bool.false_and]
        · by_cases ex2 : x < r
          · rw [decide_eq_true ex2, decide_eq_true (show x < r + 1 by omega)]
          · rw [decide_eq_false ex2, decide_eq_false (show ¬ x < r + 1 by omega)]) hs) hR
      exact ⟨m', hst _ (by rw [e, if_pos (by decide)]; exact a1), a2⟩
    | true =>
      have hrq := (jdK_bits r (by omega)).1 e
      obtain ⟨m1, b1, b2, b3, b4, b5, b6⟩ := q_seatR (F := F) hok (P := fun x => (jdK D).testBit x && decide (x < r)) (fun x hx q => by
        rw [Bool.and_eq_true] at q
        exact (jdK_bits x hx).1 q.1) (r := r) (by omega) hrq (by show ((jdK D).testBit r && decide (r < r)) = false; rw [decide_eq_false (Nat.lt_irrefl r), Bool.and_false]) hI hs hR
      obtain ⟨m', a1, a2, a3, a4, a5, a6⟩ := ih (r + 1) f m1 (by omega) (by omega) (jIn_fr (S := jSle b) (fun a q => by unfold jSle at q; omega) b2 hI) (jTM_of (fun a q1 q2 => b2.2.2.2.2.2.1 a (by unfold jSle; omega)) hM) (jsd_c (fun x _ => by
        by_cases ex : x = r
        · rw [ex, e, beq_self_eq_true, Bool.or_true, decide_eq_true (Nat.lt_succ_self r)]
          rfl
        · rw [show (x == r) = false from beq_eq_false_iff_ne.mpr ex, Bool.or_false]
          by_cases ex2 : x < r
          · rw [decide_eq_true ex2, decide_eq_true (show x < r + 1 by omega)]
          · rw [decide_eq_false ex2, decide_eq_false (show ¬ x < r + 1 by omega)]) b5) (fun x hx q => by rw [b6]; exact hR x hx q)
      refine ⟨m', hst _ ?_, b2.trans a2, by rw [a3, b3], fun j h1 h2 => by rw [a4 j h1 h2, b4 j h1 h2], a5, by rw [a6, b6]⟩
      rw [e, if_neg (by decide), b1, jb_some]
      exact a1
theorem q_placeOf_l142 (hF : 100 < F) (hD : jDok D) {R : Nat → Nat} (hok : jansR D R) : ∀ (t r f p : Nat) (m : jMe), r + t = 4 → t < f → jIn D b m → jTM D (b + 1) m → (∀ x, x < 4 → jI m (b + 11) x = Int32.ofNat (if (jDq D).testBit x = true then jpw D x else 0)) → (∀ x, x < 4 → jL m (b + 7) x = Int64.ofNat (if (jdC D).testBit x = true then jbd D x else 0)) → jsd D (jPc D r) R b m → (∀ x, x < 4 → (jDq D).testBit x = true → jI m (b + 12) x = Int32.ofNat (R x)) → ∃ m', c_X2_placeOf_l142 F f m b (Int64.ofNat p) (Int32.ofNat r) = some (m', Int64.ofNat (jlck D R t r p)) ∧ jfr (jSle b) m m' ∧ jL m' = jL m ∧ (∀ j, j ≠ 16 → j ≠ 17 → jI m' b j = jI m b j) := by
  have hC16 := jdC_lt (D := D)
  intro t
  induction t with
  | zero =>
    intro r f p m h1 h2 hI hM hp hbo hs hR
    obtain ⟨f, rfl⟩ := jsucc h2
    refine ⟨m, ?_, jfr.rfl, rfl, fun _ _ _ => rfl⟩
    show c_X2_placeOf_l142_b F _ m _ _ _ = _
    unfold c_X2_placeOf_l142_b
    rw [if_pos (show (4 : Int32) ≤ Int32.ofNat r from ji_lep (a := 4) (by omega) (by omega) (by omega))]
    rfl
  | succ t ih =>
    intro r f p m h1 h2 hI hM hp hbo hs hR
    obtain ⟨f, rfl⟩ := jsucc h2
    have hr : r < 4 := by omega
    have hz := (hI.2.2.2.2.2 r hr).2.2.1
    have hLT := hI.1.2.2.2.2.2.2.2.2.2.2.2.2.2.2.2.2.2.2
    have hpk := hI.1.2.2.2.2.2.2.2.2.2.2.2.2.2.2.2.2.1
    have hbn := hI.1.2.2.2.2.2.2.2.2.2.2.2.1
    have hbits := (jdK_bits (D := D) r hr).2
    rw [jlck]
    cases e : (jdC D).testBit r with
    | false =>
      rw [if_neg (by decide)]
      obtain ⟨m', a1, a2⟩ := ih (r + 1) f p m (by omega) (by omega) hI hM hp hbo (jsd_c (fun x _ => by
        unfold jPc
        by_cases ex : x = r
        · rw [ex, e, Bool.false_and, Bool.false_and]
        · by_cases ex2 : x < r
          · rw [decide_eq_true ex2, decide_eq_true (show x < r + 1 by omega)]
          · rw [decide_eq_false ex2, decide_eq_false (show ¬ x < r + 1 by omega)]) hs) hR
      refine ⟨m', ?_, a2⟩
      show c_X2_placeOf_l142_b F _ m _ _ _ = _
      unfold c_X2_placeOf_l142_b
      rw [if_neg (show ¬ (4 : Int32) ≤ Int32.ofNat r from ji_len (a := 4) (by omega) (by omega) (by omega)), jgd_t hI.1.1, hI.1.2.1, jgd_t hLT.1, hM.2.1, q_isIn (by omega) (by omega), jb_some, e, if_pos (by decide), show Int32.ofNat r + 1 = Int32.ofNat (r + 1) from ji_add r 1]
      exact a1
    | true =>
      obtain ⟨hrq, hnk⟩ := hbits.mp e
      have hPr : jPc D r r = false := by
        unfold jPc
        rw [decide_eq_false (Nat.lt_irrefl r), Bool.and_false, Bool.or_false]
        cases q : (jdK D).testBit r with
        | false => rfl
        | true => exact absurd q hnk
      have hRr := (hok r hr hrq).1
      obtain ⟨m1, b1, b2, b3, b4, b5, b6⟩ := q_seatR (F := F) hok (P := jPc D r) (fun x hx q => by
        unfold jPc at q
        rw [Bool.or_eq_true, Bool.and_eq_true] at q
        rcases q with q | q
        · exact (jdK_bits x hx).1 q
        · exact ((jdK_bits x hx).2.mp q.1).1) hr hrq hPr hI hs hR
      have hwA := q_worthsAhead (F := F) hF hr hI (by rw [hp r hr, if_pos hrq]) (g0 := jI m b 16) (gs := jI m b 17) (S := jSs D (jPc D r)) hs.1 (e := R r) (by omega)
      have hsum : jsum (min (jDz D r) (R r)) (fun x => if (jpb D r x && jmg D r x (jSs D (jPc D r)) (jnb (jI m b 16))) = true then jwth D r x else 0) = jsum (R r) (fun k => if jMc D R r k = true then jwth D r k else 0) := by
        rw [Nat.min_eq_right (by omega)]
        refine jsum_c (fun x _ => ?_)
        rw [jMc_e hr hs x]
      rw [hsum] at hwA
      have hbr := hbo r hr
      rw [e, if_pos rfl] at hbr
      rw [if_pos rfl]
      obtain ⟨m', a1, a2, a3, a4⟩ := ih (r + 1) f (p * jbd D r + jsum (R r) (fun k => if jMc D R r k = true then jwth D r k else 0)) m1 (by omega) (by omega) (jIn_fr (S := jSle b) (fun a q => by unfold jSle at q; omega) b2 hI) (jTM_of (fun a q1 q2 => b2.2.2.2.2.2.1 a (by unfold jSle; omega)) hM) (fun x hx => by rw [b2.2.2.2.2.2.1 (b + 11) (by unfold jSle; omega)]; exact hp x hx) (fun x hx => by rw [b3]; exact hbo x hx) (jsd_c (fun x _ => by
        unfold jPc
        by_cases ex : x = r
        · rw [ex, e, beq_self_eq_true, Bool.or_true, decide_eq_true (Nat.lt_succ_self r), Bool.and_true, Bool.or_true]
        · rw [show (x == r) = false from beq_eq_false_iff_ne.mpr ex, Bool.or_false]
          by_cases ex2 : x < r
          · rw [decide_eq_true ex2, decide_eq_true (show x < r + 1 by omega)]
          · rw [decide_eq_false ex2, decide_eq_false (show ¬ x < r + 1 by omega)]) b5) (fun x hx q => by rw [b6]; exact hR x hx q)
      refine ⟨m', ?_, b2.trans a2, by rw [a3, b3], fun j h1 h2 => by rw [a4 j h1 h2, b4 j h1 h2]⟩
      rw [hR r hr hrq] at b1
      show c_X2_placeOf_l142_b F _ m _ _ _ = _
      unfold c_X2_placeOf_l142_b
      rw [if_neg (show ¬ (4 : Int32) ≤ Int32.ofNat r from ji_len (a := 4) (by omega) (by omega) (by omega)), jgd_t hI.1.1, hI.1.2.1, jgd_t hLT.1, hM.2.1, q_isIn (by omega) (by omega), jb_some, e, if_neg (by decide), hI.1.2.2.2.1, jgd_t hbn.1, hbn.2, jgd_t (ji_int (by omega) hr), hI.1.2.2.2.2.2.2.2.2.1, jgd_t hpk.1, hpk.2, jgd_t (ji_int (by omega) hr), ji_n (by omega), hR r hr hrq, hwA, jb_some, jgd_t (ji_int (by omega) hr), b1, jb_some, hbr, jq_mul, jq_add, show Int32.ofNat r + 1 = Int32.ofNat (r + 1) from ji_add r 1]
      exact a1
end XPLACE
