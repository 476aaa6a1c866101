/-! a position is led down the tree, as the class does it -/
theorem jlast {l : List Nat} (h : l ≠ []) : ∃ l' r, l = l' ++ [r] := by
  induction l with
  | nil => exact absurd rfl h
  | cons a l ih =>
    by_cases e : l = []
    · subst e
      exact ⟨[], a, rfl⟩
    · obtain ⟨l', r, e2⟩ := ih e
      exact ⟨a :: l', r, by rw [e2]; rfl⟩
theorem jS_pos {D : jD} {root : Nat} (hT : jTre (jDa D) (jdK D) root (jpar D) (jord D)) {u k i : Nat} (hu : u ∈ jord D) (hp : jpb D u k = true) (hi : i < jW1 D u k) : ∀ c, c < 4 → jkid D c u = true → 0 < jS1 D u k c := by
  intro c hc hk
  have hW := jW1_e hT hu k
  rw [if_pos hp] at hW
  rw [hW] at hi
  have hpos : 0 < jprd 4 (fun c => if jkid D c u = true then jS1 D u k c else 1) := by
    unfold jpre at hi
    refine Nat.pos_of_ne_zero (fun h => ?_)
    rw [h] at hi
    omega
  have := jprd_pos hpos c hc
  rw [if_pos hk] at this
  exact this
section LEAD
variable {F b : Nat} {D : jD}
theorem q_leadInto (hF : 100 < F) {r p x q : Nat} (hr : r < 4) {m : jMe} {P : Nat → Bool} {R : Nat → Nat} (hI : jIn D b m) (hP : P r = false) (hs : jsd D P R b m) (hw : jWd D b m r) (hp : p ≤ jMX) (hl : jL m (b + 13) r = Int64.ofNat p) (hk : jpk1 D r (fun y => jmg D r y (jSs D P) (jnb (jI m b 16))) (jDz D r) 0 p = some (x, q)) : ∃ m', c_X2_leadInto F m b (Int32.ofNat r) = some (1, m') ∧ jfr (jSle b) m m' ∧ (∀ j, j ≠ 16 → j ≠ 17 → jI m' b j = jI m b j) ∧ jL m' b = jL m b ∧ jL m' (b + 13) = jupd (jL m (b + 13)) r (Int64.ofNat q) ∧ jsd D (fun y => P y || y == r) (fun y => if y = r then x else R y) b m' := by
  have hz := (hI.2.2.2.2.2 r hr).2.2.1
  have hld := hI.1.2.2.2.2.2.2.2.2.2.2.2.2.2.2.2.2.2.1
  obtain ⟨m', y1, y2⟩ := q_leadInto_l10 (F := F) hr hI hP hs hw (jDz D r) 0 F p x q (by omega) (by omega) hp hk
  refine ⟨m', ?_, y2⟩
  unfold c_X2_leadInto
  have y1 : c_X2_leadInto_l10 F F m b (Int32.ofNat r) (Int64.ofNat p) (0 : Int32) = _ := y1
  rw [jgd_t hI.1.1, hI.1.2.2.2.2.2.2.2.2.2.1, jgd_t hld.1, hld.2, jgd_t (ji_int (by omega) hr), ji_n (by omega), hl, y1, jb2_l]
theorem q_leadChildren (hF : 100 < F) {r k p : Nat} (hr : r < 4) (hk : k < 8) (hq : jDq D < 16) {m : jMe} (hp : p ≤ jMX) (hI : jIn D b m) (hM : jTM D (b + 1) m) (hU : jUd D b m r k) (hS : ∀ c, c < 4 → jkid D c r = true → 0 < jS1 D r k c) (hpi : jI m (b + 12) r = Int32.ofNat k) (hl : jL m (b + 13) r = Int64.ofNat p) : ∃ m', c_X2_leadChildren F m b (Int32.ofNat r) = some m' ∧ jfr (· = b + 13) m m' ∧ jI m' = jI m ∧ (∀ c, jL m' (b + 13) c = if c < 4 ∧ jkid D c r = true then Int64.ofNat (jcl1 D r k 4 p c) else jL m (b + 13) c) := by
  have hpk := hI.1.2.2.2.2.2.2.2.2.2.2.2.2.2.2.2.2.1
  have hld := hI.1.2.2.2.2.2.2.2.2.2.2.2.2.2.2.2.2.2.1
  obtain ⟨m', y1, y2⟩ := q_leadChildren_l17 (F := F) hr hk hq 4 F p m (by omega) (by omega) hp hI hM hU hS
  refine ⟨m', ?_, y2⟩
  unfold c_X2_leadChildren
  have y1 : c_X2_leadChildren_l17 F F m b (Int32.ofNat r) (Int32.ofNat k) (Int64.ofNat p) (3 : Int32) = _ := y1
  rw [jgd_t hI.1.1, hI.1.2.2.2.2.2.2.2.2.1, jgd_t hpk.1, hpk.2, jgd_t (ji_int (by omega) hr), ji_n (by omega), hpi, hI.1.2.2.2.2.2.2.2.2.2.1, jgd_t hld.1, hld.2, jgd_t (ji_int (by omega) hr), hl, y1, jb_some]
theorem jRd_of {m m' : jMe} {r : Nat} (h6 : jL m' (b + 6) = jL m (b + 6)) (h8 : jL m' (b + 8) = jL m (b + 8)) (h : jRd D b m r) : jRd D b m' r := by
  unfold jRd jWd jUd at h ⊢
  rw [h6, h8]
  exact h
theorem q_lead_l114 (hF : 2000 < F) (hD : jDok D) {root p0 : Nat} (hT : jTre (jDa D) (jdK D) root (jpar D) (jord D)) (hrt : jrt D = some root) (hp0 : p0 < jAll D) (hall : jAll D ≤ jMX) : ∀ (n : Nat) (pre post : List Nat) (f : Nat) (m : jMe), pre.length = n → jord D = pre ++ post → n < f → jIn D b m → jTM D (b + 1) m → (∀ r, r ∈ jord D → jRd D b m r) → jsd D (fun x => decide (x ∈ post)) (jrw D p0) b m → (∀ x, x ∈ pre → (∀ u, jpar D x = some u → u ∈ post) → jL m (b + 13) x = Int64.ofNat (jLv D p0 x)) → ∃ m', c_X2_lead_l114 F f m b (Int32.ofNat n - 1) = some (.inr (m', b)) ∧ jfr (jSle b) m m' ∧ (∀ j, j ≠ 16 → j ≠ 17 → jI m' b j = jI m b j) ∧ jL m' b = jL m b ∧ (∀ x, x ∉ jord D → jL m' (b + 13) x = jL m (b + 13) x) ∧ jsd D (fun x => decide (x ∈ jord D)) (jrw D p0) b m' := by
  have hq := jDok_q hD
  have hlen := jord_le hT
  intro n
  induction n with
  | zero =>
    intro pre post f m h1 e h2 hI hM hR hs hl
    obtain ⟨f, rfl⟩ := jsucc h2
    have hpn : pre = [] := List.eq_nil_of_length_eq_zero h1
    subst hpn
    rw [List.nil_append] at e
    refine ⟨m, ?_, jfr.rfl, fun _ _ _ => rfl, rfl, fun _ _ => rfl, by rw [e]; exact hs⟩
    show c_X2_lead_l114_b F _ m _ _ = _
    unfold c_X2_lead_l114_b
    rw [if_pos jdown0]
  | succ n ih =>
    intro pre post f m h1 e h2 hI hM hR hs hl
    obtain ⟨f, rfl⟩ := jsucc (show 0 < f by omega)
    obtain ⟨pre, r, rfl⟩ := jlast (l := pre) (fun h => by rw [h] at h1; simp at h1)
    have e' : jord D = pre ++ r :: post := by rw [e]; simp
    have hpl : pre.length = n := by simp at h1; omega
    have hro : r ∈ jord D := by rw [e']; simp
    have hr := ((hT.2.1 r).mp hro).1
    have hnd := hT.1
    rw [e'] at hnd
    have hnd2 := List.nodup_append.mp hnd
    have hrpost : r ∉ post := (List.nodup_cons.mp hnd2.2.1).1
    have hrpre : r ∉ pre := fun h => hnd2.2.2 r h r (List.mem_cons_self ..) rfl
    have hsplit := hT.2.2 pre r post e'
    obtain ⟨o1, o2, o3, o4, o5, o6⟩ := jlr_ok hT hrt hp0 hD.2.2.1 post.length pre r post (Nat.le_refl _) e'
    have hz := (hD.2.2.1 r hr).2.2.1
    have hrr := hR r hro
    -- what is led into r
    have hLr : jL m (b + 13) r = Int64.ofNat (jLv D p0 r) := hl r (by simp) (fun u hu => by
      by_cases hpn : post = []
      · rw [(hsplit.1 hpn).2] at hu
        cases hu
      · obtain ⟨u', u1, u2, -⟩ := hsplit.2 hpn
        rw [u1] at hu
        cases hu
        exact u2)
    have hLle : jLv D p0 r ≤ jMX := by
      rcases o6 with h | ⟨u, u1, u2⟩
      · omega
      · by_cases hpn : post = []
        · rw [(hsplit.1 hpn).2] at u1
          cases u1
        · obtain ⟨u', v1, v2, -⟩ := hsplit.2 hpn
          rw [u1] at v1
          cases v1
          obtain ⟨p1, p2, ep⟩ := List.append_of_mem v2
          have hu : jord D = (pre ++ r :: p1) ++ u :: p2 := by rw [e', ep]; simp
          have hum : u ∈ jord D := by rw [hu]; simp
          obtain ⟨w1, w2, -⟩ := jlr_ok hT hrt hp0 hD.2.2.1 p2.length _ u p2 (Nat.le_refl _) hu
          have hkid : jkid D r u = true := by
            unfold jkid
            rw [((hT.2.1 r).mp hro).2, u1]
            simp
          have := ((hR u hum).2 _ w1 w2 r hr hkid).1
          omega
    -- which rows count
    have hM' : ∀ y, y < jDz D r → jmg D r y (jSs D (fun x => decide (x ∈ post))) (jnb (jI m b 16)) = jMr D p0 r y := by
      intro y hy
      by_cases hpn : post = []
      · have hm : jMr D p0 r y = true := by
          unfold jMr
          rw [(hsplit.1 hpn).2]
        rw [hm, jmg_iff]
        intro a ha h3 h4
        obtain ⟨x, -, x2, -⟩ := jSs_iff.mp h4
        rw [hpn] at x2
        simp at x2
      · obtain ⟨u, u1, u2, u3⟩ := hsplit.2 hpn
        have hm : jMr D p0 r y = jmt D u (jrw D p0 u) r y := by
          unfold jMr
          rw [u1]
        have hu4 := ((hT.2.1 u).mp (by rw [e']; exact List.mem_append_right _ (List.mem_cons_of_mem _ u2))).1
        rw [hm]
        unfold jmt
        rw [Bool.eq_iff_iff, jmg_iff, jmg_iff]
        have hst : ∀ a, a < 6 → (jDa D u).testBit a = true → jnb (jI m b 16) a = jDv D u (jrw D p0 u) a := fun a ha h => hs.2.1 a u (by omega) hu4 (by simpa using u2) h
        constructor
        · intro h a ha h3 h4
          rw [← hst a ha h4]
          exact h a ha h3 (jSs_iff.mpr ⟨u, hu4, by simpa using u2, h4⟩)
        · intro h a ha h3 h4
          obtain ⟨x, x1, x2, x3⟩ := jSs_iff.mp h4
          have h5 := u3 x (by simpa using x2) a h3 x3
          rw [hst a ha h5]
          exact h a ha h3 h5
    rw [← jpk1_c (M := fun y => jmg D r y (jSs D (fun x => decide (x ∈ post))) (jnb (jI m b 16))) (M' := jMr D p0 r) (jDz D r) 0 _ (fun x _ hx => hM' x (by omega))] at o5
    obtain ⟨m1, a1, a2, a3, a4, a5, a6⟩ := q_leadInto (F := F) (by omega) hr hI (P := fun x => decide (x ∈ post)) (by simpa using hrpost) hs hrr.1 hLle hLr o5
    have hR1 : (fun y => if y = r then jrw D p0 r else jrw D p0 y) = jrw D p0 := by
      funext y
      by_cases h : y = r
      · rw [if_pos h, h]
      · rw [if_neg h]
    have hP1 : (fun y => decide (y ∈ post) || y == r) = fun y => decide (y ∈ r :: post) := by
      funext y
      rw [Bool.eq_iff_iff]
      simp
      exact Or.comm
    rw [hR1, hP1] at a6
    have hI1 : jIn D b m1 := jIn_fr (S := jSle b) (fun a ha => by unfold jSle at ha; omega) a2 hI
    have hM1 : jTM D (b + 1) m1 := jTM_of (fun a h1 h2 => a2.2.2.2.2.2.1 a (by unfold jSle; omega)) hM
    have hb6 : jL m1 (b + 6) = jL m (b + 6) := a2.2.2.2.2.2.2 _ (by unfold jSle; omega)
    have hb8 : jL m1 (b + 8) = jL m (b + 8) := a2.2.2.2.2.2.2 _ (by unfold jSle; omega)
    have hpick := (a6.2.2.2 r hr (by simp)).1
    have hin : jin1 D p0 r ≤ jMX := by
      have := (hrr.1 _ o1).2
      omega
    have hSp := jS_pos hT hro o2 o3
    obtain ⟨m2, b1, b2, b3, b4⟩ := q_leadChildren (F := F) (by omega) hr (show jrw D p0 r < 8 by omega) hq hin hI1 hM1 (by
      have := hrr.2 _ o1 o2
      unfold jUd at this ⊢
      rw [hb8]
      exact this) hSp hpick (by rw [a5, jupd_e])
    have hf2 : jfr (jSle b) m m2 := a2.trans (b2.weak (fun a h => Or.inr (Or.inr h)))
    have hI2 : jIn D b m2 := jIn_fr (S := jSle b) (fun a ha => by unfold jSle at ha; omega) hf2 hI
    have hM2 : jTM D (b + 1) m2 := jTM_of (fun a h1 h2 => hf2.2.2.2.2.2.1 a (by unfold jSle; omega)) hM
    have hs2 : jsd D (fun y => decide (y ∈ r :: post)) (jrw D p0) b m2 := jsd_of (by rw [b3]) (by rw [b3]) a6
    obtain ⟨m', y1, y2, y3, y4, y5, y6⟩ := ih pre (r :: post) f m2 hpl e' (by omega) hI2 hM2 (fun x hx => jRd_of (hf2.2.2.2.2.2.2 _ (by unfold jSle; omega)) (hf2.2.2.2.2.2.2 _ (by unfold jSle; omega)) (hR x hx)) hs2 (fun x hx hux => by
      have hxr : x ≠ r := fun h => hrpre (h ▸ hx)
      have hxo : x ∈ jord D := by rw [e']; exact List.mem_append_left _ hx
      have hx4 := (hT.2.1 x).mp hxo
      rw [b4, a5, jupd_n hxr]
      by_cases hk : jkid D x r = true
      · rw [if_pos ⟨hx4.1, hk⟩]
        unfold jkid at hk
        rw [Bool.and_eq_true, beq_iff_eq] at hk
        unfold jLv
        rw [hk.2]
      · rw [if_neg (fun h => hk h.2)]
        refine hl x (by simp [hx]) (fun u hu => ?_)
        rcases List.mem_cons.mp (hux u hu) with h | h
        · subst h
          exact absurd (by unfold jkid; rw [hx4.2, hu]; simp) hk
        · exact h)
    refine ⟨m', ?_, hf2.trans y2, fun j j1 j2 => by rw [y3 j j1 j2, b3, a3 j j1 j2], by rw [y4, b2.2.2.2.2.2.2 b (by omega), a4], fun x hx => ?_, y6⟩
    · show c_X2_lead_l114_b F _ m _ _ = _
      unfold c_X2_lead_l114_b
      have hlt := hI.1.2.2.2.2.2.2.2.2.2.2.2.2.2.2.2.2.2.2
      have hlt1 := hI1.1.2.2.2.2.2.2.2.2.2.2.2.2.2.2.2.2.2.2
      have hnl : n < (jord D).length := by rw [e']; simp; omega
      have hget : (jord D).getD n 0 = r := by rw [e', ← hpl]; simp [List.getD]
      rw [jdown_s, if_neg (ji_ge0 (by omega)), jgd_t hI.1.1, hI.1.2.1, jgd_t hlt.1, hlt.2.2.2.1, jgd_t hlt.2.2.2.2.2.2.2.2.2.1, hlt.2.2.2.2.2.2.2.2.2.2.1, jgd_t (ji_int (by omega) (by omega)), ji_n (by omega), hM.2.2.2.2.1 n hnl, hget, a1, jb_some]
      dsimp only
      rw [if_neg (show ¬ (1 : Int32) = 0 by decide), jgd_t hI1.1.1, hI1.1.2.1, jgd_t hlt1.1, hlt1.2.2.2.1, jgd_t hlt1.2.2.2.2.2.2.2.2.2.1, hlt1.2.2.2.2.2.2.2.2.2.2.1, jgd_t (ji_int (by omega) (by omega)), hM1.2.2.2.2.1 n hnl, hget, b1, jb_some, jdown]
      exact y1
    · have hxr : x ≠ r := fun h => hx (h ▸ hro)
      rw [y5 x hx, b4, a5, jupd_n hxr, if_neg]
      rintro ⟨h1, h2⟩
      unfold jkid at h2
      rw [Bool.and_eq_true] at h2
      exact hx ((hT.2.1 x).mpr ⟨h1, h2.1⟩)
end LEAD
