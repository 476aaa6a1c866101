/-! answers are no more than the space: steps -/
section MOST2
variable {D : jD}
theorem jxX_O (hD : jDok D) {l : List Nat} {r : Nat} (hr : r < 4) (hl : r ∉ l) (hq : ¬ (jDq D).testBit r = true) (R : Nat → Nat) : jSum1 r (jxX D l) R ≤ jxX D (r :: l) R := by
  obtain ⟨root, hT, hrt, hro4, hro⟩ := jtree0 hD
  have hK : ¬ (jdK D).testBit r = true := fun q => hq ((jdK_bits r hr).1 q)
  have hC : ¬ (jdC D).testBit r = true := fun q => hq ((jdK_bits r hr).2.mp q).1
  have hkid : ∀ x, jkid D r x = false := fun x => by
    unfold jkid
    rw [Bool.eq_false_iff.mpr hK, Bool.false_and]
  refine jxX_step hr hl (fun m => if m = 0 then 1 else 0) (fun _ m _ h => ?_) (fun _ => ?_)
  · have h0 : m = 0 := by
      have := (h r hr hl).2 hq
      unfold jRr at this
      rw [if_pos rfl] at this
      exact this
    unfold jxa
    rw [if_neg hl, if_neg hq, if_pos h0]
    exact Nat.le_refl _
  · rw [jsum_at (k := 0) (f := fun _ => 1) (by omega), Nat.one_mul, jprd_pull (f := jxa D (r :: l) R) hr]
    have e1 : jxa D (r :: l) R r = 1 := by
      unfold jxa
      rw [if_pos (List.mem_cons_self ..), if_neg hC, if_neg]
      intro q
      rw [hrt] at q
      by_cases h0 : jDq D = 0
      · rw [if_pos h0] at q; cases q
      · rw [if_neg h0] at q
        have : root = r := Option.some.inj q
        rw [this] at hro
        exact hK ((hT.2.1 r).mp (hro h0)).2
    rw [e1, Nat.one_mul, jprd_c (fun x _ => ?_)]
    · exact Nat.le_refl _
    · by_cases e : x = r
      · rw [if_pos e, if_pos e]
      · rw [if_neg e, if_neg e, jxa_o e (hkid x)]
/-- rows of a check that match stand below its bound -/
theorem jsum_Mc {r : Nat} {R : Nat → Nat} : jsum (jDz D r) (fun m => if jMc D R r m = true then jwth D r m else 0) ≤ jbd D r := by
  by_cases h : ∃ y, y < jDz D r ∧ jMc D R r y = true
  · obtain ⟨y, hy, hm⟩ := h
    refine Nat.le_trans (jsum_le (g := fun m => if (jpb D r m && jmg D r m (jkn D r) (jDv D r y)) = true then jwth D r m else 0) (fun m hmz => ?_)) (jmx_ge (f := jhp D r) hy)
    by_cases e : jMc D R r m = true
    · rw [if_pos e, if_pos]
      · exact Nat.le_refl _
      · have hM : ∀ m, jMc D R r m = true → jpb D r m = true ∧ ∀ q, q < 4 → jPc D r q = true → jmt D q (R q) r m = true := by
          intro m h
          unfold jMc at h
          rw [Bool.and_eq_true, List.all_eq_true] at h
          refine ⟨h.1, fun q hq hp => ?_⟩
          have := h.2 q (List.mem_range.mpr hq)
          rw [hp] at this
          simpa using this
        obtain ⟨a1, a2⟩ := hM m e
        obtain ⟨b1, b2⟩ := hM y hm
        rw [Bool.and_eq_true]
        refine ⟨a1, jmg_iff.mpr (fun a ha har hak => ?_)⟩
        unfold jkn at hak
        rw [List.any_eq_true] at hak
        obtain ⟨q, hq, hqa⟩ := hak
        rw [Bool.and_eq_true] at hqa
        have hq4 := List.mem_range.mp hq
        have hpc : jPc D r q = true := hqa.1
        have c1 := jmg_iff.mp (a2 q hq4 hpc) a ha har hqa.2
        have c2 := jmg_iff.mp (b2 q hq4 hpc) a ha har hqa.2
        rw [c1, c2]
    · rw [if_neg e]
      exact Nat.zero_le _
  · rw [jsum_z (fun m hm => if_neg (fun q => h ⟨m, hm, q⟩))]
    exact Nat.zero_le _
theorem jxX_C (hD : jDok D) {l : List Nat} {r : Nat} (hr : r < 4) (hl : r ∉ l) (hC : (jdC D).testBit r = true) (hP : ∀ q, q < 4 → jPc D r q = true → q ∉ l) (R : Nat → Nat) : jSum1 r (jxX D l) R ≤ jxX D (r :: l) R := by
  have hQK := (jdK_bits (D := D) r hr).2.mp hC
  have hkid : ∀ x, jkid D r x = false := fun x => by
    unfold jkid
    rw [Bool.eq_false_iff.mpr hQK.2, Bool.false_and]
  have hkid2 : ∀ c, c < 4 → ¬ jkid D c r = true := fun c hc h => hQK.2 (jkid_K hD hc h).2
  have hz := (hD.2.2.1 r hr).2.2.1
  refine jxX_step hr hl (fun m => if m < jDz D r then (if jMc D R r m = true then jwth D r m else 0) else 0) (fun _ m _ h => ?_) (fun _ => ?_)
  · obtain ⟨h1, h2, h3⟩ := (h r hr hl).1 hQK.1
    have er : jRr R r m r = m := if_pos rfl
    rw [er] at h1 h2 h3
    have hM : jMc D R r m = true := by
      unfold jMc
      rw [h2, Bool.true_and, List.all_eq_true]
      intro q hq
      have hq4 := List.mem_range.mp hq
      cases e : jPc D r q with
      | false => rfl
      | true =>
        have hqr : q ≠ r := by
          intro z
          rw [z] at e
          unfold jPc at e
          rw [Bool.eq_false_iff.mpr hQK.2, decide_eq_false (by omega), Bool.and_false] at e
          cases e
        have hqq : (jDq D).testBit q = true := by
          unfold jPc at e
          rw [Bool.or_eq_true, Bool.and_eq_true] at e
          rcases e with e | e
          · exact (jdK_bits q hq4).1 e
          · exact ((jdK_bits q hq4).2.mp e.1).1
        have := h3 q hq4 (hP q hq4 e) hqq hqr
        rw [show jRr R r m q = R q from if_neg hqr] at this
        rw [this]
        rfl
    rw [if_pos h1, if_pos hM]
    unfold jxa
    rw [if_neg hl, if_pos hQK.1, er, jprd_c (g := fun _ => 1) (fun c hc => if_neg (fun z => hkid2 c hc z.1)), jprd_1, Nat.mul_one]
    exact Nat.le_refl _
  · rw [jsum_cut hz, jprd_pull (f := jxa D (r :: l) R) hr]
    have e1 : jxa D (r :: l) R r = jbd D r := by
      unfold jxa
      rw [if_pos (List.mem_cons_self ..), if_pos hC]
    rw [e1, jprd_c (fun x _ => ?_)]
    · exact Nat.mul_le_mul_right _ jsum_Mc
    · by_cases e : x = r
      · rw [if_pos e, if_pos e]
      · rw [if_neg e, if_neg e, jxa_o e (hkid x)]
theorem jxX_K (hD : jDok D) (hq0 : jDq D ≠ 0) {l : List Nat} {pre : List Nat} {r : Nat} {post : List Nat} (e : jord D = pre ++ r :: post) (hl : ∀ x, x ∈ jord D → (x ∈ l ↔ x ∈ pre)) (R : Nat → Nat) : jSum1 r (jxX D l) R ≤ jxX D (r :: l) R := by
  obtain ⟨root, hT, hrt, hro4, hro⟩ := jtree0 hD
  rw [if_neg hq0] at hrt
  have hnd := hT.1
  have hmem : r ∈ jord D := by rw [e]; simp
  obtain ⟨hr, hK⟩ := (hT.2.1 r).mp hmem
  have hQ : (jDq D).testBit r = true := (jdK_bits r hr).1 hK
  have hC : ¬ (jdC D).testBit r = true := fun q => ((jdK_bits r hr).2.mp q).2 hK
  have hnd2 := hnd
  rw [e, List.nodup_append] at hnd2
  have hrpre : r ∉ pre := fun q => hnd2.2.2 r q r (List.mem_cons_self ..) rfl
  have hrl : r ∉ l := fun q => hrpre ((hl r hmem).mp q)
  have hz := (hD.2.2.1 r hr).2.2.1
  obtain ⟨t1, t2⟩ := hT.2.2 pre r post e
  have hkids : ∀ c, c < 4 → jkid D c r = true → c ∈ l := by
    intro c hc hk
    have hp := jTr_kids hT e hc hk
    exact (hl c (by rw [e]; exact List.mem_append_left _ hp)).mpr hp
  have hW : ∀ m, jxJ D l (jRr R r m) → m < jDz D r ∧ jxa D l (jRr R r m) r = jW1 D r m := by
    intro m h
    obtain ⟨h1, h2, h3⟩ := (h r hr hrl).1 hQ
    have er : jRr R r m r = m := if_pos rfl
    rw [er] at h1 h2
    refine ⟨h1, ?_⟩
    unfold jxa
    rw [if_neg hrl, if_pos hQ, er, jW1_e hT hmem, if_pos h2]
    unfold jpre
    rw [jprd_c (fun c hc => ?_)]
    by_cases q : jkid D c r = true
    · rw [if_pos ⟨q, hkids c hc q⟩, if_pos q]
    · rw [if_neg (fun z => q z.1), if_neg q]
  by_cases hp : post = []
  · obtain ⟨hroot, hpar⟩ := t1 hp
    have hkid : ∀ x, jkid D r x = false := fun x => by
      unfold jkid
      rw [hpar, Bool.and_eq_false_iff]
      exact Or.inr rfl
    refine jxX_step hr hrl (fun m => if m < jDz D r then jW1 D r m else 0) (fun _ m _ h => ?_) (fun _ => ?_)
    · rw [if_pos (hW m h).1, (hW m h).2]
      exact Nat.le_refl _
    · rw [jsum_cut hz, jprd_pull (f := jxa D (r :: l) R) hr]
      have e1 : jxa D (r :: l) R r = jsum (jDz D r) (fun m => jW1 D r m) := by
        unfold jxa
        rw [if_pos (List.mem_cons_self ..), if_neg hC, hrt, ← hroot, if_pos rfl]
        unfold jAll
        rw [hrt, ← hroot]
      rw [e1, jprd_c (fun x _ => ?_)]
      · exact Nat.le_refl _
      · by_cases e : x = r
        · rw [if_pos e, if_pos e]
        · rw [if_neg e, if_neg e, jxa_o e (hkid x)]
  · obtain ⟨q, hq, hqp, -⟩ := t2 hp
    have hqm : q ∈ jord D := by rw [e]; exact List.mem_append_right _ (List.mem_cons_of_mem _ hqp)
    obtain ⟨hq4, hqK⟩ := (hT.2.1 q).mp hqm
    have hqQ : (jDq D).testBit q = true := (jdK_bits q hq4).1 hqK
    have hqr : q ≠ r := by
      intro z
      have := (List.nodup_cons.mp hnd2.2.1).1
      rw [← z] at this
      exact this hqp
    have hqpre : q ∉ pre := fun z => hnd2.2.2 q z q (List.mem_cons_of_mem _ hqp) rfl
    have hql : q ∉ l := fun z => hqpre ((hl q hqm).mp z)
    have hkrq : jkid D r q = true := by
      unfold jkid
      rw [hK, hq]
      simp
    have hkid : ∀ x, x ≠ q → jkid D r x = false := fun x hx => by
      unfold jkid
      rw [hK, hq, Bool.true_and, beq_eq_false_iff_ne]
      intro z
      exact hx (Option.some.inj z).symm
    have hnroot : jrt D ≠ some r := by
      intro z
      rw [hrt] at z
      have z : root = r := Option.some.inj z
      obtain ⟨p1, p2, e2⟩ := List.append_of_mem (hro hq0)
      obtain ⟨u1, u2⟩ := hT.2.2 p1 root p2 e2
      by_cases hp2 : p2 = []
      · have := (u1 hp2).2
        rw [z, hq] at this
        cases this
      · -- root has no parent: the last of the order is root
        have hlast : ∃ pr la, jord D = pr ++ la :: [] := by
          have hne : jord D ≠ [] := by rw [e]; simp
          exact ⟨(jord D).dropLast, (jord D).getLast hne, (List.dropLast_concat_getLast hne).symm⟩
        obtain ⟨pr, la, e3⟩ := hlast
        have := ((hT.2.2 pr la [] e3).1 rfl)
        have h1 := this.2
        rw [this.1, z, hq] at h1
        cases h1
    refine jxX_step hr hrl (fun m => if m < jDz D r then (if jmt D q (R q) r m = true then jW1 D r m else 0) else 0) (fun _ m _ h => ?_) (fun _ => ?_)
    · have h3 := ((h r hr hrl).1 hQ).2.2 q hq4 hql hqQ hqr
      rw [show jRr R r m q = R q from if_neg hqr, show jRr R r m r = m from if_pos rfl] at h3
      rw [if_pos (hW m h).1, if_pos h3, (hW m h).2]
      exact Nat.le_refl _
    · rw [jsum_cut hz, jprd_pull (f := jxa D (r :: l) R) hr]
      have e1 : jxa D (r :: l) R r = 1 := by
        unfold jxa
        rw [if_pos (List.mem_cons_self ..), if_neg hC, if_neg hnroot]
      have e2 : jxa D (r :: l) R q = jS1 D q (R q) r * jxa D l R q := by
        have hqrl : q ∉ r :: l := by
          rw [List.mem_cons]
          exact fun z => z.elim hqr hql
        unfold jxa
        rw [if_neg hqrl, if_neg hql, if_pos hqQ, if_pos hqQ, jprd_pull (f := fun c => if jkid D c q = true ∧ c ∈ r :: l then jS1 D q (R q) c else 1) hr, jprd_pull (f := fun c => if jkid D c q = true ∧ c ∈ l then jS1 D q (R q) c else 1) hr, if_pos ⟨hkrq, List.mem_cons_self ..⟩, if_neg (show ¬ (jkid D r q = true ∧ r ∈ l) from fun z => hrl z.2), Nat.one_mul]
        have : jprd 4 (fun x => if x = r then 1 else if jkid D x q = true ∧ x ∈ r :: l then jS1 D q (R q) x else 1) = jprd 4 (fun x => if x = r then 1 else if jkid D x q = true ∧ x ∈ l then jS1 D q (R q) x else 1) := by
          refine jprd_c (fun x _ => ?_)
          by_cases z : x = r
          · rw [if_pos z, if_pos z]
          · rw [if_neg z, if_neg z]
            have : (jkid D x q = true ∧ x ∈ r :: l) ↔ (jkid D x q = true ∧ x ∈ l) := by
              rw [List.mem_cons]
              exact ⟨fun ⟨a, b⟩ => ⟨a, b.elim (fun w => absurd w z) id⟩, fun ⟨a, b⟩ => ⟨a, Or.inr b⟩⟩
            simp only [this]
        rw [this]
        exact Nat.mul_left_comm _ _ _
      rw [e1, Nat.one_mul, jprd_pull (f := fun x => if x = r then 1 else jxa D (r :: l) R x) hq4, jprd_pull (f := fun x => if x = r then 1 else jxa D l R x) hq4, if_neg hqr, if_neg hqr, e2, ← Nat.mul_assoc]
      refine Nat.le_of_eq ?_
      have : jprd 4 (fun x => if x = q then 1 else if x = r then 1 else jxa D l R x) = jprd 4 (fun x => if x = q then 1 else if x = r then 1 else jxa D (r :: l) R x) := by
        refine jprd_c (fun x _ => ?_)
        by_cases z : x = q
        · rw [if_pos z, if_pos z]
        · rw [if_neg z, if_neg z]
          by_cases z2 : x = r
          · rw [if_pos z2, if_pos z2]
          · rw [if_neg z2, if_neg z2, jxa_o z2 (hkid x z)]
      rw [this]
      rfl
end MOST2
