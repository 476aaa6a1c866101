/-! the start holds what jX0 says -/
theorem jarr {s : State} {args : Array Value} {ty : FieldType} (h : (Cond.arrayClass ty).before args s = true) : ∃ cA : ClassId, ArrOfT s cA ty ∧ s.vm.findClass ("[" ++ ty.toString) = some cA := by
  obtain ⟨cA, kA, comp, h1, h2, h3⟩ := Cond.arrayClass_spec h
  exact ⟨cA, fun n z => ⟨fun k h => (by cases h), kA, h2, comp, h3⟩, h1⟩
theorem jknown {s : State} {args : Array Value} (hts : ∀ w ∈ lw_tbl, w.before args s = true) : ∃ (D : va_G) (cA : Nat → ClassId), ∀ X : jX, X.1 = D → X.2.1 = cA → va_K D jcl (jtys X) s := by
  have h1 : ∀ c : Nat, ∃ q : ClassId × (Nat → Nat), c < 11 → u_Kn s (jRR c) (jTT c) (jnf c) q.1 q.2 := by
    intro c
    by_cases hc : c < 11
    · obtain ⟨cC, iS, h⟩ := u_known (C := jRR c) (T := jTT c) (N := jnf c) (n := jnf c) hts (fun w hw => jW_in (jin_ok hc w hw)) (hts _ (jw_6 c hc))
      exact ⟨(cC, iS), fun _ => h⟩
    · exact ⟨(0, fun _ => 0), fun h => absurd h hc⟩
  obtain ⟨f, hf⟩ := Classical.axiomOfChoice h1
  obtain ⟨c1, a1, b1⟩ := jarr (hts _ jw_7.1)
  obtain ⟨c2, a2, b2⟩ := jarr (hts _ jw_7.2.1)
  obtain ⟨c3, a3, b3⟩ := jarr (hts _ jw_7.2.2.1)
  obtain ⟨c4, a4, b4⟩ := jarr (hts _ jw_7.2.2.2)
  obtain ⟨p5, c5, k5, i1, i2, i3, i4, i5⟩ := Cond.arrayOver_spec (hts _ jw_8.1)
  obtain ⟨p6, c6, k6, j1, j2, j3, j4, j5⟩ := Cond.arrayOver_spec (hts _ jw_8.2.1)
  obtain ⟨p7, c7, k7, g1, g2, g3, g4, g5⟩ := Cond.arrayOver_spec (hts _ jw_8.2.2)
  refine ⟨(fun c => (f c).1, fun c => (f c).2), fun k => if k = 0 then c1 else if k = 1 then c1 else if k = 2 then c2 else if k = 3 then c3 else if k = 4 then c4 else if k = 5 then c5 else if k = 6 then c6 else c7, fun X hX1 hX2 => ⟨fun c q hq => ?_, fun k q hk => ?_⟩⟩
  · have hc : c < 11 := (List.getElem?_eq_some_iff.mp hq).1
    rw [jcl_at hc] at hq
    cases hq
    exact hf c hc
  · have hk8 : k < 8 := (List.getElem?_eq_some_iff.mp hk).1
    rw [jtys_at X hk8, hX2] at hk
    cases hk
    match k, hk8 with
    | 0, _ => exact ⟨a1, b1⟩
    | 1, _ => exact ⟨a1, b1⟩
    | 2, _ => exact ⟨a2, b2⟩
    | 3, _ => exact ⟨a3, b3⟩
    | 4, _ => exact ⟨a4, b4⟩
    | 5, _ => exact ⟨fun n z => ⟨fun k h => (by cases h), k5, i3, p5, i4⟩, k5, p5, i3, i4, i1, i5⟩
    | 6, _ => exact ⟨fun n z => ⟨fun k h => (by cases h), k6, j3, p6, j4⟩, k6, p6, j3, j4, j1, j5⟩
    | 7, _ => exact ⟨fun n z => ⟨fun k h => (by cases h), k7, g3, p7, g4⟩, k7, p7, g3, g4, g1, g5⟩
theorem jstart {s : State} {b L : Nat} {xs : Nat → Int32} (hts : ∀ w ∈ lw_tbl, w.before #[Value.ref b] s = true) (hX : va_X b L xs s s.heap) (hbl : b < s.heap.size) (hgv : (Jvm.Cond.and given_1 narrow_1).before #[Value.ref b] s = true) : ∃ (tI tF : Nat) (adK adV : Nat → Nat), jFS0 s.heap.size tI b tF L xs adK adV s := by
  have hs : ∀ c ∈ jFl, c.before #[Value.ref b] s = true := flat_of_before _ hgv
  have hA : ∀ a : Nat, a < s.heap.size → ¬ (fun q => s.heap.size ≤ q) a := fun a h => Nat.not_le.mpr h
  obtain ⟨adK, adV, hS, hev⟩ := vk_Sof (N := 8) (tm := jSt_tm) (len := jSl) (byt := jSb) (A := fun q => s.heap.size ≤ q) (args := #[Value.ref b]) (s := s) (by decide) (fun i hi => hs _ (jf_1 i hi)) (fun i hi => hs _ (jf_2 i hi)) (fun i hi => hs _ (jf_3 i hi)) (fun i hi => hs _ (jf_4 i hi)) (fun i hi j hj => hs _ (jf_5 i hi j hj)) (fun i j hi hj h => (jf_6 i hi j hj h).imp (fun q => hs _ q) (fun q => hs _ q)) hA
  obtain ⟨tI, hI, hTI⟩ := va_Tof (N := 6) (f := fun j => .int (jISv j)) (A := fun q => s.heap.size ≤ q) (by decide) (hs _ jf_7) (va_eqt (hs _ jf_8)) (fun j hj => va_eqt (hs _ (jf_9 j hj))) hA
  have hZI := va_Zof (A := fun q => s.heap.size ≤ q) (hts _ jw_1) (hts _ jw_4.1) hI hA
  have hCS := va_Zof (A := fun q => s.heap.size ≤ q) (hts _ jw_2) (hts _ jw_4.2.1) (va_eqi (hs _ jf_10)) hA
  have hSF := va_Zqof (A := fun q => s.heap.size ≤ q) (hts _ jw_3) (hts _ jw_4.2.2) (hs _ jf_11) hA
  obtain ⟨tF, hSF⟩ : ∃ tF : Nat, va_Z "jdk/internal/util/Preconditions" "SIOOBE_FORMATTER" "Ljava/util/function/BiFunction;" .null (fun q => s.heap.size ≤ q) s s.heap ∨ va_Z "jdk/internal/util/Preconditions" "SIOOBE_FORMATTER" "Ljava/util/function/BiFunction;" (.ref tF) (fun q => s.heap.size ≤ q) s s.heap := by
    rcases hSF with h | ⟨t, h⟩
    · exact ⟨0, Or.inl h⟩
    · exact ⟨t, Or.inr h⟩
  refine ⟨tI, tF, adK, adV, fun w hw => ?_, Nat.le_refl _, ⟨hX, hbl⟩, ⟨hTI, Nat.not_le.mp hTI.out⟩, hZI, hS.1, fun i hi => vk_R.of (hts _ (jw_5 i hi)) (hev i hi), hCS, hSF⟩
  have hwt : w ∈ lw_tbl := (List.mem_filter.mp hw).1
  rcases jodd_kind hw with ⟨a, i, x, q, rfl⟩ | ⟨a, q, rfl⟩ | ⟨t, rfl⟩
  · exact va_Nw.of rfl (hts _ hwt)
  · exact va_Nw.of rfl (hts _ hwt)
  · obtain ⟨C, rfl⟩ := jodd_obj _ hw t rfl
    exact va_AO.of (hts _ hwt)
theorem jm00_wf {D : va_G} {cA : Nat → ClassId} {z tI b tF L : Nat} {xs : Nat → Int32} {adK adV : Nat → Nat} : jWf (jX0 D cA z tI b tF L xs adK adV) (jm00 L xs) := by
  refine ⟨fun a ha => ⟨rfl, rfl, rfl⟩, fun a ha => ?_, fun a ha => ?_⟩
  · have ha : 32 + 0 ≤ a := ha
    show jpk a = 0
    unfold jpk
    rw [if_neg (by omega), if_neg (by omega), if_neg (by omega), if_neg (by omega), if_neg (by omega)]
  · refine Or.inl ?_
    show jpk a < 8
    unfold jpk
    rw [if_neg (by omega), if_neg (by omega), if_neg (by omega), if_neg (by omega), if_neg (by omega)]
    omega
