/-! new cells: where they are; copies -/
theorem jdv_all : ((List.range 11).all fun c => (List.range (jnf c)).all fun k => (match jty c k with | .float => false | .double => false | _ => true)) = true := by decide +kernel
theorem jdv {X : jX} {m : jMe} {a c k : Nat} (hc : c < 11) (hk : k < jnf c) (hI : jI m a k = 0) (hL : jL m a k = 0) (hP : jP m a k = 0) : defaultValue (jty c k) = jfv X m a c k := by
  have h1 := List.all_eq_true.mp (List.all_eq_true.mp jdv_all c (List.mem_range.mpr hc)) k (List.mem_range.mpr hk)
  unfold jfv
  rw [hI, hL, hP]
  generalize jty c k = t at h1
  cases t <;> first | rfl | (cases h1)
section JN
variable {X : jX} {l : Launch} {d : Nat} {M : jM} {m0 m' : jMe} {pc : Nat} {ls : List (Nat × jAV)} {r : List jAV} {m : jMe}
theorem jnew_ne {m : jMe} {k z n b : Nat} (h : b ≠ 32 + jN m) : jcell X (jnew m k z n) b = jcell X m b :=
  jcell_congr (jat_ne _ _ h) (jat_ne _ _ h) (jat_ne _ _ h) (jat_ne _ _ h) (jat_ne _ _ h)
/-- the address of a new cell -/
theorem jnew_ad (hX : jOk X) {q : Nat} {e : va_E} {H1 : Heap} (hP : va_P X.1 jcl (jws X m ++ [(q, e)]) H1) (hD : va_D (jA X) (jws X m ++ [(q, e)])) (hz : H1.size ≤ jad X 32 + (jN m + 1)) : q = jad X (32 + jN m) := by
  have hl : (jws X m).length = jN m := by simp [jws]
  have h1 : (jws X m ++ [(q, e)])[jN m]? = some (q, e) := by
    rw [List.getElem?_append_right (by omega), hl, Nat.sub_self]
    rfl
  have h2 : q < H1.size := (hP _ _ h1).lt
  have h3 : jad X 32 ≤ q := hD.2 _ _ h1
  rw [hX.1]
  rcases Nat.lt_or_ge q (jad X 32 + jN m) with h | h
  · have h4 : q - jad X 32 < jN m := by omega
    have h5 := jws_at (X := X) h4
    have h6 : (jws X m ++ [(q, e)])[q - jad X 32]? = some (jad X (32 + (q - jad X 32)), jcell X m (32 + (q - jad X 32))) := by
      rw [List.getElem?_append_left (by omega)]
      exact h5
    have h7 := hD.1 _ _ _ _ h6 h1 (by show jad X (32 + (q - jad X 32)) = q; rw [hX.1]; omega)
    omega
  · omega
theorem jWf.new (hWf : jWf X m) {m2 : jMe} (hN : jN m2 = jN m + 1) (hk : jK m2 (32 + jN m) < 8 ∨ 32 ≤ jK m2 (32 + jN m)) (h : ∀ b, b ≠ 32 + jN m → jK m2 b = jK m b ∧ jZ m2 b = jZ m b ∧ jI m2 b = jI m b) : jWf X m2 := by
  refine ⟨fun b hb => ?_, fun b hb => ?_, fun b hb => ?_⟩
  · obtain ⟨h1, h2, h3⟩ := h b (by omega)
    rw [h1, h2, h3]
    exact hWf.1 b hb
  · rw [(h b (by omega)).1]
    exact hWf.2.1 b (by omega)
  · by_cases q : b = 32 + jN m
    · rw [q]
      exact hk
    · rw [(h b q).1]
      exact hWf.2.2 b hb
/-- a step that makes a cell -/
theorem jSt.made (hX : jOk X) {m2 : jMe} {n pc' : Nat} {st st' : List jAV} (hN : jN m2 = jN m + 1) (hT : jT m2 = jT m + n) (hkk : jK m2 (32 + jN m) < 8 ∨ 32 ≤ jK m2 (32 + jN m)) (ho : ∀ b, b ≠ 32 + jN m → jK m2 b = jK m b ∧ jZ m2 b = jZ m b ∧ jI m2 b = jI m b ∧ jL m2 b = jL m b ∧ jP m2 b = jP m b)
    (h : ∀ {p : Program} {e : Env} {R : Room} {s : State} {mth : MethodId} {args : Array Value} {below : List Frame} {meth : Method} {c0 : Code} {H : Heap} {locs : List Loc} {cells slots : Nat} {la : Array Slot} {Q : State → Prop}, p.tables.exec = Jvm.exec → c0.code = M.2.2.1 → c0.maxLocals = M.2.2.2.1 → la.size = M.2.2.2.1 → s.vm.findClass M.1 = some mth.cls → (∀ w ∈ jW, w.before args s = true) → (∀ w ∈ jOdd, va_Nw w s) → va_K X.1 jcl (jtys X) s → jG X m s H locs → (∀ q, s.heap.size ≤ q → jA X q) → cells + 1 ≤ R.cells → slots + n ≤ R.slots → (d ≤ R.frames ∧ 40 * d ≤ R.locals) →
      (∀ (q : Nat) (H1 : Heap), va_P X.1 jcl (jws X m ++ [(q, jcell X m2 (32 + jN m))]) H1 → va_D (jA X) (jws X m ++ [(q, jcell X m2 (32 + jN m))]) → va_S (jA X) s.heap H1 locs → W p l e R s mth args below meth c0 H1 locs (cells + 1) (slots + n) Q (F0 mth pc' la (.ref q :: (st'.map (jv X)).tail))) →
      W p l e R s mth args below meth c0 H locs cells slots Q (F0 mth pc la (st.map (jv X)))) (hst : ∃ r2, st' = .inr (.inr (32 + jN m)) :: r2) : jSt X l d M m0 m' (pc, ls, st, m) (pc', ls, st', m2) := by
  refine ⟨⟨by show jN m ≤ jN m2; omega, by show jT m ≤ jT m2; omega⟩, fun q1 q2 p e R s mth args below meth c0 H locs la Q hC z1 z2 hl hG kk => ?_⟩
  obtain ⟨hx, hb, hml, hown, hts, hret, hlk, hnm, hK, hF, h0, hR1, hR2, hR3, hR4⟩ := hC
  dsimp only at q1 q2 z1 z2
  have hs0 := (hX.2.2.2.1 s hF).2
  refine h hx hb hml hl.1 hown hts (hX.2.2.2.1 s hF).1 hK hG (fun q hq => Nat.le_trans hs0 hq) (by show jN m - jN m0 + 1 ≤ R.cells; omega) (by show jT m - jT m0 + n ≤ R.slots; omega) ⟨hR1, hR2⟩ (fun q H1 hP1 hD1 hS1 => ?_)
  intro T hT Z
  have hsz : H1.size ≤ jad X 32 + (jN m + 1) := by
    have h1 := Z.heapSize
    dsimp only at h1
    rw [hT, h0] at h1
    omega
  have hq := jnew_ad hX hP1 hD1 hsz
  obtain ⟨r2, rfl⟩ := hst
  have e : Value.ref q :: (List.map (jv X) (.inr (.inr (32 + jN m)) :: r2)).tail = List.map (jv X) (.inr (.inr (32 + jN m)) :: r2) := by
    rw [List.map_cons, jref (by omega), hq]
    rfl
  rw [e]
  rw [hq] at hP1
  rw [jws_push hN (fun b hb => by obtain ⟨g1, g2, g3, g4, g5⟩ := ho b hb; exact jcell_congr g1 g2 g3 g4 g5) rfl] at hP1
  have k := kk la H1 locs hl ⟨hG.1.new hN hkk (fun b hb => by obtain ⟨g1, g2, g3, g4, g5⟩ := ho b hb; exact ⟨g1, g2, g3⟩), hP1, hS1⟩
  dsimp only at k
  rw [show jN m2 - jN m0 = jN m - jN m0 + 1 by omega, show jT m2 - jT m0 = jT m - jT m0 + n by omega] at k
  exact k T hT Z
theorem jr_new (hX : jOk X) {c i : Nat} (hc : c < 11) (hlink : Cond.classLink M.1 i (jRR c) ∈ jW) (hinst : Cond.instantiable (jRR c) (jnf c) ∈ jW) (hini : Cond.initialized (jRR c) ∈ jW) (hd : decode M.2.2.1 pc = .ok (.new i, 3)) : jSt X l d M m0 m' (pc, ls, r, m) (pc + 3, ls, .inr (.inr (32 + jN m)) :: r, jnew m (32 + c) 0 (jnf c)) := by
  have hk : jK (jnew m (32 + c) 0 (jnf c)) (32 + jN m) = 32 + c := jat_self _ _ _
  refine jSt.made hX (n := jnf c) rfl rfl (by rw [hk]; omega) (fun b hb => ⟨jat_ne _ _ hb, jat_ne _ _ hb, jat_ne _ _ hb, jat_ne _ _ hb, jat_ne _ _ hb⟩) (fun hx hb hml hls hown hts hodd hK hG hA hcl hsl hlo kk => ?_) ⟨r, rfl⟩
  rw [jcell_o hk] at kk
  refine va_new (ci := c) (fs := (List.range (jnf c)).map (jfv X (jnew m (32 + c) 0 (jnf c)) (32 + jN m) c)) hx hb hts (jin_ok hc) (jty c) (jty_ok hc) hown (hts _ hlink) (hts _ hinst) (hts _ hini) hK hG.2.1 (jws_D hX.1) hG.2.2 hA (jcl_at hc) (fun j hj => ?_) hcl hsl hd (fun q H1 hP1 hD1 hS1 => kk q H1 hP1 hD1 hS1)
  have hz : ∀ {α : Type} (f : Nat → Nat → α) (x : α), jat f (32 + jN m) (fun _ => x) (32 + jN m) j = x := fun f x => by rw [jat_self]
  rw [vp_V, List.getD_eq_getElem?_getD, jfs_get hj]
  exact jdv hc hj (hz _ _) (hz _ _) (hz _ _)
theorem jr_newa (hX : jOk X) {k : Nat} {t : ArrayType} {x : Int32} (hk : 1 ≤ k ∧ k ≤ 4) (ht : newarray.typeOf t = jel k) (harr : Cond.arrayClass (jel k) ∈ jW) (h0 : ¬ x < 0) (h1 : x.toNatClampNeg ≤ 10000) (hd : decode M.2.2.1 pc = .ok (.newarray t, 2)) : jSt X l d M m0 m' (pc, ls, .inl x :: r, m) (pc + 2, ls, .inr (.inr (32 + jN m)) :: r, jnew m k x.toNatClampNeg x.toNatClampNeg) := by
  have hkk : jK (jnew m k x.toNatClampNeg x.toNatClampNeg) (32 + jN m) = k := jat_self _ _ _
  refine jSt.made hX (n := x.toNatClampNeg) rfl rfl (by rw [hkk]; omega) (fun b hb => ⟨jat_ne _ _ hb, jat_ne _ _ hb, jat_ne _ _ hb, jat_ne _ _ hb, jat_ne _ _ hb⟩) (fun {p e R s mth args below meth c0 H locs cells slots la Q} hx hb hml hls hown hts hodd hK hG hA hcl hsl hlo kk => ?_) ⟨r, rfl⟩
  have hcb : x.toNatClampNeg * componentBytes (jel k) ≤ 536870912 := by
    have : componentBytes (jel k) ≤ 8 := by
      rcases (by omega : k = 1 ∨ k = 2 ∨ k = 3 ∨ k = 4) with rfl | rfl | rfl | rfl <;> decide
    calc x.toNatClampNeg * componentBytes (jel k) ≤ 10000 * 8 := Nat.mul_le_mul h1 this
      _ ≤ 536870912 := Nat.le_of_ble_eq_true rfl
  have hcA : ∀ (cA : ClassId), va_RA s cA (jel k) → cA = X.2.1 k := by
    intro cA h
    have h2 := (hK.2 k _ (jtys_at X (by omega))).2
    rcases (by omega : k = 1 ∨ k = 2 ∨ k = 3 ∨ k = 4) with rfl | rfl | rfl | rfl <;> exact Option.some.inj (h.symm.trans h2)
  have hbase : ∃ a0 : vp_A, (∀ cA : ClassId, vp_cell cA a0 = arrV cA x.toNatClampNeg (fun _ => defaultValue (jel k))) ∧ jcell X (jnew m k x.toNatClampNeg x.toNatClampNeg) (32 + jN m) = .inl (X.2.1 k, a0) := by
    have hZ : jZ (jnew m k x.toNatClampNeg x.toNatClampNeg) (32 + jN m) = x.toNatClampNeg := jat_self _ _ _
    have hI : jI (jnew m k x.toNatClampNeg x.toNatClampNeg) (32 + jN m) = fun _ => 0 := jat_self _ _ _
    have hL : jL (jnew m k x.toNatClampNeg x.toNatClampNeg) (32 + jN m) = fun _ => 0 := jat_self _ _ _
    by_cases h2 : k = 2
    · subst h2
      rw [jcell_l hkk, hZ, hL]
      exact ⟨_, fun cA => rfl, rfl⟩
    · rw [jcell_i hkk (by omega), hZ, hI]
      refine ⟨_, fun cA => ?_, rfl⟩
      rcases (by omega : k = 1 ∨ k = 3 ∨ k = 4) with rfl | rfl | rfl <;> rfl
  obtain ⟨a0, ha0, hce⟩ := hbase
  rw [hce] at kk
  refine va_newa hx hb (atype := t) (by rw [ht]; exact hts _ harr) ht hK hG.2.1 (jws_D hX.1) hG.2.2 hA ha0 h0 rfl hcb hcl hsl hd (fun q cA H1 hK1 hP1 hD1 hS1 => ?_)
  have hRA := (hK1.2 (jtys X).length (cA, jel k) (by rw [List.getElem?_append_right (Nat.le_refl _), Nat.sub_self]; rfl)).2
  have e := hcA cA hRA
  subst e
  exact kk q H1 hP1 hD1 hS1
theorem jr_newq (hX : jOk X) {k i : Nat} {x : Int32} (hk : 5 ≤ k ∧ k ≤ 7) (hlink : Cond.classLink M.1 i (jRR (if k = 5 then 4 else if k = 6 then 7 else 5)) ∈ jW) (harr : Cond.arrayOver (jel k) ∈ jOdd) (h0 : ¬ x < 0) (h1 : x.toNatClampNeg ≤ 10000) (hd : decode M.2.2.1 pc = .ok (.anewarray i, 3)) : jSt X l d M m0 m' (pc, ls, .inl x :: r, m) (pc + 3, ls, .inr (.inr (32 + jN m)) :: r, jnew m k x.toNatClampNeg x.toNatClampNeg) := by
  have hkk : jK (jnew m k x.toNatClampNeg x.toNatClampNeg) (32 + jN m) = k := jat_self _ _ _
  refine jSt.made hX (n := x.toNatClampNeg) rfl rfl (by rw [hkk]; omega) (fun b hb => ⟨jat_ne _ _ hb, jat_ne _ _ hb, jat_ne _ _ hb, jat_ne _ _ hb, jat_ne _ _ hb⟩) (fun {p e R s mth args below meth c0 H locs cells slots la Q} hx hb hml hls hown hts hodd hK hG hA hcl hsl hlo kk => ?_) ⟨r, rfl⟩
  have hcb : x.toNatClampNeg * 4 ≤ 536870912 := by omega
  have hZ : jZ (jnew m k x.toNatClampNeg x.toNatClampNeg) (32 + jN m) = x.toNatClampNeg := jat_self _ _ _
  have hP : jP (jnew m k x.toNatClampNeg x.toNatClampNeg) (32 + jN m) = fun _ => 0 := jat_self _ _ _
  rw [jcell_q hkk (by omega), hZ, hP] at kk
  have hover : va_AO (jRR (if k = 5 then 4 else if k = 6 then 7 else 5)) s := by
    have h2 := hodd _ harr
    rcases (by omega : k = 5 ∨ k = 6 ∨ k = 7) with rfl | rfl | rfl <;> exact h2
  have hcA : ∀ (cA : ClassId), va_RA s cA (.object (jRR (if k = 5 then 4 else if k = 6 then 7 else 5))) → cA = X.2.1 k := by
    intro cA h
    have h2 := (hK.2 k _ (jtys_at X (by omega))).2
    obtain ⟨kA, comp, g1, g2, g3, g4⟩ := h
    rcases (by omega : k = 5 ∨ k = 6 ∨ k = 7) with rfl | rfl | rfl <;> (obtain ⟨kB, comB, f1, f2, f3, f4⟩ := h2; exact Option.some.inj (g4.symm.trans f4))
  refine va_newq hx hb hown (hts _ hlink) hover hK hG.2.1 (jws_D hX.1) hG.2.2 hA h0 rfl hcb hcl hsl hd (fun q cA H1 hK1 hP1 hD1 hS1 => ?_)
  have hRA := (hK1.2 (jtys X).length (cA, _) (by rw [List.getElem?_append_right (Nat.le_refl _), Nat.sub_self]; rfl)).2
  have e := hcA cA hRA
  subst e
  exact kk q H1 hP1 hD1 hS1
end JN
