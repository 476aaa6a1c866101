/-! each instruction of jx1 is a step of the machine -/
/-- a word by its place: 240 times the table's number (0: what is selected), and its place there -/
def jtb (k : Nat) : List Cond := match k with
  | 0 => k2_sels lw_privs
  | 1 => tables_1_1
  | 2 => tables_1_2
  | 3 => tables_1_3
  | 4 => tables_1_4
  | 5 => tables_1_5
  | 6 => tables_1_6
  | 7 => tables_1_7
  | _ => tables_1_8
theorem jtb_in {k : Nat} {w : Cond} (h : w ∈ jtb k) : w ∈ lw_tbl := by
  have t : w ∈ tables_1 → w ∈ lw_tbl := fun q => List.mem_append_right _ q
  match k, h with
  | 0, h => exact List.mem_append_left _ h
  | 1, h => exact t (List.mem_append_left _ h)
  | 2, h => exact t (List.mem_append_right _ (List.mem_append_left _ h))
  | 3, h => exact t (List.mem_append_right _ (List.mem_append_right _ (List.mem_append_left _ h)))
  | 4, h => exact t (List.mem_append_right _ (List.mem_append_right _ (List.mem_append_right _ (List.mem_append_left _ h))))
  | 5, h => exact t (List.mem_append_right _ (List.mem_append_right _ (List.mem_append_right _ (List.mem_append_right _ (List.mem_append_left _ h)))))
  | 6, h => exact t (List.mem_append_right _ (List.mem_append_right _ (List.mem_append_right _ (List.mem_append_right _ (List.mem_append_right _ (List.mem_append_left _ h))))))
  | 7, h => exact t (List.mem_append_right _ (List.mem_append_right _ (List.mem_append_right _ (List.mem_append_right _ (List.mem_append_right _ (List.mem_append_right _ (List.mem_append_left _ h)))))))
  | k + 8, h => exact t (List.mem_append_right _ (List.mem_append_right _ (List.mem_append_right _ (List.mem_append_right _ (List.mem_append_right _ (List.mem_append_right _ (List.mem_append_right _ h)))))))
theorem jW_of {w : Cond} (i : Nat) (h : (jtb (i / 240))[i % 240]? = some w) (g : goodWord w = true) : w ∈ jW := List.mem_filter.mpr ⟨jtb_in (List.mem_of_getElem? h), g⟩
def jwi (i : Nat) (w : Cond) : Bool := decide ((jtb (i / 240))[i % 240]? = some w) && goodWord w
theorem jwi_ok {i : Nat} {w : Cond} (h : jwi i w = true) : w ∈ jW := by
  unfold jwi at h
  rw [Bool.and_eq_true] at h
  exact jW_of i (of_decide_eq_true h.1) h.2
/-- the type of a row's places, by its kind -/
def jel (k : Nat) : FieldType := match k with
  | 2 => .long
  | 3 => .char
  | 4 => .boolean
  | 5 => .object RX4
  | 6 => .object RX7
  | 7 => .object RX5
  | _ => .int
theorem jtys_at (X : jX) {k : Nat} (h : k < 8) : (jtys X)[k]? = some (X.2.1 k, jel k) := by
  match k, h with
  | 0, _ | 1, _ | 2, _ | 3, _ | 4, _ | 5, _ | 6, _ | 7, _ => rfl
def jil (i : Instr) : Nat := match i with
  | .bipush _ | .ldc _ | .iload _ | .lload _ | .aload _ | .istore _ | .lstore _ | .astore _ | .newarray _ => 2
  | .sipush _ | .ldc_w _ | .ldc2_w _ | .iinc _ _ | .goto _ | .getstatic _ | .getfield _ | .putfield _ | .new _ | .anewarray _ => 3
  | _ => 1
def jnext (pc : Nat) (o : jOp) : Nat := match o.1 with
  | .goto _ => o.2.2.1
  | i => pc + jil i
/-- the words that say that a class is initialised stand among the first -/
def jinit (c : String) : Bool := decide (Cond.initialized c ∈ tables_1_1)
theorem jinit_ok {c : String} (h : jinit c = true) : Cond.initialized c ∈ lw_tbl := jtb_in (k := 1) (of_decide_eq_true h)
/-- what is decided by a program: the instruction stands there, and names what it is said to name -/
def jres (M : jM) (pc : Nat) (o : jOp) : Bool := match o.1 with
  | .iconst n => decide (Int32.ofInt n = o.2.2.2.2.2.1)
  | .bipush n => decide ((Int8.ofInt n).toInt32 = o.2.2.2.2.2.1)
  | .sipush n => decide ((Int16.ofInt n).toInt32 = o.2.2.2.2.2.1)
  | .ldc i => jwi o.2.2.1 (.constant M.1 i o.2.2.2.2.2.1)
  | .ldc_w i => jwi o.2.2.1 (.constant M.1 i o.2.2.2.2.2.1)
  | .lconst n => decide (Int64.ofNat n.val = o.2.2.2.2.2.2)
  | .ldc2_w i => jwi o.2.2.1 (.constantLong M.1 i o.2.2.2.2.2.2)
  | .istore_n k => decide (k.val < M.2.2.2.1)
  | .astore_n k => decide (k.val < M.2.2.2.1)
  | .istore k => decide (k < M.2.2.2.1)
  | .astore k => decide (k < M.2.2.2.1)
  | .lstore_n k => decide (k.val + 1 < M.2.2.2.1)
  | .lstore k => decide (k + 1 < M.2.2.2.1)
  | .iinc k n => decide (k < M.2.2.2.1) && decide (Int32.ofInt n = o.2.2.2.2.2.1)
  | .goto off => decide ((pc : Int) + off = (o.2.2.1 : Int))
  | .getstatic i => jwi o.2.2.1 (.fieldLink M.1 i RX4 "IS" "[I")
  | .getfield i => decide (o.2.2.1 < 11) && (decide (o.2.2.2.1 < jnf o.2.2.1) && jwi o.2.2.2.2.1 (.fieldLink M.1 i (jTT o.2.2.1 o.2.2.2.1).1 (jTT o.2.2.1 o.2.2.2.1).2.1 (jTT o.2.2.1 o.2.2.2.1).2.2.1))
  | .putfield i => decide (o.2.2.1 < 11) && (decide (o.2.2.2.1 < jnf o.2.2.1) && (jwi o.2.2.2.2.1 (.fieldLink M.1 i (jTT o.2.2.1 o.2.2.2.1).1 (jTT o.2.2.1 o.2.2.2.1).2.1 (jTT o.2.2.1 o.2.2.2.1).2.2.1) && (decide ((jTT o.2.2.1 o.2.2.2.1).2.2.2 = false ∨ (M.2.1.name = "<init>" ∧ (jTT o.2.2.1 o.2.2.2.1).1 = M.1)) && decide (jtc (jty o.2.2.1 o.2.2.2.1) = 3 → jty o.2.2.1 o.2.2.2.1 = .boolean))))
  | .iaload => decide (o.2.2.1 = 1 ∨ o.2.2.1 = 8 ∨ o.2.2.1 = 9)
  | .aaload => decide (o.2.2.1 = 5 ∨ o.2.2.1 = 6 ∨ o.2.2.1 = 7)
  | .aastore => decide (o.2.2.1 = 5 ∧ o.2.2.2.1 = 4 ∨ o.2.2.1 = 6 ∧ o.2.2.2.1 = 7 ∨ o.2.2.1 = 7 ∧ o.2.2.2.1 = 5)
  | .arraylength => decide (o.2.2.1 = 1 ∨ o.2.2.1 = 2 ∨ o.2.2.1 = 8)
  | .new i => decide (o.2.2.1 < 11) && (jwi o.2.2.2.1 (.classLink M.1 i (jRR o.2.2.1)) && (jwi o.2.2.2.2.1 (.instantiable (jRR o.2.2.1) (jnf o.2.2.1)) && jinit (jRR o.2.2.1)))
  | .newarray t => decide (1 ≤ o.2.2.1 ∧ o.2.2.1 ≤ 4) && (decide (newarray.typeOf t = jel o.2.2.1) && jwi o.2.2.2.1 (.arrayClass (jel o.2.2.1)))
  | .anewarray i => decide (5 ≤ o.2.2.1 ∧ o.2.2.1 ≤ 7) && (jwi o.2.2.2.1 (.classLink M.1 i (jRR (if o.2.2.1 = 5 then 4 else if o.2.2.1 = 6 then 7 else 5))) && decide (Cond.arrayOver (jel o.2.2.1) ∈ jOdd))
  | _ => true
def jcode1 (M : jM) (pc : Nat) (o : jOp) : Prop := decode M.2.2.1 pc = .ok (o.1, jil o.1) ∧ jres M pc o = true
section JST
variable {X : jX} {l : Launch} {d : Nat} {M : jM} {m0 m' : jMe} {pc pc' : Nat} {ls ls' : List (Nat × jAV)} {st st' : List jAV} {m : jMe}
/-- a step that leaves memory and locals -/
theorem jSt.stk (h : ∀ {p : Program} {e : Env} {R : Room} {s : State} {mth : MethodId} {args : Array Value} {below : List Frame} {meth : Method} {c0 : Code} {H : Heap} {locs : List Loc} {cells slots : Nat} {la : Array Slot} {Q : State → Prop}, p.tables.exec = Jvm.exec → c0.code = M.2.2.1 → s.vm.findClass M.1 = some mth.cls → (∀ w ∈ jW, w.before args s = true) → jFS X s → lv_has la M.2.2.2.1 (jlv X ls) →
    W p l e R s mth args below meth c0 H locs cells slots Q (F0 mth pc' la (st'.map (jv X))) → W p l e R s mth args below meth c0 H locs cells slots Q (F0 mth pc la (st.map (jv X)))) : jSt X l d M m0 m' (pc, ls, st, m) (pc', ls, st', m) := by
  refine ⟨⟨Nat.le_refl _, Nat.le_refl _⟩, fun q1 q2 p e R s mth args below meth c0 H locs la Q hC z1 z2 hl hG kk => ?_⟩
  obtain ⟨hx, hb, hml, hown, hts, hret, hlk, hnm, hK, hF, h0, hR1, hR2, hR3, hR4⟩ := hC
  exact h hx hb hown hts hF hl (kk la H locs hl hG)
/-- a step that leaves the memory -/
theorem jSt.loc (h : ∀ {p : Program} {e : Env} {R : Room} {s : State} {mth : MethodId} {args : Array Value} {below : List Frame} {meth : Method} {c0 : Code} {H : Heap} {locs : List Loc} {cells slots : Nat} {la : Array Slot} {Q : State → Prop}, p.tables.exec = Jvm.exec → c0.code = M.2.2.1 → lv_has la M.2.2.2.1 (jlv X ls) →
    (∀ la' : Array Slot, lv_has la' M.2.2.2.1 (jlv X ls') → W p l e R s mth args below meth c0 H locs cells slots Q (F0 mth pc' la' (st'.map (jv X)))) → W p l e R s mth args below meth c0 H locs cells slots Q (F0 mth pc la (st.map (jv X)))) : jSt X l d M m0 m' (pc, ls, st, m) (pc', ls', st', m) := by
  refine ⟨⟨Nat.le_refl _, Nat.le_refl _⟩, fun q1 q2 p e R s mth args below meth c0 H locs la Q hC z1 z2 hl hG kk => ?_⟩
  obtain ⟨hx, hb, hml, hown, hts, hret, hlk, hnm, hK, hF, h0, hR1, hR2, hR3, hR4⟩ := hC
  exact h hx hb hl (fun la' hl' => kk la' H locs hl' hG)
theorem jget_mem {ls : List (Nat × jAV)} {i : Nat} {v : jAV} (h : jget ls i = some v) : (i, v) ∈ ls := by
  induction ls with
  | nil => cases h
  | cons q l ih =>
    unfold jget at h
    split at h
    · rename_i hq
      subst hq
      cases h
      exact List.mem_cons_self
    · exact List.mem_cons_of_mem _ (ih h)
theorem jlv_at {ls : List (Nat × jAV)} {i n : Nat} {v : jAV} {la : Array Slot} (hl : lv_has la n (jlv X ls)) (h : jget ls i = some v) : la[i]? = some (.val (jv X v)) :=
  hl.2.2 (i, jv X v) (List.mem_map.mpr ⟨(i, v), jget_mem h, rfl⟩)
theorem jlv_put1 (X : jX) (i : Nat) (v : jAV) (ls : List (Nat × jAV)) : (i, jv X v) :: (jlv X ls).filter (fun q => !(q.1 == i) && !(q.1 + 1 == i && q.2.category == 2)) = jlv X (jput1 i v ls) := by
  unfold jput1 jlv
  rw [List.map_cons, List.filter_map]
  congr 2
  apply List.filter_congr
  intro q _
  show (!(q.1 == i) && !(q.1 + 1 == i && (jv X q.2).category == 2)) = _
  rw [jv_cat]
theorem jlv_put2 (X : jX) (i : Nat) (v : jAV) (ls : List (Nat × jAV)) : (i, jv X v) :: (jlv X ls).filter (fun q => !(q.1 == i) && (!(q.1 == i + 1) && !(q.1 + 1 == i && q.2.category == 2))) = jlv X (jput2 i v ls) := by
  unfold jput2 jlv
  rw [List.map_cons, List.filter_map]
  congr 2
  apply List.filter_congr
  intro q _
  show (!(q.1 == i) && (!(q.1 == i + 1) && !(q.1 + 1 == i && (jv X q.2).category == 2))) = _
  rw [jv_cat]
/-- a step that changes a cell -/
theorem jSt.mem {m2 : jMe} (hN : jN m2 = jN m) (hT : jT m2 = jT m) (h : ∀ {p : Program} {e : Env} {R : Room} {s : State} {mth : MethodId} {args : Array Value} {below : List Frame} {meth : Method} {c0 : Code} {H : Heap} {locs : List Loc} {cells slots : Nat} {la : Array Slot} {Q : State → Prop}, p.tables.exec = Jvm.exec → c0.code = M.2.2.1 → c0.maxLocals = M.2.2.2.1 → s.vm.findClass M.1 = some mth.cls → (∀ w ∈ jW, w.before args s = true) → (M.2.1.name = "<init>" → meth.name = M.2.1.name) → va_K X.1 jcl (jtys X) s → jFS X s → True → lv_has la M.2.2.2.1 (jlv X ls) → jG X m s H locs →
    (∀ (H' : Heap) (locs' : List Loc), jG X m2 s H' locs' → W p l e R s mth args below meth c0 H' locs' cells slots Q (F0 mth pc' la (st'.map (jv X)))) → W p l e R s mth args below meth c0 H locs cells slots Q (F0 mth pc la (st.map (jv X)))) : jSt X l d M m0 m' (pc, ls, st, m) (pc', ls, st', m2) := by
  refine ⟨⟨by show jN m ≤ jN m2; omega, by show jT m ≤ jT m2; omega⟩, fun q1 q2 p e R s mth args below meth c0 H locs la Q hC z1 z2 hl hG kk => ?_⟩
  obtain ⟨hx, hb, hml, hown, hts, hret, hlk, hnm, hK, hF, h0, hR1, hR2, hR3, hR4⟩ := hC
  refine h hx hb hml hown hts hnm hK hF ?_ hl hG (fun H' locs' hG' => ?_)
  · trivial
  · have k := kk la H' locs' hl hG'
    dsimp only at k
    rw [hN, hT] at k
    exact k
theorem jWf.upd {m2 : jMe} {a : Nat} (hWf : jWf X m) (ha : 32 ≤ a) (hN : jN m2 = jN m) (hK : jK m2 = jK m) (hZ : jZ m2 = jZ m) (hI : ∀ b, b ≠ a → jI m2 b = jI m b) : jWf X m2 := by
  refine ⟨fun b hb => ?_, fun b hb => ?_, fun b hb => ?_⟩
  · rw [hK, hZ, hI b (by omega)]
    exact hWf.1 b hb
  · rw [hK]
    exact hWf.2.1 b (by omega)
  · rw [hK]
    exact hWf.2.2 b hb
end JST
