/-! what a method does from a place on, over the memory: jS; a method's contract: jH; single steps: jSt -/
abbrev jM : Type := String × MethodName × ByteArray × Nat × Option FieldType
abbrev jCf : Type := Nat × List (Nat × jAV) × List jAV × jMe
def jlv (X : jX) (ls : List (Nat × jAV)) : List (Nat × Value) := ls.map fun q => (q.1, jv X q.2)
def jR (d cells slots : Nat) : Room := { frames := d, cells := cells, slots := slots, locals := 40 * d }
/-- the words that can't stand in a method's list: they are carried by the state -/
def jOdd : List Cond := lw_tbl.filter (fun w => match w with | .methodLinkNest _ _ _ _ => true | .castable _ _ => true | .arrayOver _ => true | _ => false)
def jWf (X : jX) (m : jMe) : Prop := (∀ a, a < 32 → jK m a = X.2.2.2.2.1 a ∧ jZ m a = X.2.2.2.2.2.1 a ∧ jI m a = X.2.2.2.2.2.2 a) ∧ (∀ a, 32 + jN m ≤ a → jK m a = 0) ∧ ∀ a, 32 ≤ a → jK m a < 8 ∨ 32 ≤ jK m a
def jFS (X : jX) : State → Prop := X.2.2.2.1
/-- the texts of the class: place in its pool, text, its cell's number -/
def jStrs : List (Nat × String × Nat) := [(125, "row", 3), (127, "from", 4), (129, "copies", 5), (113, "fits", 6), (119, "or", 7), (121, "and", 8), (123, "not", 9), (101, "();+-*%<=", 10)]
/-- what is told of the cells that were there before -/
def jOk (X : jX) : Prop :=
  (∀ j, jad X (32 + j) = jad X 32 + j) ∧ (∀ a, a < 32 → X.2.2.2.2.1 a = 0 ∨ a ≠ 0 ∧ (X.2.2.2.2.1 a = 8 ∨ X.2.2.2.2.1 a = 9 ∨ X.2.2.2.2.1 a = 10 ∧ 3 ≤ a ∧ a < 11 ∨ X.2.2.2.2.1 a = 11 ∧ 11 ≤ a ∧ a < 19)) ∧
  (∀ U U' : State, jFS X U → U.WarmedH U'.vm → (∀ q, q < jad X 32 → U'.heap[q]? = U.heap[q]?) → jFS X U') ∧
  (∀ U : State, jFS X U → (∀ w ∈ jOdd, va_Nw w U) ∧ jad X 32 ≤ U.heap.size) ∧
  (∀ U : State, jFS X U → ∀ a, a < 32 → X.2.2.2.2.1 a = 8 → va_X (jad X a) (X.2.2.2.2.2.1 a) (X.2.2.2.2.2.2 a) U U.heap ∧ jad X a < jad X 32) ∧
  (∀ U : State, jFS X U → ∀ a, a < 32 → X.2.2.2.2.1 a = 9 → va_T .int (jad X a) (X.2.2.2.2.2.1 a) (fun j => .int (X.2.2.2.2.2.2 a j)) (jA X) U U.heap ∧ jad X a < jad X 32) ∧
  (∀ U : State, jFS X U → va_Z RX4 "IS" "[I" (.ref (jad X 1)) (jA X) U U.heap) ∧
  (∀ U : State, jFS X U → (∀ i, i < 8 → va_O "java/lang/String" (jad X (3 + i)) (jA X) U U.heap ∧ va_OF "java/lang/String" "coder" "B" (.int 0) (jad X (3 + i)) (jA X) U U.heap ∧ va_OF "java/lang/String" "value" "[B" (.ref (jad X (11 + i))) (jad X (3 + i)) (jA X) U U.heap ∧ va_T .byte (jad X (11 + i)) (X.2.2.2.2.2.1 (11 + i)) (fun j => .int (X.2.2.2.2.2.2 (11 + i) j)) (jA X) U U.heap) ∧
    (∀ q ∈ jStrs, vk_R RX3 q.1 q.2.1 (jad X q.2.2) U) ∧ va_Z "java/lang/String" "COMPACT_STRINGS" "Z" (.int 1) (jA X) U U.heap ∧
    (va_Z "jdk/internal/util/Preconditions" "SIOOBE_FORMATTER" "Ljava/util/function/BiFunction;" .null (jA X) U U.heap ∨ va_Z "jdk/internal/util/Preconditions" "SIOOBE_FORMATTER" "Ljava/util/function/BiFunction;" (.ref (jad X 31)) (jA X) U U.heap))
def jG (X : jX) (m : jMe) (s : State) (H : Heap) (locs : List Loc) : Prop := jWf X m ∧ va_P X.1 jcl (jws X m) H ∧ va_S (jA X) s.heap H locs
def jC (X : jX) (d : Nat) (M : jM) (m0 m' : jMe) (p : Program) (R : Room) (s : State) (mth : MethodId) (args : Array Value) (meth : Method) (c : Code) : Prop :=
  p.tables.exec = Jvm.exec ∧ c.code = M.2.2.1 ∧ c.maxLocals = M.2.2.2.1 ∧ s.vm.findClass M.1 = some mth.cls ∧ (∀ w ∈ jW, w.before args s = true) ∧ meth.sig.returnType = M.2.2.2.2 ∧ meth.locks = false ∧ (M.2.1.name = "<init>" → meth.name = M.2.1.name) ∧ va_K X.1 jcl (jtys X) s ∧ jFS X s ∧ s.heap.size = jad X 32 + jN m0 ∧ (d ≤ R.frames ∧ 40 * d ≤ R.locals ∧ jN m' - jN m0 ≤ R.cells ∧ jT m' - jT m0 ≤ R.slots)
def jQ (X : jX) (r : Option jAV) (m' : jMe) : Array Value → State → Outcome → State → Prop := fun _ st oc t => oc = .returned (r.map (jv X)) ∧ jWf X m' ∧ va_P X.1 jcl (jws X m') t.heap ∧ va_F (jA X) st t
def jU (X : jX) (m : jMe) (U : State) : Prop := jWf X m ∧ va_P X.1 jcl (jws X m) U.heap ∧ va_K X.1 jcl (jtys X) U ∧ jFS X U ∧ U.heap.size = jad X 32 + jN m
/-- from c on the method comes to its end with r, and the memory m' -/
def jS (X : jX) (l : Launch) (d : Nat) (M : jM) (m0 : jMe) (r : Option jAV) (m' : jMe) (c : jCf) : Prop :=
  (jN c.2.2.2 ≤ jN m' ∧ jT c.2.2.2 ≤ jT m') ∧ ∀ (p : Program) (e : Env) (R : Room) (s : State) (mth : MethodId) (args : Array Value) (below : List Frame) (meth : Method) (c0 : Code) (H : Heap) (locs : List Loc) (la : Array Slot),
    jC X d M m0 m' p R s mth args meth c0 → jN m0 ≤ jN c.2.2.2 → jT m0 ≤ jT c.2.2.2 → lv_has la M.2.2.2.1 (jlv X c.2.1) → jG X c.2.2.2 s H locs →
    W p l e R s mth args below meth c0 H locs (jN c.2.2.2 - jN m0) (jT c.2.2.2 - jT m0) (MQ below (jQ X r m') args s (jN m' - jN m0) (jT m' - jT m0) (jA X)) (F0 mth c.1 la (c.2.2.1.map (jv X)))
/-- a step, or some -/
def jSt (X : jX) (l : Launch) (d : Nat) (M : jM) (m0 m' : jMe) (c c' : jCf) : Prop :=
  (jN c.2.2.2 ≤ jN c'.2.2.2 ∧ jT c.2.2.2 ≤ jT c'.2.2.2) ∧ (jN c'.2.2.2 ≤ jN m' → jT c'.2.2.2 ≤ jT m' → ∀ (p : Program) (e : Env) (R : Room) (s : State) (mth : MethodId) (args : Array Value) (below : List Frame) (meth : Method) (c0 : Code) (H : Heap) (locs : List Loc) (la : Array Slot) (Q : State → Prop),
    jC X d M m0 m' p R s mth args meth c0 → jN m0 ≤ jN c.2.2.2 → jT m0 ≤ jT c.2.2.2 → lv_has la M.2.2.2.1 (jlv X c.2.1) → jG X c.2.2.2 s H locs →
    (∀ (la' : Array Slot) (H' : Heap) (locs' : List Loc), lv_has la' M.2.2.2.1 (jlv X c'.2.1) → jG X c'.2.2.2 s H' locs' → W p l e R s mth args below meth c0 H' locs' (jN c'.2.2.2 - jN m0) (jT c'.2.2.2 - jT m0) Q (F0 mth c'.1 la' (c'.2.2.1.map (jv X)))) →
    W p l e R s mth args below meth c0 H locs (jN c.2.2.2 - jN m0) (jT c.2.2.2 - jT m0) Q (F0 mth c.1 la (c.2.2.1.map (jv X))))
theorem jS.step {X : jX} {l : Launch} {d : Nat} {M : jM} {m0 m' : jMe} {r : Option jAV} {c c' : jCf} (h : jSt X l d M m0 m' c c') (k : jS X l d M m0 r m' c') : jS X l d M m0 r m' c := by
  obtain ⟨⟨n1, n2⟩, h⟩ := h
  obtain ⟨⟨k1, k2⟩, k⟩ := k
  refine ⟨⟨Nat.le_trans n1 k1, Nat.le_trans n2 k2⟩, fun p e R s mth args below meth c0 H locs la hC z1 z2 hl hG => ?_⟩
  exact h k1 k2 p e R s mth args below meth c0 H locs la _ hC z1 z2 hl hG fun la' H' locs' hl' hG' => k p e R s mth args below meth c0 H' locs' la' hC (Nat.le_trans z1 n1) (Nat.le_trans z2 n2) hl' hG'
theorem jSt.refl {X : jX} {l : Launch} {d : Nat} {M : jM} {m0 m' : jMe} (c : jCf) : jSt X l d M m0 m' c c :=
  ⟨⟨Nat.le_refl _, Nat.le_refl _⟩, fun _ _ p e R s mth args below meth c0 H locs la Q hC z1 z2 hl hG kk => kk la H locs hl hG⟩
theorem jSt.trans {X : jX} {l : Launch} {d : Nat} {M : jM} {m0 m' : jMe} {c c1 c2 : jCf} (h : jSt X l d M m0 m' c c1) (h2 : jSt X l d M m0 m' c1 c2) : jSt X l d M m0 m' c c2 := by
  obtain ⟨⟨n1, n2⟩, h⟩ := h
  obtain ⟨⟨k1, k2⟩, h2⟩ := h2
  refine ⟨⟨Nat.le_trans n1 k1, Nat.le_trans n2 k2⟩, fun q1 q2 p e R s mth args below meth c0 H locs la Q hC z1 z2 hl hG kk => ?_⟩
  refine h (Nat.le_trans k1 q1) (Nat.le_trans k2 q2) p e R s mth args below meth c0 H locs la Q hC z1 z2 hl hG fun la' H' locs' hl' hG' => ?_
  exact h2 q1 q2 p e R s mth args below meth c0 H' locs' la' Q hC (Nat.le_trans z1 n1) (Nat.le_trans z2 n2) hl' hG' kk
/-- the heap is as great as the memory says -/
theorem jsize {X : jX} {m m0 : jMe} {s : State} {H : Heap} {locs : List Loc} (hX : ∀ j, jad X (32 + j) = jad X 32 + j) (hG : jG X m s H locs) (h0 : s.heap.size = jad X 32 + jN m0) (z1 : jN m0 ≤ jN m) (hle : H.size ≤ s.heap.size + (jN m - jN m0)) : H.size = jad X 32 + jN m := by
  obtain ⟨-, hP, hS⟩ := hG
  have h1 : jad X 32 + jN m ≤ H.size := by
    by_cases hz : jN m = 0
    · have := hS.1
      omega
    · have hl := (hP (jN m - 1) _ (jws_at (by omega))).lt
      have hl : jad X (32 + (jN m - 1)) < H.size := hl
      rw [hX] at hl
      omega
  omega
/-- a method's contract: called with avs over the memory m, with d frames below it, it comes back with r, and the memory m' -/
def jH (X : jX) (l : Launch) (d : Nat) (M : jM) (avs : List jAV) (m : jMe) (r : Option jAV) (m' : jMe) : Prop :=
  (jN m ≤ jN m' ∧ jT m ≤ jT m') ∧ Met l M.2.1 (Cond.code M.2.1 M.2.2.1 M.2.2.2.1 M.2.2.2.2 :: jW) (jR d (jN m' - jN m) (jT m' - jT m)) (va_Pc (avs.map (jv X)) (jU X m)) (jQ X r m') (jN m' - jN m) (jT m' - jT m) (jA X)
def jargs : Nat → List jAV → List (Nat × jAV)
  | _, [] => []
  | i, a :: as => (i, a) :: jargs (if jcat a = 2 then i + 2 else i + 1) as
theorem jargs_eq (X : jX) : ∀ (as : List jAV) (i : Nat), lv_args i (as.map (jv X)) = jlv X (jargs i as) := by
  intro as
  induction as with
  | nil => intro i; rfl
  | cons a as ih =>
    intro i
    show (i, jv X a) :: lv_args (if (jv X a).category = 2 then i + 2 else i + 1) (as.map (jv X)) = (i, jv X a) :: jlv X (jargs (if jcat a = 2 then i + 2 else i + 1) as)
    rw [jv_cat, ih]
def jlen : List jAV → Nat
  | [] => 0
  | a :: as => jcat a + jlen as
theorem jlen_eq (X : jX) (as : List jAV) : (lg_sl (as.map (jv X))).length = jlen as := by
  induction as with
  | nil => rfl
  | cons a as ih =>
    have h := jv_cat X a
    have e : lg_sl ((a :: as).map (jv X)) = (if (jv X a).category = 2 then [Slot.val (jv X a), .second] else [.val (jv X a)]) ++ lg_sl (as.map (jv X)) := rfl
    rw [e, List.length_append, ih]
    rcases a with i | l | n
    · rfl
    · rfl
    · rw [h]
      rfl
theorem jH.of {X : jX} {l : Launch} {d : Nat} {M : jM} {avs : List jAV} {m : jMe} {r : Option jAV} {m' : jMe} (hy : plainName M.2.1.cls = true) (hc : M.1 = M.2.1.cls) (hn : jlen avs ≤ M.2.2.2.1) (h : jS X l d M m r m' (0, jargs 0 avs, [], m)) : jH X l d M avs m r m' := by
  obtain ⟨h1, h⟩ := h
  refine ⟨h1, Met.ofW (cc := M.2.2.1) (maxL := M.2.2.2.1) (ret := M.2.2.2.2) hy rfl ?_⟩
  intro p e s mth args below meth c s₁ B hml hv
  obtain ⟨rfl, hWf, hP, hK, hF, hz⟩ := hv
  have hx := B.exec
  have hb := B.bytes
  have hr := B.returns
  have hts := atoms_spec (ws := Cond.code M.2.1 M.2.2.1 M.2.2.2.1 M.2.2.2.2 :: jW) B.pre
  have hown : s.vm.findClass M.1 = some mth.cls := by rw [hc]; exact findClass_of_methodNamed B.named
  have hlocks := B.notSynchronized
  have hin : meth.name = M.2.1.name := (name_of_methodNamed B.named B.method).1
  have hl := lv_entry (avs.map (jv X)) (n := M.2.2.2.1) (by rw [jlen_eq]; exact hn)
  rw [lg_entry_eq]
  generalize (lg_sl (avs.map (jv X)) ++ List.replicate (M.2.2.2.1 - (lg_sl (avs.map (jv X))).length) Slot.unset).toArray = la at hl ⊢
  rw [jargs_eq] at hl
  have k := h p e (jR d (jN m' - jN m) (jT m' - jT m)) s mth _ below meth c s.heap [] la ⟨hx, hb, hml, hown, fun w hw => hts w (List.mem_cons_of_mem _ hw), hr, hlocks, fun _ => hin, hK, hF, hz, Nat.le_refl _, Nat.le_refl _, Nat.le_refl _, Nat.le_refl _⟩ (Nat.le_refl _) (Nat.le_refl _) hl ⟨hWf, hP, va_S.rf⟩
  dsimp only at k
  rw [Nat.sub_self, Nat.sub_self] at k
  exact k
theorem jU_blind {X : jX} {m : jMe} {avs : List jAV} (hX : jOk X) : FrameBlind (va_Pc (avs.map (jv X)) (jU X m)) := by
  intro a U g mk q
  obtain ⟨h1, h2, h3, h4, h5, h6⟩ := q
  exact ⟨h1, h2, h3, va_K.moved (u := U) (U := U.calling g mk a) (Vm.Alike.refl U.vm) h4, hX.2.2.1 U _ h5 (State.WarmedH.refl U) (fun q _ => rfl), h6⟩
/-- behind a call -/
theorem jcall {X : jX} {l : Launch} {m0 m m2 : jMe} {r : Option jAV} {p : Program} {e : Env} {R : Room} {s : State} {mth : MethodId} {args : Array Value} {below : List Frame} {meth : Method} {c0 : Code} {H : Heap} {locs : List Loc} {la : Array Slot} {Q : State → Prop} {pc : Nat} {st0 rest : List Value} {a : Array Value}
    (z1 : jN m0 ≤ jN m) (z2 : jT m0 ≤ jT m) (n1 : jN m ≤ jN m2) (n2 : jT m ≤ jT m2) (hS : va_S (jA X) s.heap H locs)
    (hr : va_Run p l e R s mth args below meth c0 H locs (jN m - jN m0) (jT m - jT m0) (jN m2 - jN m) (jT m2 - jT m) (F0 mth pc la st0) rest (jQ X r m2 a) (jA X))
    (kk : ∀ (H' : Heap) (locs' : List Loc), jG X m2 s H' locs' → W p l e R s mth args below meth c0 H' locs' (jN m2 - jN m0) (jT m2 - jT m0) Q (F0 mth (pc + 3) la ((r.map (jv X)).toList ++ rest))) :
    W p l e R s mth args below meth c0 H locs (jN m - jN m0) (jT m - jT m0) Q (F0 mth pc la st0) := by
  intro T hT Z
  obtain ⟨v, st₀, t, T', L, h0, Z', hL, e1, e2, ⟨hv, hWf, hP, hz, hk⟩, st⟩ := hr T hT Z
  cases hv
  rw [h0] at hz hk
  rw [show jN m - jN m0 + (jN m2 - jN m) = jN m2 - jN m0 by omega, show jT m - jT m0 + (jT m2 - jT m) = jT m2 - jT m0 by omega] at Z'
  have hS' : va_S (jA X) s.heap T'.heap (locs ++ L) := ⟨Nat.le_trans hS.1 (by rw [e1]; exact hz), fun q h1 h2 => by rw [e1, hk q (Nat.lt_of_lt_of_le h1 hS.1) h2]; exact hS.2.1 q h1 h2, fun q hq => by
    rcases List.mem_append.mp hq with h | h
    · exact hS.2.2 q h
    · exact hL q h⟩
  obtain ⟨t2, a1, b1⟩ := kk T'.heap (locs ++ L) ⟨hWf, by rw [e1]; exact hP, hS'⟩ T' rfl Z'
  exact ⟨t2, st t2 a1, b1⟩
/-- what a callee finds -/
theorem jU_at {X : jX} {m : jMe} {s U : State} {H : Heap} {locs : List Loc} (hX : jOk X) (hK : va_K X.1 jcl (jtys X) s) (hF : jFS X s) (hG : jG X m s H locs) (hz : H.size = jad X 32 + jN m) (h0 : jad X 32 ≤ s.heap.size) (hU : U.heap = H) (hW : s.WarmedH U.vm) : jU X m U := by
  obtain ⟨hWf, hP, hS⟩ := hG
  refine ⟨hWf, by rw [hU]; exact hP, va_K.moved hW.alike hK, hX.2.2.1 s U hF hW (fun q hq => ?_), by rw [hU]; exact hz⟩
  rw [hU]
  exact hS.2.1 q (Nat.lt_of_lt_of_le hq h0) (Nat.not_le.mpr hq)
/-- what is told of a method by the tables -/
def jMw (M : jM) : Prop := plainName M.2.1.cls = true ∧ M.1 = M.2.1.cls ∧ Cond.code M.2.1 M.2.2.1 M.2.2.2.1 M.2.2.2.2 ∈ jW ∧ Cond.initialized M.2.1.cls ∈ jW ∧ (M.2.1.cls ≠ "java/lang/invoke/MethodHandle" ∧ M.2.1.cls ≠ "java/lang/invoke/VarHandle") ∧ M.2.2.2.1 ≤ 21
def jMn (M : jM) (n : Nat) : Prop := (parseMethodDescriptor M.2.1.desc).map (fun d => d.parameters.length) = some n
/-- how it is called: 0 virtual, 1 static, 2 special -/
def jMv (M : jM) (k : Nat) : Prop := match k with
  | 0 => Cond.instanceMethod M.2.1 ∈ jW ∧ Cond.selects M.2.1.cls M.2.1 M.2.1 ∈ jW
  | 1 => Cond.static M.2.1 ∈ jW
  | _ => Cond.instanceMethod M.2.1 ∈ jW ∧ M.2.1.name = "<init>" ∧ M.2.2.2.2 = none
theorem jgood_code {M : jM} (h : Cond.code M.2.1 M.2.2.1 M.2.2.2.1 M.2.2.2.2 ∈ jW) : GoodIn jW (Cond.code M.2.1 M.2.2.1 M.2.2.2.1 M.2.2.2.2 :: jW) := by
  intro w hw
  rcases List.mem_cons.mp hw with rfl | hw
  · exact jW_good _ h
  · exact jW_good _ hw
section JCALL
variable {X : jX} {l : Launch} {d d2 : Nat} {M M2 : jM} {m0 m m' m2 : jMe} {r : Option jAV} {pc idx n : Nat} {ls : List (Nat × jAV)} {As rest : List jAV}
theorem jcat_sum (X : jX) (rest : List jAV) : (((rest.map (jv X)).map fun v => v.category)).sum = (rest.map jcat).sum := by
  rw [List.map_map]
  congr 1
  apply List.map_congr_left
  intro a _
  exact jv_cat X a
theorem jSt.callS (hX : jOk X) (hH : jH X l d2 M2 As m r m2) (hd : d2 < d) (hw : jMw M2) (hv : jMv M2 1) (hn : jMn M2 As.length) (hlink : Cond.methodLink M.1 idx M2.2.1 ∈ jW) (hr : (rest.map jcat).sum ≤ 8) (hdg : decode M.2.2.1 pc = .ok (.invokestatic idx, 3)) :
    jSt X l d M m0 m' (pc, ls, As.reverse ++ rest, m) (pc + 3, ls, r.toList ++ rest, m2) := by
  obtain ⟨⟨n1, n2⟩, hM⟩ := hH
  obtain ⟨w1, w2, w3, w4, w5, w6⟩ := hw
  refine ⟨⟨n1, n2⟩, fun q1 q2 p e R s mth args below meth c0 H locs la Q hC z1 z2 hl hG kk => ?_⟩
  obtain ⟨hx, hb, hml, hown, hts, hret, hlk, hnm, hK, hF, h0, hR1, hR2, hR3, hR4⟩ := hC
  intro T hT Z
  have hz := jsize hX.1 hG h0 z1 (by rw [← hT]; exact Z.heapSize)
  dsimp only at q1 q2 z1 z2 n1 n2
  refine jcall z1 z2 n1 n2 hG.2.2 (va_runS (As := As.map (jv X)) (rest := rest.map (jv X)) ⟨hx, hb, hml, hown, hts⟩ hM (va_cwS (ws' := jW) As.length hts ?_ rfl rfl rfl ⟨w5.1, w5.2, hn⟩ ⟨by show d2 + 1 ≤ R.frames; omega, by show 8 + (M2.2.2.2.1 + 11) + 40 * d2 ≤ R.locals; omega⟩) ⟨jU_blind hX, fun U hU hW => ⟨rfl, jU_at hX hK hF hG hz (by omega) hU hW⟩⟩ rfl (by simp) hl.1 (by simp) (lv_room (by rw [jcat_sum]; exact hr)) hdg ⟨by omega, by omega⟩) (fun H' locs' hG' => ?_) T hT Z
  · intro w hw
    rcases List.mem_append.mp hw with hw | hw
    · refine jW_good _ ?_
      rcases List.mem_cons.mp hw with rfl | hw
      · exact hlink
      rcases List.mem_cons.mp hw with rfl | hw
      · exact hv
      rcases List.mem_cons.mp hw with rfl | hw
      · exact w4
      · cases hw
    · exact jgood_code w3 w hw
  · have k := kk la H' locs' hl hG'
    dsimp only at k
    rw [List.map_append, show (r.toList.map (jv X)) = (r.map (jv X)).toList by cases r <;> rfl] at k
    exact k
theorem jSt.callSN (hX : jOk X) (hH : jH X l d2 M2 As m r m2) (hd : d2 < d) (hw : jMw M2) (hv : jMv M2 1) (hn : jMn M2 As.length) {host : String} (hlink : Cond.methodLinkNest M.1 idx M2.2.1 host ∈ jOdd) (hr : (rest.map jcat).sum ≤ 8) (hdg : decode M.2.2.1 pc = .ok (.invokestatic idx, 3)) :
    jSt X l d M m0 m' (pc, ls, As.reverse ++ rest, m) (pc + 3, ls, r.toList ++ rest, m2) := by
  obtain ⟨⟨n1, n2⟩, hM⟩ := hH
  obtain ⟨w1, w2, w3, w4, w5, w6⟩ := hw
  refine ⟨⟨n1, n2⟩, fun q1 q2 p e R s mth args below meth c0 H locs la Q hC z1 z2 hl hG kk => ?_⟩
  obtain ⟨hx, hb, hml, hown, hts, hret, hlk, hnm, hK, hF, h0, hR1, hR2, hR3, hR4⟩ := hC
  intro T hT Z
  have hz := jsize hX.1 hG h0 z1 (by rw [← hT]; exact Z.heapSize)
  dsimp only at q1 q2 z1 z2 n1 n2
  refine jcall z1 z2 n1 n2 hG.2.2 (va_runSN (As := As.map (jv X)) (rest := rest.map (jv X)) (host := host) ⟨hx, hb, hml, hown, hts⟩ hM ⟨va_cnB (ws' := jW) As.length hts (jgood_code w3) rfl rfl rfl ((hX.2.2.2.1 s hF).1 _ hlink) (hts _ w4) ⟨w5.1, w5.2, hn⟩ ⟨by show d2 + 1 ≤ R.frames; omega, by show 8 + (M2.2.2.2.1 + 11) + 40 * d2 ≤ R.locals; omega⟩, hts _ hv, trivial⟩ ⟨jU_blind hX, fun U hU hW => ⟨rfl, jU_at hX hK hF hG hz (by omega) hU hW⟩⟩ rfl (by simp) hl.1 (by simp) (lv_room (by rw [jcat_sum]; exact hr)) hdg ⟨by omega, by omega⟩) (fun H' locs' hG' => ?_) T hT Z
  have k := kk la H' locs' hl hG'
  dsimp only at k
  rw [List.map_append, show (r.toList.map (jv X)) = (r.map (jv X)).toList by cases r <;> rfl] at k
  exact k
theorem jkind {X : jX} {m : jMe} {a k : Nat} (hX : jOk X) (hWf : jWf X m) (hk : jK m a = k) (h : 0 < k ∧ k < 8 ∨ 32 ≤ k) : 32 ≤ a ∧ a - 32 < jN m ∧ a ≠ 0 ∧ 32 + (a - 32) = a := by
  have h1 : 32 ≤ a := by
    rcases Nat.lt_or_ge a 32 with q | q
    · have e1 := (hWf.1 a q).1
      have e2 := hX.2.1 a q
      omega
    · exact q
  have h2 : a < 32 + jN m := by
    rcases Nat.lt_or_ge a (32 + jN m) with q | q
    · exact q
    · have e1 := hWf.2.1 a q
      omega
  omega
theorem jref {X : jX} {a : Nat} (h : a ≠ 0) : jv X (.inr (.inr a)) = .ref (jad X a) := by
  show (if a = 0 then Value.null else .ref (jad X a)) = _
  rw [if_neg h]
theorem jws_ref {X : jX} {m : jMe} {a k : Nat} (hX : jOk X) (hWf : jWf X m) (hk : jK m a = k) (h : 0 < k ∧ k < 8 ∨ 32 ≤ k) : (jws X m)[a - 32]? = some (jad X a, jcell X m a) := by
  obtain ⟨h1, h2, h3, h4⟩ := jkind hX hWf hk h
  have e := jws_at (X := X) h2
  rw [h4] at e
  exact e
theorem jSt.callV (hX : jOk X) {b c : Nat} (hH : jH X l d2 M2 (.inr (.inr b) :: As) m r m2) (hk : jK m b = 32 + c) (hc : c < 11) (hcls : jRR c = M2.2.1.cls) (hd : d2 < d) (hw : jMw M2) (hv : jMv M2 0) (hn : jMn M2 As.length) (hlink : Cond.methodLink M.1 idx M2.2.1 ∈ jW) (hr : (rest.map jcat).sum ≤ 8) (hdg : decode M.2.2.1 pc = .ok (.invokevirtual idx, 3)) :
    jSt X l d M m0 m' (pc, ls, As.reverse ++ .inr (.inr b) :: rest, m) (pc + 3, ls, r.toList ++ rest, m2) := by
  obtain ⟨⟨n1, n2⟩, hM⟩ := hH
  obtain ⟨w1, w2, w3, w4, w5, w6⟩ := hw
  refine ⟨⟨n1, n2⟩, fun q1 q2 p e R s mth args below meth c0 H locs la Q hC z1 z2 hl hG kk => ?_⟩
  obtain ⟨hx, hb, hml, hown, hts, hret, hlk, hnm, hK, hF, h0, hR1, hR2, hR3, hR4⟩ := hC
  intro T hT Z
  have hz := jsize hX.1 hG h0 z1 (by rw [← hT]; exact Z.heapSize)
  dsimp only at q1 q2 z1 z2 n1 n2
  obtain ⟨b1, b2, b3, b4⟩ := jkind hX hG.1 hk (by omega)
  have hwb := jws_ref hX hG.1 hk (by omega)
  rw [jcell_o hk] at hwb
  have hrc := va_recv hK hG.2.1 (jcl_at hc) hwb
  refine jcall z1 z2 n1 n2 hG.2.2 (a := (Value.ref (jad X b) :: As.map (jv X)).toArray) (va_runV (As := As.map (jv X)) (rest := rest.map (jv X)) (b := jad X b) (C := M2.2.1.cls) ⟨hx, hb, hml, hown, hts⟩ hM (cwV (ws' := jW) As.length hts ?_ rfl rfl rfl ⟨rfl, w5.1, w5.2, hn⟩ ⟨by show d2 + 1 ≤ R.frames; omega, by show 8 + (M2.2.2.2.1 + 11) + 40 * d2 ≤ R.locals; omega⟩) ⟨jU_blind hX, by rw [← hcls]; exact hrc, fun U hU hW => ⟨by rw [List.map_cons, jref b3], jU_at hX hK hF hG hz (by omega) hU hW⟩⟩ rfl (by simp) hl.1 (by simp [jref b3]) (lv_room (by rw [jcat_sum]; exact hr)) hdg ⟨by omega, by omega⟩) (fun H' locs' hG' => ?_) T hT Z
  · intro w hw
    rcases List.mem_append.mp hw with hw | hw
    · refine jW_good _ ?_
      rcases List.mem_cons.mp hw with rfl | hw
      · exact hlink
      rcases List.mem_cons.mp hw with rfl | hw
      · exact hv.1
      rcases List.mem_cons.mp hw with rfl | hw
      · exact hv.2
      rcases List.mem_cons.mp hw with rfl | hw
      · exact w4
      · cases hw
    · exact jgood_code w3 w hw
  · have k := kk la H' locs' hl hG'
    dsimp only at k
    rw [List.map_append, show (r.toList.map (jv X)) = (r.map (jv X)).toList by cases r <;> rfl] at k
    exact k
theorem jSt.callI (hX : jOk X) {b : Nat} (hH : jH X l d2 M2 (.inr (.inr b) :: As) m none m2) (hb0 : b ≠ 0) (hd : d2 < d) (hw : jMw M2) (hv : jMv M2 2) (hn : jMn M2 As.length) (hlink : Cond.methodLink M.1 idx M2.2.1 ∈ jW) (hr : (rest.map jcat).sum ≤ 8) (hdg : decode M.2.2.1 pc = .ok (.invokespecial idx, 3)) :
    jSt X l d M m0 m' (pc, ls, As.reverse ++ .inr (.inr b) :: rest, m) (pc + 3, ls, rest, m2) := by
  obtain ⟨⟨n1, n2⟩, hM⟩ := hH
  obtain ⟨w1, w2, w3, w4, w5, w6⟩ := hw
  obtain ⟨v1, v2, v3⟩ := hv
  refine ⟨⟨n1, n2⟩, fun q1 q2 p e R s mth args below meth c0 H locs la Q hC z1 z2 hl hG kk => ?_⟩
  obtain ⟨hx, hb, hml, hown, hts, hret, hlk, hnm, hK, hF, h0, hR1, hR2, hR3, hR4⟩ := hC
  intro T hT Z
  have hz := jsize hX.1 hG h0 z1 (by rw [← hT]; exact Z.heapSize)
  dsimp only at q1 q2 z1 z2 n1 n2
  rw [v3] at w3 hM
  have hg := jgood_code (M := (M2.1, M2.2.1, M2.2.2.1, M2.2.2.2.1, none)) w3
  refine jcall (r := none) z1 z2 n1 n2 hG.2.2 (a := (Value.ref (jad X b) :: As.map (jv X)).toArray) (va_runI (As := As.map (jv X)) (rest := rest.map (jv X)) (b := jad X b) ⟨hx, hb, hml, hown, hts⟩ hM (cwI (ws' := jW) As.length hts hg rfl rfl rfl (hts _ w4) (hts _ hlink) (hts _ v1) v2 ⟨w5.1, w5.2, hn⟩ ⟨by show d2 + 1 ≤ R.frames; omega, by show 8 + (M2.2.2.2.1 + 11) + 40 * d2 ≤ R.locals; omega⟩) ⟨jU_blind hX, fun U hU hW => ⟨by rw [List.map_cons, jref hb0], jU_at hX hK hF hG hz (by omega) hU hW⟩⟩ rfl (by simp) hl.1 (by simp [jref hb0]) (lv_room (by rw [jcat_sum]; exact hr)) hdg ⟨by omega, by omega⟩) (fun H' locs' hG' => ?_) T hT Z
  exact kk la H' locs' hl hG'
theorem jSt.callIN (hX : jOk X) {b : Nat} (hH : jH X l d2 M2 (.inr (.inr b) :: As) m none m2) (hb0 : b ≠ 0) (hd : d2 < d) (hw : jMw M2) (hv : jMv M2 2) (hn : jMn M2 As.length) {host : String} (hlink : Cond.methodLinkNest M.1 idx M2.2.1 host ∈ jOdd) (hr : (rest.map jcat).sum ≤ 8) (hdg : decode M.2.2.1 pc = .ok (.invokespecial idx, 3)) :
    jSt X l d M m0 m' (pc, ls, As.reverse ++ .inr (.inr b) :: rest, m) (pc + 3, ls, rest, m2) := by
  obtain ⟨⟨n1, n2⟩, hM⟩ := hH
  obtain ⟨w1, w2, w3, w4, w5, w6⟩ := hw
  obtain ⟨v1, v2, v3⟩ := hv
  refine ⟨⟨n1, n2⟩, fun q1 q2 p e R s mth args below meth c0 H locs la Q hC z1 z2 hl hG kk => ?_⟩
  obtain ⟨hx, hb, hml, hown, hts, hret, hlk, hnm, hK, hF, h0, hR1, hR2, hR3, hR4⟩ := hC
  intro T hT Z
  have hz := jsize hX.1 hG h0 z1 (by rw [← hT]; exact Z.heapSize)
  dsimp only at q1 q2 z1 z2 n1 n2
  rw [v3] at w3 hM
  have hg := jgood_code (M := (M2.1, M2.2.1, M2.2.2.1, M2.2.2.2.1, none)) w3
  refine jcall (r := none) z1 z2 n1 n2 hG.2.2 (a := (Value.ref (jad X b) :: As.map (jv X)).toArray) (va_runIN (As := As.map (jv X)) (rest := rest.map (jv X)) (b := jad X b) (host := host) ⟨hx, hb, hml, hown, hts⟩ hM ⟨va_cnB (ws' := jW) As.length hts hg rfl rfl rfl ((hX.2.2.2.1 s hF).1 _ hlink) (hts _ w4) ⟨w5.1, w5.2, hn⟩ ⟨by show d2 + 1 ≤ R.frames; omega, by show 8 + (M2.2.2.2.1 + 11) + 40 * d2 ≤ R.locals; omega⟩, v2, hts _ v1⟩ ⟨jU_blind hX, fun U hU hW => ⟨by rw [List.map_cons, jref hb0], jU_at hX hK hF hG hz (by omega) hU hW⟩⟩ rfl (by simp) hl.1 (by simp [jref hb0]) (lv_room (by rw [jcat_sum]; exact hr)) hdg ⟨by omega, by omega⟩) (fun H' locs' hG' => ?_) T hT Z
  exact kk la H' locs' hl hG'
end JCALL
section JRET
variable {X : jX} {l : Launch} {d : Nat} {M : jM} {m0 m' : jMe} {pc : Nat} {ls : List (Nat × jAV)}
theorem jQ_at {X : jX} {r : Option jAV} {m' : jMe} {s t : State} {args : Array Value} {H : Heap} {locs : List Loc} (hG : jG X m' s H locs) (ht : t.heap = H) : jQ X r m' args s (.returned (r.map (jv X))) t :=
  ⟨rfl, hG.1, by rw [ht]; exact hG.2.1, hG.2.2.F ht⟩
theorem jS.vret (hr : M.2.2.2.2 = none) (hdg : decode M.2.2.1 pc = .ok (.return_, 1)) : jS X l d M m0 none m' (pc, ls, [], m') := by
  refine ⟨⟨Nat.le_refl _, Nat.le_refl _⟩, fun p e R s mth args below meth c0 H locs la hC z1 z2 hl hG => ?_⟩
  obtain ⟨hx, hb, hml, hown, hts, hret, hlk, hnm, hK, hF, h0, hR1, hR2, hR3, hR4⟩ := hC
  exact W.vret hx hb (by rw [hret, hr]) (fun t ht hW => jQ_at (r := none) hG ht) hG.2.2.2.2 hdg hlk
theorem jS.iret {v : Int32} (hr : M.2.2.2.2 = some .int) (hdg : decode M.2.2.1 pc = .ok (.ireturn, 1)) : jS X l d M m0 (some (.inl v)) m' (pc, ls, [.inl v], m') := by
  refine ⟨⟨Nat.le_refl _, Nat.le_refl _⟩, fun p e R s mth args below meth c0 H locs la hC z1 z2 hl hG => ?_⟩
  obtain ⟨hx, hb, hml, hown, hts, hret, hlk, hnm, hK, hF, h0, hR1, hR2, hR3, hR4⟩ := hC
  exact W.iret hx hb (by rw [hret, hr]) (fun t ht hW => jQ_at (r := some (.inl v)) hG ht) hG.2.2.2.2 hdg hlk
theorem jS.zret {v : Int32} (hr : M.2.2.2.2 = some .boolean) (hv : v = 0 ∨ v = 1) (hdg : decode M.2.2.1 pc = .ok (.ireturn, 1)) : jS X l d M m0 (some (.inl v)) m' (pc, ls, [.inl v], m') := by
  refine ⟨⟨Nat.le_refl _, Nat.le_refl _⟩, fun p e R s mth args below meth c0 H locs la hC z1 z2 hl hG => ?_⟩
  obtain ⟨hx, hb, hml, hown, hts, hret, hlk, hnm, hK, hF, h0, hR1, hR2, hR3, hR4⟩ := hC
  exact W.zret hx hb (by rw [hret, hr]) (by rcases hv with rfl | rfl <;> rfl) (fun t ht hW => jQ_at (r := some (.inl v)) hG ht) hG.2.2.2.2 hdg hlk
theorem jS.lret {v : Int64} (hr : M.2.2.2.2 = some .long) (hdg : decode M.2.2.1 pc = .ok (.lreturn, 1)) : jS X l d M m0 (some (.inr (.inl v))) m' (pc, ls, [.inr (.inl v)], m') := by
  refine ⟨⟨Nat.le_refl _, Nat.le_refl _⟩, fun p e R s mth args below meth c0 H locs la hC z1 z2 hl hG => ?_⟩
  obtain ⟨hx, hb, hml, hown, hts, hret, hlk, hnm, hK, hF, h0, hR1, hR2, hR3, hR4⟩ := hC
  exact W.lret hx hb (by rw [hret, hr]) (fun t ht hW => jQ_at (r := some (.inr (.inl v))) hG ht) hG.2.2.2.2 hdg hlk
theorem jS.aret {v : Nat} {ty : FieldType} (hr : M.2.2.2.2 = some ty) (hty : (∃ n, ty = .object n) ∨ ∃ t, ty = .array t) (hdg : decode M.2.2.1 pc = .ok (.areturn, 1)) : jS X l d M m0 (some (.inr (.inr v))) m' (pc, ls, [.inr (.inr v)], m') := by
  refine ⟨⟨Nat.le_refl _, Nat.le_refl _⟩, fun p e R s mth args below meth c0 H locs la hC z1 z2 hl hG => ?_⟩
  obtain ⟨hx, hb, hml, hown, hts, hret, hlk, hnm, hK, hF, h0, hR1, hR2, hR3, hR4⟩ := hC
  exact W.aret hx hb (by rw [hret, hr]) hty (by
    by_cases q : v = 0
    · exact Or.inl (by subst q; rfl)
    · exact Or.inr ⟨_, jref q⟩) (fun t ht hW => jQ_at (r := some (.inr (.inr v))) hG ht) hG.2.2.2.2 hdg hlk
/-- fewer locals -/
theorem jS.loc {st : List jAV} {m : jMe} {r : Option jAV} {ls' : List (Nat × jAV)} (h : ∀ q ∈ ls', q ∈ ls) (k : jS X l d M m0 r m' (pc, ls', st, m)) : jS X l d M m0 r m' (pc, ls, st, m) := by
  refine ⟨k.1, fun p e R s mth args below meth c0 H locs la hC z1 z2 hl hG => ?_⟩
  refine k.2 p e R s mth args below meth c0 H locs la hC z1 z2 ⟨hl.1, hl.2.1, fun q hq => hl.2.2 q ?_⟩ hG
  obtain ⟨q0, h1, h2⟩ := List.mem_map.mp hq
  exact List.mem_map.mpr ⟨q0, h q0 h1, h2⟩
/-- a branch: what it asks, on which values -/
def jbr (i : Instr) (st : List jAV) : Option (Prop × List jAV) := match i, st with
  | .ifCond .eq _, .inl x :: r => some (x = 0, r)
  | .ifCond .ne _, .inl x :: r => some (¬ x = 0, r)
  | .ifCond .lt _, .inl x :: r => some (x < 0, r)
  | .ifCond .ge _, .inl x :: r => some (0 ≤ x, r)
  | .ifCond .gt _, .inl x :: r => some (0 < x, r)
  | .ifCond .le _, .inl x :: r => some (x ≤ 0, r)
  | .if_icmp .eq _, .inl y :: .inl x :: r => some (x = y, r)
  | .if_icmp .ne _, .inl y :: .inl x :: r => some (¬ x = y, r)
  | .if_icmp .lt _, .inl y :: .inl x :: r => some (x < y, r)
  | .if_icmp .ge _, .inl y :: .inl x :: r => some (y ≤ x, r)
  | .if_icmp .gt _, .inl y :: .inl x :: r => some (y < x, r)
  | .if_icmp .le _, .inl y :: .inl x :: r => some (x ≤ y, r)
  | _, _ => none
def jboff (i : Instr) : Int := match i with
  | .ifCond _ o => o
  | .if_icmp _ o => o
  | _ => 0
theorem jS.br {i : Instr} {st rest : List jAV} {m : jMe} {r : Option jAV} {P : Prop} {tgt : Nat} (hb : jbr i st = some (P, rest)) (hdg : decode M.2.2.1 pc = .ok (i, 3)) (ht : (pc : Int) + jboff i = (tgt : Int)) (kt : P → jS X l d M m0 r m' (tgt, ls, rest, m)) (kf : ¬ P → jS X l d M m0 r m' (pc + 3, ls, rest, m)) : jS X l d M m0 r m' (pc, ls, st, m) := by
  have hmono : jN m ≤ jN m' ∧ jT m ≤ jT m' := by
    rcases Classical.em P with q | q
    · exact (kt q).1
    · exact (kf q).1
  refine ⟨hmono, fun p e R s mth args below meth c0 H locs la hC z1 z2 hl hG => ?_⟩
  have k1 := fun q => (kt q).2 p e R s mth args below meth c0 H locs la hC z1 z2 hl hG
  have k2 := fun q => (kf q).2 p e R s mth args below meth c0 H locs la hC z1 z2 hl hG
  obtain ⟨hx, hc, -⟩ := hC
  unfold jbr at hb
  split at hb
  all_goals first | (cases hb; done) | skip
  all_goals (injection hb with hb; injection hb with h1 h2; subst h1; subst h2)
  · exact lv_if_eq hx hc hdg ht k1 k2
  · exact lv_if_ne hx hc hdg ht k1 (fun q => k2 (fun z => z q))
  · exact lv_if_lt hx hc hdg ht k1 k2
  · exact lv_if_ge hx hc hdg ht k1 k2
  · exact lv_if_gt hx hc hdg ht k1 k2
  · exact lv_if_le hx hc hdg ht k1 k2
  · exact lv_icmp_eq hx hc hdg ht k1 k2
  · exact lv_icmp_ne hx hc hdg ht k1 (fun q => k2 (fun z => z q))
  · exact lv_icmp_lt hx hc hdg ht k1 k2
  · exact lv_icmp_ge hx hc hdg ht k1 k2
  · exact lv_icmp_gt hx hc hdg ht k1 k2
  · exact lv_icmp_le hx hc hdg ht k1 k2
end JRET
/-! single instructions: what they do, what they ask -/
def jushr (x y : Int32) : Int32 := (x.toUInt32 >>> (y.toUInt32 &&& Int32.toUInt32 31)).toInt32
def jrem (x y : Int32) : Int32 := x - x / y * y
def jlrem (x y : Int64) : Int64 := x - x / y * y
def jshl (x y : Int32) : Int32 := x <<< (y &&& 31)
def jshr (x y : Int32) : Int32 := x >>> (y &&& 31)
def jlushr (x : Int64) (y : Int32) : Int64 := (x.toUInt64 >>> (y.toInt64.toUInt64 &&& Int64.toUInt64 63)).toInt64
def jlshl (x : Int64) (y : Int32) : Int64 := x <<< (y.toInt64 &&& 63)
def ji2b (x : Int32) : Int32 := x.toInt8.toInt32
def ji2c (x : Int32) : Int32 := (x.toUInt32 % 65536).toInt32
/-- an instruction, its length, three numbers, an int, a long: what it names -/
abbrev jOp : Type := Instr × Nat × Nat × Nat × Nat × Int32 × Int64
abbrev jTr : Type := List (Nat × jAV) × List jAV × jMe
def jget (ls : List (Nat × jAV)) (i : Nat) : Option jAV := match ls with
  | [] => none
  | q :: l => if q.1 = i then some q.2 else jget l i
def jput1 (i : Nat) (v : jAV) (ls : List (Nat × jAV)) : List (Nat × jAV) := (i, v) :: ls.filter (fun q => !(q.1 == i) && !(q.1 + 1 == i && jcat q.2 == 2))
def jput2 (i : Nat) (v : jAV) (ls : List (Nat × jAV)) : List (Nat × jAV) := (i, v) :: ls.filter (fun q => !(q.1 == i) && (!(q.1 == i + 1) && !(q.1 + 1 == i && jcat q.2 == 2)))
def jpushf (m : jMe) (a k t : Nat) : jAV := match t with
  | 1 => .inr (.inl (jL m a k))
  | 2 => .inr (.inr (jP m a k))
  | _ => .inl (jI m a k)
abbrev jRs : Type := Option (Option Prop × jTr)
def jxP (v : jAV) (c : jTr) : jRs := some (none, c.1, v :: c.2.1, c.2.2)
def jxLi (k : Nat) (c : jTr) : jRs := match jget c.1 k with
  | some (.inl x) => some (none, c.1, .inl x :: c.2.1, c.2.2)
  | _ => none
def jxLl (k : Nat) (c : jTr) : jRs := match jget c.1 k with
  | some (.inr (.inl x)) => some (none, c.1, .inr (.inl x) :: c.2.1, c.2.2)
  | _ => none
def jxLa (k : Nat) (c : jTr) : jRs := match jget c.1 k with
  | some (.inr (.inr x)) => some (none, c.1, .inr (.inr x) :: c.2.1, c.2.2)
  | _ => none
def jxSi (k : Nat) : jTr → jRs
  | (ls, .inl x :: st, m) => some (none, jput1 k (.inl x) ls, st, m)
  | _ => none
def jxSa (k : Nat) : jTr → jRs
  | (ls, .inr (.inr x) :: st, m) => some (none, jput1 k (.inr (.inr x)) ls, st, m)
  | _ => none
def jxSl (k : Nat) : jTr → jRs
  | (ls, .inr (.inl x) :: st, m) => some (none, jput2 k (.inr (.inl x)) ls, st, m)
  | _ => none
def jxInc (k : Nat) (v : Int32) (c : jTr) : jRs := match jget c.1 k with
  | some (.inl x) => some (none, jput1 k (.inl (x + v)) c.1, c.2.1, c.2.2)
  | _ => none
def jxII (f : Int32 → Int32 → Int32) : jTr → jRs
  | (ls, .inl y :: .inl x :: st, m) => some (none, ls, .inl (f x y) :: st, m)
  | _ => none
def jxIId (f : Int32 → Int32 → Int32) : jTr → jRs
  | (ls, .inl y :: .inl x :: st, m) => some (some (¬ y = 0), ls, .inl (f x y) :: st, m)
  | _ => none
def jxLL (f : Int64 → Int64 → Int64) : jTr → jRs
  | (ls, .inr (.inl y) :: .inr (.inl x) :: st, m) => some (none, ls, .inr (.inl (f x y)) :: st, m)
  | _ => none
def jxLLd (f : Int64 → Int64 → Int64) : jTr → jRs
  | (ls, .inr (.inl y) :: .inr (.inl x) :: st, m) => some (some (¬ y = 0), ls, .inr (.inl (f x y)) :: st, m)
  | _ => none
def jxLI (f : Int64 → Int32 → Int64) : jTr → jRs
  | (ls, .inl y :: .inr (.inl x) :: st, m) => some (none, ls, .inr (.inl (f x y)) :: st, m)
  | _ => none
def jxCmp : jTr → jRs
  | (ls, .inr (.inl y) :: .inr (.inl x) :: st, m) => some (none, ls, .inl (lg_cmp x y) :: st, m)
  | _ => none
def jxUI (f : Int32 → jAV) : jTr → jRs
  | (ls, .inl x :: st, m) => some (none, ls, f x :: st, m)
  | _ => none
def jxUL (f : Int64 → jAV) : jTr → jRs
  | (ls, .inr (.inl x) :: st, m) => some (none, ls, f x :: st, m)
  | _ => none
def jxDup : jTr → jRs
  | (ls, .inl x :: st, m) => some (none, ls, .inl x :: .inl x :: st, m)
  | (ls, .inr (.inr x) :: st, m) => some (none, ls, .inr (.inr x) :: .inr (.inr x) :: st, m)
  | _ => none
def jxPop : jTr → jRs
  | (ls, .inl _ :: st, m) => some (none, ls, st, m)
  | (ls, .inr (.inr _) :: st, m) => some (none, ls, st, m)
  | _ => none
def jxPop2 : jTr → jRs
  | (ls, .inr (.inl _) :: st, m) => some (none, ls, st, m)
  | _ => none
def jxDup2 : jTr → jRs
  | (ls, .inl y :: .inr (.inr x) :: st, m) => some (none, ls, .inl y :: .inr (.inr x) :: .inl y :: .inr (.inr x) :: st, m)
  | _ => none
def jxGet (c k : Nat) : jTr → jRs
  | (ls, .inr (.inr a) :: st, m) => some (some (jK m a = 32 + c), ls, jpushf m a k (jtc (jty c k)) :: st, m)
  | _ => none
def jxPut (c k t : Nat) : jTr → jRs
  | (ls, .inl x :: .inr (.inr a) :: st, m) => if t = 0 then some (some (jK m a = 32 + c), ls, st, jsI m a k x) else if t = 3 then some (some (jK m a = 32 + c ∧ (x = 0 ∨ x = 1)), ls, st, jsI m a k x) else none
  | (ls, .inr (.inl x) :: .inr (.inr a) :: st, m) => if t = 1 then some (some (jK m a = 32 + c), ls, st, jsL m a k x) else none
  | (ls, .inr (.inr x) :: .inr (.inr a) :: st, m) => if t = 2 then some (some (jK m a = 32 + c), ls, st, jsP m a k x) else none
  | _ => none
def jxAld (k : Nat) : jTr → jRs
  | (ls, .inl i :: .inr (.inr a) :: st, m) => some (some (jK m a = k ∧ vp_in i (jZ m a)), ls, .inl (jI m a i.toNatClampNeg) :: st, m)
  | _ => none
def jxLald : jTr → jRs
  | (ls, .inl i :: .inr (.inr a) :: st, m) => some (some (jK m a = 2 ∧ vp_in i (jZ m a)), ls, .inr (.inl (jL m a i.toNatClampNeg)) :: st, m)
  | _ => none
def jxQald (k : Nat) : jTr → jRs
  | (ls, .inl i :: .inr (.inr a) :: st, m) => some (some (jK m a = k ∧ vp_in i (jZ m a)), ls, .inr (.inr (jP m a i.toNatClampNeg)) :: st, m)
  | _ => none
def jxAst (k : Nat) (f : Int32 → Int32) : jTr → jRs
  | (ls, .inl x :: .inl i :: .inr (.inr a) :: st, m) => some (some (jK m a = k ∧ vp_in i (jZ m a)), ls, st, jsI m a i.toNatClampNeg (f x))
  | _ => none
def jxLast : jTr → jRs
  | (ls, .inr (.inl x) :: .inl i :: .inr (.inr a) :: st, m) => some (some (jK m a = 2 ∧ vp_in i (jZ m a)), ls, st, jsL m a i.toNatClampNeg x)
  | _ => none
def jxQast (k c : Nat) : jTr → jRs
  | (ls, .inr (.inr x) :: .inl i :: .inr (.inr a) :: st, m) => some (some (jK m a = k ∧ vp_in i (jZ m a) ∧ jK m x = 32 + c), ls, st, jsP m a i.toNatClampNeg x)
  | _ => none
def jxLen (k : Nat) : jTr → jRs
  | (ls, .inr (.inr a) :: st, m) => some (some (jK m a = k), ls, .inl (Int32.ofNat (jZ m a)) :: st, m)
  | _ => none
def jxNew (c : Nat) (q : jTr) : jRs := some (none, q.1, .inr (.inr (32 + jN q.2.2)) :: q.2.1, jnew q.2.2 (32 + c) 0 (jnf c))
def jxNewa (k : Nat) : jTr → jRs
  | (ls, .inl n :: st, m) => some (some (¬ n < 0 ∧ n.toNatClampNeg ≤ 10000), ls, .inr (.inr (32 + jN m)) :: st, jnew m k n.toNatClampNeg n.toNatClampNeg)
  | _ => none
def jx1 (o : jOp) : jTr → jRs := match o.1 with
  | .iconst _ | .bipush _ | .sipush _ | .ldc_w _ | .ldc _ => jxP (.inl o.2.2.2.2.2.1)
  | .lconst _ | .ldc2_w _ => jxP (.inr (.inl o.2.2.2.2.2.2))
  | .iload_n k => jxLi k.val
  | .iload k => jxLi k
  | .lload_n k => jxLl k.val
  | .lload k => jxLl k
  | .aload_n k => jxLa k.val
  | .aload k => jxLa k
  | .istore_n k => jxSi k.val
  | .istore k => jxSi k
  | .astore_n k => jxSa k.val
  | .astore k => jxSa k
  | .lstore_n k => jxSl k.val
  | .lstore k => jxSl k
  | .iinc k _ => jxInc k o.2.2.2.2.2.1
  | .iadd => jxII fun x y => x + y
  | .isub => jxII fun x y => x - y
  | .imul => jxII fun x y => x * y
  | .iand => jxII fun x y => x &&& y
  | .ior => jxII fun x y => x ||| y
  | .ixor => jxII fun x y => x ^^^ y
  | .ishl => jxII jshl
  | .ishr => jxII jshr
  | .iushr => jxII jushr
  | .idiv => jxIId fun x y => x / y
  | .irem => jxIId jrem
  | .ineg => jxUI fun x => .inl (-x)
  | .i2l => jxUI fun x => .inr (.inl x.toInt64)
  | .l2i => jxUL fun x => .inl x.toInt32
  | .i2b => jxUI fun x => .inl (ji2b x)
  | .i2c => jxUI fun x => .inl (ji2c x)
  | .ladd => jxLL fun x y => x + y
  | .lsub => jxLL fun x y => x - y
  | .lmul => jxLL fun x y => x * y
  | .land => jxLL fun x y => x &&& y
  | .lor => jxLL fun x y => x ||| y
  | .lushr => jxLI jlushr
  | .lshl => jxLI jlshl
  | .ldiv => jxLLd fun x y => x / y
  | .lrem => jxLLd jlrem
  | .lcmp => jxCmp
  | .dup => jxDup
  | .pop => jxPop
  | .pop2 => jxPop2
  | .dup2 => jxDup2
  | .goto _ => fun c => some (none, c)
  | .aconst_null => jxP (.inr (.inr 0))
  | .getstatic _ => jxP (.inr (.inr 1))
  | .getfield _ => jxGet o.2.2.1 o.2.2.2.1
  | .putfield _ => jxPut o.2.2.1 o.2.2.2.1 (jtc (jty o.2.2.1 o.2.2.2.1))
  | .iaload => jxAld o.2.2.1
  | .caload => jxAld 3
  | .baload => jxAld 4
  | .laload => jxLald
  | .aaload => jxQald o.2.2.1
  | .iastore => jxAst 1 fun x => x
  | .castore => jxAst 3 (vp_nar .char)
  | .bastore => jxAst 4 (vp_nar .boolean)
  | .lastore => jxLast
  | .aastore => jxQast o.2.2.1 o.2.2.2.1
  | .arraylength => jxLen o.2.2.1
  | .new _ => jxNew o.2.2.1
  | .newarray _ => jxNewa o.2.2.1
  | .anewarray _ => jxNewa o.2.2.1
  | _ => fun _ => none
/-- several, one behind another: all that is asked, what there is then -/
def jand : Option Prop → Prop → Prop
  | none, q => q
  | some p, q => p ∧ q
def jxs : List jOp → jTr → Option (Prop × jTr)
  | [], c => some (True, c)
  | o :: os, c => match jx1 o c with
    | none => none
    | some (p, c1) => match jxs os c1 with
      | none => none
      | some (q, c2) => some (jand p q, c2)
