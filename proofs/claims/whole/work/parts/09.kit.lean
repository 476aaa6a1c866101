/-! what the printed programs are written in: a check, a name, one behind another; a loop's two ends -/
def jgd {α : Type} (p : Prop) [Decidable p] (x : Option α) : Option α := if p then x else none
def jlet {α β : Type} (e : α) (f : α → β) : β := f e
def jb {α β : Type} (x : Option α) (f : α → Option β) : Option β := match x with
  | none => none
  | some a => f a
def jb2 {α β γ : Type} (x : Option (α ⊕ β)) (f : α → Option γ) (g : β → Option γ) : Option γ := match x with
  | none => none
  | some (.inl a) => f a
  | some (.inr b) => g b
def jin (i : Int32) (n : Nat) : Bool := decide (0 ≤ i) && decide (i.toNatClampNeg < n)
theorem jgd_ok {α : Type} {p : Prop} [Decidable p] {x : Option α} {r : α} (h : jgd p x = some r) : p ∧ x = some r := by
  unfold jgd at h
  split at h
  · exact ⟨‹_›, h⟩
  · cases h
theorem jlet_ok {α β : Type} {e : α} {f : α → β} {r : β} (h : jlet e f = r) : ∃ v, v = e ∧ f v = r := ⟨e, rfl, h⟩
theorem jb_ok {α β : Type} {x : Option α} {f : α → Option β} {r : β} (h : jb x f = some r) : ∃ a, x = some a ∧ f a = some r := by
  cases x with
  | none => cases h
  | some a => exact ⟨a, rfl, h⟩
theorem jb2_ok {α β γ : Type} {x : Option (α ⊕ β)} {f : α → Option γ} {g : β → Option γ} {r : γ} (h : jb2 x f g = some r) : (∃ a, x = some (.inl a) ∧ f a = some r) ∨ ∃ b, x = some (.inr b) ∧ g b = some r := by
  cases x with
  | none => cases h
  | some a =>
    cases a with
    | inl a => exact Or.inl ⟨a, rfl, h⟩
    | inr b => exact Or.inr ⟨b, rfl, h⟩
theorem jib_ok {i : Int32} {n : Nat} (h : jin i n = true) : vp_in i n := by
  unfold jin at h
  rw [Bool.and_eq_true, decide_eq_true_eq, decide_eq_true_eq] at h
  intro q
  rcases q with q | q
  · exact absurd h.1 (Int32.not_le.mpr q)
  · omega
theorem jif_t {α : Type} {p : Prop} [Decidable p] {a b : α} {r : α} (hp : p) (h : (if p then a else b) = r) : a = r := by rwa [if_pos hp] at h
theorem jif_f {α : Type} {p : Prop} [Decidable p] {a b : α} {r : α} (hp : ¬ p) (h : (if p then a else b) = r) : b = r := by rwa [if_neg hp] at h
section JKIT
variable {X : jX} {l : Launch} {d : Nat} {M : jM} {m0 m' m : jMe} {r : Option jAV} {pc : Nat} {ls : List (Nat × jAV)} {st : List jAV}
theorem jS.loc' {ls' : List (Nat × jAV)} (ps : List Nat) (h : ps.filterMap (fun i => ls[i]?) = ls') (k : jS X l d M m0 r m' (pc, ls', st, m)) : jS X l d M m0 r m' (pc, ls, st, m) := by
  refine jS.loc (fun q hq => ?_) k
  rw [← h] at hq
  obtain ⟨i, -, hi⟩ := List.mem_filterMap.mp hq
  exact List.mem_of_getElem? hi
theorem jS.cast {c c' : jCf} (h : c = c') (k : jS X l d M m0 r m' c') : jS X l d M m0 r m' c := h ▸ k
theorem jS.tswIn {dflt lo hi : Int} {offs : Array Int} {len tgt : Nat} {x v : Int32} {off : Int} (hx : x = v) (hdg : decode M.2.2.1 pc = .ok (.tableswitch dflt lo hi offs, len)) (h1 : ¬ v.toInt < lo) (h2 : ¬ hi < v.toInt) (ho : offs[(v.toInt - lo).toNat]? = some off) (ht : (pc : Int) + off = (tgt : Int)) (k : jS X l d M m0 r m' (tgt, ls, st, m)) : jS X l d M m0 r m' (pc, ls, .inl x :: st, m) := by
  subst hx
  refine ⟨k.1, fun p e R s mth args below meth c0 H locs la hC z1 z2 hl hG => ?_⟩
  have kk := k.2 p e R s mth args below meth c0 H locs la hC z1 z2 hl hG
  obtain ⟨hx, hb, -⟩ := hC
  exact lv_tableIn hx hb hdg h1 h2 ho ht kk
theorem jS.tswOut {dflt lo hi : Int} {offs : Array Int} {len tgt : Nat} {x : Int32} (hx : x.toInt < lo ∨ hi < x.toInt) (hdg : decode M.2.2.1 pc = .ok (.tableswitch dflt lo hi offs, len)) (ht : (pc : Int) + dflt = (tgt : Int)) (k : jS X l d M m0 r m' (tgt, ls, st, m)) : jS X l d M m0 r m' (pc, ls, .inl x :: st, m) := by
  refine ⟨k.1, fun p e R s mth args below meth c0 H locs la hC z1 z2 hl hG => ?_⟩
  have kk := k.2 p e R s mth args below meth c0 H locs la hC z1 z2 hl hG
  obtain ⟨hx', hb, -⟩ := hC
  exact lv_tableOut hx' hb hdg hx ht kk
theorem jsw_out {x : Int32} {vs : List Int32} {lo : Int} {n : Nat} (hv : (List.range n).map (fun (j : Nat) => Int32.ofInt (lo + j)) = vs) (h : ∀ v ∈ vs, ¬ x = v) : x.toInt < lo ∨ lo + n - 1 < x.toInt := by
  rcases (by omega : x.toInt < lo ∨ lo ≤ x.toInt) with q | q
  · exact Or.inl q
  · rcases (by omega : lo + n - 1 < x.toInt ∨ x.toInt ≤ lo + n - 1) with q2 | q2
    · exact Or.inr q2
    · exfalso
      refine h x ?_ rfl
      rw [← hv]
      refine List.mem_map.mpr ⟨(x.toInt - lo).toNat, List.mem_range.mpr (by omega), ?_⟩
      have e : lo + ((x.toInt - lo).toNat : Int) = x.toInt := by omega
      rw [e]
      exact Int32.ofInt_toInt x
theorem jS.lsw {dflt : Int} {ps : Array (Int × Int)} {len tgt : Nat} {x : Int32} {off : Int} (hdg : decode M.2.2.1 pc = .ok (.lookupswitch dflt ps, len)) (hp : (ps.toList.zip (ps.toList.drop 1)).all (fun (a, next) => a.1 < next.1) = true) (ho : Op.lookupswitch.offset ps.toList dflt x.toInt = off) (ht : (pc : Int) + off = (tgt : Int)) (k : jS X l d M m0 r m' (tgt, ls, st, m)) : jS X l d M m0 r m' (pc, ls, .inl x :: st, m) := by
  refine ⟨k.1, fun p e R s mth args below meth c0 H locs la hC z1 z2 hl hG => ?_⟩
  have kk := k.2 p e R s mth args below meth c0 H locs la hC z1 z2 hl hG
  obtain ⟨hx, hb, -⟩ := hC
  exact lv_lookup hx hb hdg hp ho ht kk
/-! Math -/
theorem jSt.mmax {idx : Nat} {x y : Int32} (hd : 1 ≤ d) (hlink : Cond.methodLink M.1 idx Lib.Math.max.name ∈ jW) (hstat : Cond.static Lib.Math.max.name ∈ jW) (hini : Cond.initialized "java/lang/Math" ∈ jW) (hcode : Cond.code Lib.Math.max.name Lib.Math.max.code 2 (some .int) ∈ jW) (hr : (st.map jcat).sum ≤ 8) (hdg : decode M.2.2.1 pc = .ok (.invokestatic idx, 3)) :
    jSt X l d M m0 m' (pc, ls, .inl y :: .inl x :: st, m) (pc + 3, ls, .inl (if x < y then y else x) :: st, m) := by
  refine ⟨⟨Nat.le_refl _, Nat.le_refl _⟩, fun q1 q2 p e R s mth args below meth c0 H locs la Q hC z1 z2 hl hG kk => ?_⟩
  obtain ⟨hx, hb, hml, hown, hts, hret, hlk, hnm, hK, hF, h0, hR1, hR2, hR3, hR4⟩ := hC
  dsimp only at q1 q2 z1 z2
  exact va_mmax hx hb (hml.trans hl.1.symm) hown (hts _ hlink) (hts _ hstat) (hts _ hini) (hts _ hcode) (by omega) (by rw [jcat_sum]; omega) (by dsimp only; omega) (by dsimp only; omega) hdg (kk la H locs hl hG)
theorem jSt.mmin {idx : Nat} {x y : Int32} (hd : 1 ≤ d) (hlink : Cond.methodLink M.1 idx Lib.Math.min.name ∈ jW) (hstat : Cond.static Lib.Math.min.name ∈ jW) (hini : Cond.initialized "java/lang/Math" ∈ jW) (hcode : Cond.code Lib.Math.min.name Lib.Math.min.code 2 (some .int) ∈ jW) (hr : (st.map jcat).sum ≤ 8) (hdg : decode M.2.2.1 pc = .ok (.invokestatic idx, 3)) :
    jSt X l d M m0 m' (pc, ls, .inl y :: .inl x :: st, m) (pc + 3, ls, .inl (if y < x then y else x) :: st, m) := by
  refine ⟨⟨Nat.le_refl _, Nat.le_refl _⟩, fun q1 q2 p e R s mth args below meth c0 H locs la Q hC z1 z2 hl hG kk => ?_⟩
  obtain ⟨hx, hb, hml, hown, hts, hret, hlk, hnm, hK, hF, h0, hR1, hR2, hR3, hR4⟩ := hC
  dsimp only at q1 q2 z1 z2
  exact va_mmin hx hb (hml.trans hl.1.symm) hown (hts _ hlink) (hts _ hstat) (hts _ hini) (hts _ hcode) (by omega) (by rw [jcat_sum]; omega) (by dsimp only; omega) (by dsimp only; omega) hdg (kk la H locs hl hG)
theorem jSt.mmaxl {idx : Nat} {x y : Int64} (hd : 1 ≤ d) (hlink : Cond.methodLink M.1 idx Lib.MathLoose.max_long.x ∈ jW) (hstat : Cond.static Lib.MathLoose.max_long.x ∈ jW) (hini : Cond.initialized "java/lang/Math" ∈ jW) (hcode : Cond.code Lib.MathLoose.max_long.x Lib.MathLoose.max_long.code 4 (some .long) ∈ jW) (hr : (st.map jcat).sum ≤ 8) (hdg : decode M.2.2.1 pc = .ok (.invokestatic idx, 3)) :
    jSt X l d M m0 m' (pc, ls, .inr (.inl y) :: .inr (.inl x) :: st, m) (pc + 3, ls, .inr (.inl (if y < x then x else y)) :: st, m) := by
  refine ⟨⟨Nat.le_refl _, Nat.le_refl _⟩, fun q1 q2 p e R s mth args below meth c0 H locs la Q hC z1 z2 hl hG kk => ?_⟩
  obtain ⟨hx, hb, hml, hown, hts, hret, hlk, hnm, hK, hF, h0, hR1, hR2, hR3, hR4⟩ := hC
  dsimp only at q1 q2 z1 z2
  exact va_mmax_long hx hb (hml.trans hl.1.symm) hown (hts _ hlink) (hts _ hstat) (hts _ hini) (hts _ hcode) (by omega) (by rw [jcat_sum]; omega) (by dsimp only; omega) (by dsimp only; omega) hdg (kk la H locs hl hG)
/-! texts -/
theorem jSt.str {idx a : Nat} {tx : String} (hX : jOk X) (hM : M.1 = RX3) (h : (idx, tx, a) ∈ jStrs) (ha : a ≠ 0) (hdg : decode M.2.2.1 pc = .ok (.ldc idx, 2)) : jSt X l d M m0 m' (pc, ls, st, m) (pc + 2, ls, .inr (.inr a) :: st, m) := by
  refine jSt.stk (fun {p e R s mth args below meth c0 H locs cells slots la Q} hx hb hown hts hF hl k => ?_)
  rw [hM] at hown
  rw [List.map_cons, jref ha] at k
  exact va_ldcS hx hb hown ((hX.2.2.2.2.2.2.2 s hF).2.1 _ h) hdg k
theorem jstr_at {m : jMe} {a : Nat} (hX : jOk X) (hWf : jWf X m) (hk : jK m a = 10) : 3 ≤ a ∧ a < 11 := by
  rcases Nat.lt_or_ge a 32 with q | q
  · have e1 := (hWf.1 a q).1
    have e2 := hX.2.1 a q
    omega
  · have := hWf.2.2 a q
    omega
theorem jbyt_at {m : jMe} {a : Nat} (hX : jOk X) (hWf : jWf X m) (hk : jK m a = 11) : 11 ≤ a ∧ a < 19 := by
  rcases Nat.lt_or_ge a 32 with q | q
  · have e1 := (hWf.1 a q).1
    have e2 := hX.2.1 a q
    omega
  · have := hWf.2.2 a q
    omega
theorem jSt.sval {idx a : Nat} (hX : jOk X) (hk : jK m a = 10) (hlink : Cond.fieldLink M.1 idx "java/lang/String" "value" "[B" ∈ jW) (hdg : decode M.2.2.1 pc = .ok (.getfield idx, 3)) : jSt X l d M m0 m' (pc, ls, .inr (.inr a) :: st, m) (pc + 3, ls, .inr (.inr (a + 8)) :: st, m) := by
  refine jSt.mem rfl rfl (fun {p e R s mth args below meth c0 H locs cells slots la Q} hx hb hml hown hts hnm hK hF hR hl hG kk => ?_)
  obtain ⟨a1, a2⟩ := jstr_at hX hG.1 hk
  have k1 := kk H locs hG
  rw [List.map_cons, jref (by omega)] at k1 ⊢
  have h1 := ((hX.2.2.2.2.2.2.2 s hF).1 (a - 3) (by omega)).2.2.1
  rw [show 3 + (a - 3) = a by omega, show 11 + (a - 3) = a + 8 by omega] at h1
  exact vk_getf hx hb h1 hG.2.2 hown (hts _ hlink) (fun x h => h) hdg k1
theorem jSt.scod {idx a : Nat} (hX : jOk X) (hk : jK m a = 10) (hlink : Cond.fieldLink M.1 idx "java/lang/String" "coder" "B" ∈ jW) (hdg : decode M.2.2.1 pc = .ok (.getfield idx, 3)) : jSt X l d M m0 m' (pc, ls, .inr (.inr a) :: st, m) (pc + 3, ls, .inl 0 :: st, m) := by
  refine jSt.mem rfl rfl (fun {p e R s mth args below meth c0 H locs cells slots la Q} hx hb hml hown hts hnm hK hF hR hl hG kk => ?_)
  obtain ⟨a1, a2⟩ := jstr_at hX hG.1 hk
  have k1 := kk H locs hG
  rw [List.map_cons, jref (by omega)]
  have h1 := ((hX.2.2.2.2.2.2.2 s hF).1 (a - 3) (by omega)).2.1
  rw [show 3 + (a - 3) = a by omega] at h1
  exact vk_getf hx hb h1 hG.2.2 hown (hts _ hlink) (fun x h => h) hdg k1
theorem jSt.scs {idx : Nat} (hX : jOk X) (hlink : Cond.fieldLink M.1 idx "java/lang/String" "COMPACT_STRINGS" "Z" ∈ jW) (hdg : decode M.2.2.1 pc = .ok (.getstatic idx, 3)) : jSt X l d M m0 m' (pc, ls, st, m) (pc + 3, ls, .inl 1 :: st, m) := by
  refine jSt.mem rfl rfl (fun {p e R s mth args below meth c0 H locs cells slots la Q} hx hb hml hown hts hnm hK hF hR hl hG kk => ?_)
  exact va_gets hx hb (hX.2.2.2.2.2.2.2 s hF).2.2.1 hG.2.2 hown (hts _ hlink) (fun x h => h) hdg (kk H locs hG)
theorem jS.gsf {idx : Nat} (hX : jOk X) (hlink : Cond.fieldLink M.1 idx "jdk/internal/util/Preconditions" "SIOOBE_FORMATTER" "Ljava/util/function/BiFunction;" ∈ jW) (hdg : decode M.2.2.1 pc = .ok (.getstatic idx, 3)) (k0 : jS X l d M m0 r m' (pc + 3, ls, .inr (.inr 0) :: st, m)) (k1 : jS X l d M m0 r m' (pc + 3, ls, .inr (.inr 31) :: st, m)) : jS X l d M m0 r m' (pc, ls, st, m) := by
  refine ⟨k0.1, fun p e R s mth args below meth c0 H locs la hC z1 z2 hl hG => ?_⟩
  have kk0 := k0.2 p e R s mth args below meth c0 H locs la hC z1 z2 hl hG
  have kk1 := k1.2 p e R s mth args below meth c0 H locs la hC z1 z2 hl hG
  obtain ⟨hx, hb, hml, hown, hts, hret, hlk, hnm, hK, hF, h0, hR1, hR2, hR3, hR4⟩ := hC
  rcases (hX.2.2.2.2.2.2.2 s hF).2.2.2 with h | h
  · exact va_gets hx hb h hG.2.2 hown (hts _ hlink) (fun x h => h) hdg kk0
  · dsimp only at kk1
    rw [List.map_cons, jref (by omega)] at kk1
    exact va_gets hx hb h hG.2.2 hown (hts _ hlink) (fun x h => h) hdg kk1
theorem jSt.sbl {a : Nat} {i : Int32} (hX : jOk X) (hk : jK m a = 11) (hin : vp_in i (jZ m a)) (hdg : decode M.2.2.1 pc = .ok (.baload, 1)) : jSt X l d M m0 m' (pc, ls, .inl i :: .inr (.inr a) :: st, m) (pc + 1, ls, .inl (jI m a i.toNatClampNeg) :: st, m) := by
  refine jSt.mem rfl rfl (fun {p e R s mth args below meth c0 H locs cells slots la Q} hx hb hml hown hts hnm hK hF hR hl hG kk => ?_)
  obtain ⟨a1, a2⟩ := jbyt_at hX hG.1 hk
  obtain ⟨e1, e2, e3⟩ := hG.1.1 a (by omega)
  have k1 := kk H locs hG
  rw [List.map_cons, e3] at k1
  rw [e2] at hin
  rw [List.map_cons, List.map_cons, jref (by omega)]
  have h1 := ((hX.2.2.2.2.2.2.2 s hF).1 (a - 11) (by omega)).2.2.2
  rw [show 11 + (a - 11) = a by omega] at h1
  exact va_tb hx hb h1 hG.2.2 hin rfl hdg k1
theorem jSt.slen {a : Nat} (hX : jOk X) (hk : jK m a = 11) (hdg : decode M.2.2.1 pc = .ok (.arraylength, 1)) : jSt X l d M m0 m' (pc, ls, .inr (.inr a) :: st, m) (pc + 1, ls, .inl (Int32.ofNat (jZ m a)) :: st, m) := by
  refine jSt.mem rfl rfl (fun {p e R s mth args below meth c0 H locs cells slots la Q} hx hb hml hown hts hnm hK hF hR hl hG kk => ?_)
  obtain ⟨a1, a2⟩ := jbyt_at hX hG.1 hk
  obtain ⟨e1, e2, e3⟩ := hG.1.1 a (by omega)
  have k1 := kk H locs hG
  rw [List.map_cons, e2] at k1
  rw [List.map_cons, jref (by omega)]
  have h1 := ((hX.2.2.2.2.2.2.2 s hF).1 (a - 11) (by omega)).2.2.2
  rw [show 11 + (a - 11) = a by omega] at h1
  exact va_tlen hx hb h1 hG.2.2 rfl hdg k1
/-- a call on a text -/
theorem jSt.callT {d2 idx b : Nat} {M2 : jM} {m2 : jMe} {rr : Option jAV} {As rest : List jAV} (hX : jOk X) (hH : jH X l d2 M2 (.inr (.inr b) :: As) m rr m2) (hk : jK m b = 10) (hcls : M2.2.1.cls = "java/lang/String") (hd : d2 < d) (hw : jMw M2) (hv : jMv M2 0) (hn : jMn M2 As.length) (hlink : Cond.methodLink M.1 idx M2.2.1 ∈ jW) (hr : (rest.map jcat).sum ≤ 8) (hdg : decode M.2.2.1 pc = .ok (.invokevirtual idx, 3)) :
    jSt X l d M m0 m' (pc, ls, As.reverse ++ .inr (.inr b) :: rest, m) (pc + 3, ls, rr.toList ++ rest, m2) := by
  obtain ⟨⟨n1, n2⟩, hM⟩ := hH
  obtain ⟨w1, w2, w3, w4, w5, w6⟩ := hw
  refine ⟨⟨n1, n2⟩, fun q1 q2 p e R s mth args below meth c0 H locs la Q hC z1 z2 hl hG kk => ?_⟩
  obtain ⟨hx, hb, hml, hown, hts, hret, hlk, hnm, hK, hF, h0, hR1, hR2, hR3, hR4⟩ := hC
  intro T hT Z
  have hz := jsize hX.1 hG h0 z1 (by rw [← hT]; exact Z.heapSize)
  dsimp only at q1 q2 z1 z2 n1 n2
  obtain ⟨a1, a2⟩ := jstr_at hX hG.1 hk
  have b3 : b ≠ 0 := by omega
  have h1 := ((hX.2.2.2.2.2.2.2 s hF).1 (b - 3) (by omega)).1
  rw [show 3 + (b - 3) = b by omega] at h1
  obtain ⟨cell, g1, g2, g3, g4⟩ := h1.kept hG.2.2.2.1
  refine jcall z1 z2 n1 n2 hG.2.2 (a := (Value.ref (jad X b) :: As.map (jv X)).toArray) (va_runV (As := As.map (jv X)) (rest := rest.map (jv X)) (b := jad X b) (C := M2.2.1.cls) ⟨hx, hb, hml, hown, hts⟩ hM (cwV (ws' := jW) As.length hts ?_ rfl rfl rfl ⟨rfl, w5.1, w5.2, hn⟩ ⟨by show d2 + 1 ≤ R.frames; omega, by show 8 + (M2.2.2.2.1 + 11) + 40 * d2 ≤ R.locals; omega⟩) ⟨jU_blind hX, ⟨cell, g1, g2, by rw [hcls]; exact g3⟩, fun U hU hW => ⟨by rw [List.map_cons, jref b3], jU_at hX hK hF hG hz (by omega) hU hW⟩⟩ rfl (by simp) hl.1 (by simp [jref b3]) (lv_room (by rw [jcat_sum]; exact hr)) hdg ⟨by omega, by omega⟩) (fun H' locs' hG' => ?_) T hT Z
  · intro w hw
    rcases List.mem_append.mp hw with hw | hw
    · refine jW_good _ ?_
      rcases List.mem_cons.mp hw with rfl | hw
      · exact hlink
      rcases List.mem_cons.mp hw with rfl | hw
      · exact hv.1
      rcases List.mem_cons.mp hw with rfl | hw
      · exact hv.2
      rcases List.mem_cons.mp hw with rfl | hw
      · exact w4
      · cases hw
    · exact jgood_code w3 w hw
  · have k := kk la H' locs' hl hG'
    dsimp only at k
    rw [List.map_append, show (rr.toList.map (jv X)) = (rr.map (jv X)).toList by cases rr <;> rfl] at k
    exact k
/-- a copy of a row of ints (clone, and the cast behind it) -/
theorem jSt.clone {idx idx2 a : Nat} (hX : jOk X) (hd : 1 ≤ d) (hk : jK m a = 1) (hlink : Cond.methodLink M.1 idx ⟨"[I", "clone", "()Ljava/lang/Object;"⟩ ∈ jW) (hsame : Cond.sameMethod "[I" "java/lang/Object" "clone" "()Ljava/lang/Object;" ∈ jW) (hnat : Cond.native ⟨"java/lang/Object", "clone", "()Ljava/lang/Object;"⟩ ∈ jW) (hinst : Cond.instanceMethod ⟨"java/lang/Object", "clone", "()Ljava/lang/Object;"⟩ ∈ jW)
    (hsel : Cond.selects "[I" ⟨"[I", "clone", "()Ljava/lang/Object;"⟩ ⟨"java/lang/Object", "clone", "()Ljava/lang/Object;"⟩ ∈ jW) (hcl : Cond.castable "[I" "java/lang/Cloneable" ∈ jOdd) (hlink2 : Cond.classLink M.1 idx2 "[I" ∈ jW) (hr : (st.map jcat).sum ≤ 8) (hdg : decode M.2.2.1 pc = .ok (.invokevirtual idx, 3)) (hdg2 : decode M.2.2.1 (pc + 3) = .ok (.checkcast idx2, 3)) :
    jSt X l d M m0 m' (pc, ls, .inr (.inr a) :: st, m) (pc + 6, ls, .inr (.inr (32 + jN m)) :: st, jdup m a) := by
  have hkk : jK (jdup m a) (32 + jN m) = 1 := (jat_self _ _ _).trans hk
  have hZ : jZ (jdup m a) (32 + jN m) = jZ m a := jat_self _ _ _
  have hI : jI (jdup m a) (32 + jN m) = jI m a := jat_self _ _ _
  refine jSt.made hX (n := jZ m a) rfl rfl (by rw [hkk]; omega) (fun b hb => ⟨jat_ne _ _ hb, jat_ne _ _ hb, jat_ne _ _ hb, jat_ne _ _ hb, jat_ne _ _ hb⟩) (fun {p e R s mth args below meth c0 H locs cells slots la Q} hx hb hml hls hown hts hodd hK hG hA hcl2 hsl hlo kk => ?_) ⟨st, rfl⟩
  obtain ⟨a1, a2, a3, a4⟩ := jkind hX hG.1 hk (by omega)
  have hwa := jws_ref hX hG.1 hk (by omega)
  rw [jcell_i hk (Or.inl rfl)] at hwa
  rw [jcell_i hkk (Or.inl rfl), hZ, hI] at kk
  have hnm : s.vm.findClass "[I" = some (X.2.1 1) := (hK.2 1 _ (jtys_at X (by omega))).2
  obtain ⟨hf1, hf2⟩ := hlo
  rw [List.map_cons, jref a3]
  refine va_clone hx hb (hml.trans hls.symm) hown (hts _ hlink) (hts _ hsame) (hts _ hnat) (hts _ hinst) (hts _ hsel) (hodd _ hcl) hK hG.2.1 (jws_D hX.1) hG.2.2 hA (a - 32) 1 hwa (jtys_at X (by omega)) hnm (fun i v hv => ?_) (by omega) (by rw [jcat_sum]; omega) hcl2 hsl hdg (fun q H1 hK1 hP1 hD1 hS1 => ?_)
  · obtain ⟨h1, h2⟩ := Array.getElem?_eq_some_iff.mp hv
    have h3 : i < jZ m a := by simpa [vp_cell_i, arrV_size] using h1
    have h4 : (vp_cell (X.2.1 1) (jZ m a, Sum.inl (jI m a))).slots[i]? = some (.int (jI m a i)) := by
      rw [vp_cell_i, arrV_read _ _ h3]
    rw [h4] at hv
    cases hv
    rfl
  · have hq : (jws X m ++ [(q, (Sum.inl (X.2.1 1, jZ m a, Sum.inl (jI m a)) : va_E))])[jN m]? = some (q, Sum.inl (X.2.1 1, jZ m a, Sum.inl (jI m a))) := by
      rw [List.getElem?_append_right (by simp [jws])]
      simp [jws]
    exact va_castA hx hb hown (hts _ hlink2) hP1 (jN m) hq hnm hdg2 (kk q H1 hP1 hD1 hS1)
end JKIT
