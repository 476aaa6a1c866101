/-! the rows of fields, arrays and new cells -/
theorem jfv_eq {X : jX} {m : jMe} {a c k : Nat} : jfv X m a c k = jv X (jpushf m a k (jtc (jty c k))) := by
  unfold jfv jpushf
  generalize jtc (jty c k) = t
  match t with
  | 0 => rfl
  | 1 => rfl
  | 2 => rfl
  | t + 3 => rfl
theorem jtc_0 {t : FieldType} (h : jtc t = 0) : t = .int := by
  cases t <;> first | rfl | (cases h)
theorem jtc_1 {t : FieldType} (h : jtc t = 1) : t = .long := by
  cases t <;> first | rfl | (cases h)
theorem jtc_2 {t : FieldType} (h : jtc t = 2) : (∃ n, t = .object n) ∨ ∃ n, t = .array n := by
  cases t <;> first | exact Or.inl ⟨_, rfl⟩ | exact Or.inr ⟨_, rfl⟩ | (cases h)
theorem jfit_q {X : jX} {t : FieldType} {x : Nat} (h : (∃ n, t = .object n) ∨ ∃ n, t = .array n) : narrow t (jv X (.inr (.inr x))) = jv X (.inr (.inr x)) ∧ fits t (jv X (.inr (.inr x))) = true := by
  by_cases q : x = 0
  · subst q
    rcases h with ⟨n, rfl⟩ | ⟨n, rfl⟩ <;> exact ⟨rfl, rfl⟩
  · rw [jref q]
    rcases h with ⟨n, rfl⟩ | ⟨n, rfl⟩ <;> exact ⟨rfl, rfl⟩
section JM
variable {X : jX} {l : Launch} {d : Nat} {M : jM} {m0 m' : jMe} {pc : Nat} {ls : List (Nat × jAV)} {r : List jAV} {m : jMe}
theorem jr_get (hX : jOk X) {a c k i : Nat} (hk : jK m a = 32 + c) (hc : c < 11) (hkn : k < jnf c) (hlink : Cond.fieldLink M.1 i (jTT c k).1 (jTT c k).2.1 (jTT c k).2.2.1 ∈ jW) (hd : decode M.2.2.1 pc = .ok (.getfield i, 3)) : jSt X l d M m0 m' (pc, ls, .inr (.inr a) :: r, m) (pc + 3, ls, jpushf m a k (jtc (jty c k)) :: r, m) := by
  refine jSt.mem rfl rfl (fun hx hb hml hown hts hnm hK hF hR hl hG kk => ?_)
  obtain ⟨b1, b2, b3, b4⟩ := jkind hX hG.1 hk (by omega)
  have hwa := jws_ref hX hG.1 hk (by omega)
  rw [jcell_o hk] at hwa
  rw [List.map_cons, jref b3]
  refine va_get hx hb hts (jin_ok hc) hown hK hG.2.1 (a - 32) hwa (jcl_at hc) k hkn (hts _ hlink) (fun x h => h) (v := jv X (jpushf m a k (jtc (jty c k)))) ?_ hd (kk _ _ hG)
  rw [jfs_get hkn, jfv_eq]
theorem jr_put (hX : jOk X) {m2 : jMe} {a c k i : Nat} {v : jAV} (hk : jK m a = 32 + c) (hc : c < 11) (hkn : k < jnf c) (hlink : Cond.fieldLink M.1 i (jTT c k).1 (jTT c k).2.1 (jTT c k).2.2.1 ∈ jW) (hfin : (jTT c k).2.2.2 = false ∨ (M.2.1.name = "<init>" ∧ (jTT c k).1 = M.1)) (hd : decode M.2.2.1 pc = .ok (.putfield i, 3))
    (hn : narrow (jty c k) (jv X v) = jv X v) (hf : fits (jty c k) (jv X v) = true) (hN : jN m2 = jN m) (hT : jT m2 = jT m) (hKK : jK m2 = jK m) (hZ : jZ m2 = jZ m) (hI : ∀ b, b ≠ a → jI m2 b = jI m b) (hL : ∀ b, b ≠ a → jL m2 b = jL m b) (hP : ∀ b, b ≠ a → jP m2 b = jP m b) (hv : jfv X m2 a c k = jv X v) (ho : ∀ j, j ≠ k → jfv X m2 a c j = jfv X m a c j) :
    jSt X l d M m0 m' (pc, ls, v :: .inr (.inr a) :: r, m) (pc + 3, ls, r, m2) := by
  refine jSt.mem hN hT (fun hx hb hml hown hts hnm hK hF hR hl hG kk => ?_)
  obtain ⟨b1, b2, b3, b4⟩ := jkind hX hG.1 hk (by omega)
  have hwa := jws_ref hX hG.1 hk (by omega)
  rw [jcell_o hk] at hwa
  rw [List.map_cons, List.map_cons, jref b3]
  have he : jcell X m2 a = .inr (c, ((List.range (jnf c)).map (jfv X m a c)).set k (jv X v)) := by
    rw [jcell_o (by rw [hKK]; exact hk), jfs_set hkn hv ho]
  have hw := jws_set (X := X) b1 hN hKK hZ hI hL hP he
  have hWf : jWf X m2 := hG.1.upd b1 hN hKK hZ hI
  rcases Bool.eq_false_or_eq_true (jTT c k).2.2.2 with h3 | h3
  · have hfin := hfin.resolve_left (by rw [h3]; decide)
    refine va_putF hx hb hts (jin_ok hc) (jty c) (jty_ok hc) (jnm_ok hc) hown hK hG.2.1 (jws_D hX.1) hG.2.2 (a - 32) hwa (jcl_at hc) k hkn (hts _ hlink) (fun x h => h) h3 ((hnm hfin.1).trans hfin.1) hfin.2 (jty_ok hc k hkn) hn hf (by simp; exact hkn) hd (fun H1 locs1 hP1 hD1 hS1 => kk H1 locs1 ⟨hWf, ?_, hS1⟩)
    rw [hw] at hP1
    exact hP1
  · refine va_put hx hb hts (jin_ok hc) (jty c) (jty_ok hc) (jnm_ok hc) hown hK hG.2.1 (jws_D hX.1) hG.2.2 (a - 32) hwa (jcl_at hc) k hkn (hts _ hlink) (fun x h => h) h3 (jty_ok hc k hkn) hn hf (by simp; exact hkn) hd (fun H1 locs1 hP1 hD1 hS1 => kk H1 locs1 ⟨hWf, ?_, hS1⟩)
    rw [hw] at hP1
    exact hP1
theorem jsI_ne {m : jMe} {a i b : Nat} {x : Int32} (h : b ≠ a) : jI (jsI m a i x) b = jI m b := jup_ne _ _ _ h
theorem jsL_ne {m : jMe} {a i b : Nat} {x : Int64} (h : b ≠ a) : jL (jsL m a i x) b = jL m b := jup_ne _ _ _ h
theorem jsP_ne {m : jMe} {a i b x : Nat} (h : b ≠ a) : jP (jsP m a i x) b = jP m b := jup_ne _ _ _ h
theorem jsI_at {m : jMe} {a i j : Nat} {x : Int32} : jI (jsI m a i x) a j = if j = i then x else jI m a j := by
  show jup (jI m) a i x a j = _
  rw [jup_at]
theorem jsL_at {m : jMe} {a i j : Nat} {x : Int64} : jL (jsL m a i x) a j = if j = i then x else jL m a j := by
  show jup (jL m) a i x a j = _
  rw [jup_at]
theorem jsP_at {m : jMe} {a i j x : Nat} : jP (jsP m a i x) a j = if j = i then x else jP m a j := by
  show jup (jP m) a i x a j = _
  rw [jup_at]
theorem jr_putI (hX : jOk X) {a c k i : Nat} {x : Int32} (hk : jK m a = 32 + c) (hc : c < 11) (hkn : k < jnf c) (hlink : Cond.fieldLink M.1 i (jTT c k).1 (jTT c k).2.1 (jTT c k).2.2.1 ∈ jW) (hfin : (jTT c k).2.2.2 = false ∨ (M.2.1.name = "<init>" ∧ (jTT c k).1 = M.1)) (hd : decode M.2.2.1 pc = .ok (.putfield i, 3))
    (ht : jtc (jty c k) ≠ 1 ∧ jtc (jty c k) ≠ 2) (hn : narrow (jty c k) (.int x) = .int x) (hf : fits (jty c k) (.int x) = true) : jSt X l d M m0 m' (pc, ls, .inl x :: .inr (.inr a) :: r, m) (pc + 3, ls, r, jsI m a k x) := by
  refine jr_put hX hk hc hkn hlink hfin hd hn hf rfl rfl rfl rfl (fun b hb => jsI_ne hb) (fun b hb => rfl) (fun b hb => rfl) ?_ (fun j hj => ?_)
  · unfold jfv
    split
    · exact absurd ‹_› ht.1
    · exact absurd ‹_› ht.2
    · rw [jsI_at, if_pos rfl]
      rfl
  · unfold jfv
    rw [jsI_at, if_neg hj]
    rfl
theorem jr_putL (hX : jOk X) {a c k i : Nat} {x : Int64} (hk : jK m a = 32 + c) (hc : c < 11) (hkn : k < jnf c) (hlink : Cond.fieldLink M.1 i (jTT c k).1 (jTT c k).2.1 (jTT c k).2.2.1 ∈ jW) (hfin : (jTT c k).2.2.2 = false ∨ (M.2.1.name = "<init>" ∧ (jTT c k).1 = M.1)) (hd : decode M.2.2.1 pc = .ok (.putfield i, 3))
    (ht : jtc (jty c k) = 1) : jSt X l d M m0 m' (pc, ls, .inr (.inl x) :: .inr (.inr a) :: r, m) (pc + 3, ls, r, jsL m a k x) := by
  refine jr_put hX hk hc hkn hlink hfin hd (by rw [jtc_1 ht]; rfl) (by rw [jtc_1 ht]; rfl) rfl rfl rfl rfl (fun b hb => rfl) (fun b hb => jsL_ne hb) (fun b hb => rfl) ?_ (fun j hj => ?_)
  · unfold jfv
    rw [ht]
    show Value.long _ = _
    rw [jsL_at, if_pos rfl]
    rfl
  · unfold jfv
    rw [jsL_at, if_neg hj]
    rfl
theorem jr_putP (hX : jOk X) {a c k i x : Nat} (hk : jK m a = 32 + c) (hc : c < 11) (hkn : k < jnf c) (hlink : Cond.fieldLink M.1 i (jTT c k).1 (jTT c k).2.1 (jTT c k).2.2.1 ∈ jW) (hfin : (jTT c k).2.2.2 = false ∨ (M.2.1.name = "<init>" ∧ (jTT c k).1 = M.1)) (hd : decode M.2.2.1 pc = .ok (.putfield i, 3))
    (ht : jtc (jty c k) = 2) : jSt X l d M m0 m' (pc, ls, .inr (.inr x) :: .inr (.inr a) :: r, m) (pc + 3, ls, r, jsP m a k x) := by
  refine jr_put hX hk hc hkn hlink hfin hd (jfit_q (jtc_2 ht)).1 (jfit_q (jtc_2 ht)).2 rfl rfl rfl rfl (fun b hb => rfl) (fun b hb => rfl) (fun b hb => jsP_ne hb) ?_ (fun j hj => ?_)
  · unfold jfv
    rw [ht]
    show jv X (.inr (.inr _)) = _
    rw [jsP_at, if_pos rfl]
  · unfold jfv
    rw [jsP_at, if_neg hj]
    rfl
/-- loads -/
theorem jr_ild (hX : jOk X) {a k : Nat} {i : Int32} (hk : jK m a = k) (hkk : k = 1 ∨ k = 8 ∨ k = 9) (hin : vp_in i (jZ m a)) (hd : decode M.2.2.1 pc = .ok (.iaload, 1)) : jSt X l d M m0 m' (pc, ls, .inl i :: .inr (.inr a) :: r, m) (pc + 1, ls, .inl (jI m a i.toNatClampNeg) :: r, m) := by
  refine jSt.mem rfl rfl (fun {p e R s mth args below meth c0 H locs cells slots la Q} hx hb hml hown hts hnm hK hF hR hl hG kk => ?_)
  rcases hkk with rfl | hkk
  · obtain ⟨b1, b2, b3, b4⟩ := jkind hX hG.1 hk (by omega)
    have hwa := jws_ref hX hG.1 hk (by omega)
    rw [jcell_i hk (Or.inl rfl)] at hwa
    rw [List.map_cons, List.map_cons, jref b3]
    exact va_iald hx hb hK hG.2.1 (a - 32) 1 hwa (jtys_at X (by omega)) hin hd (kk _ _ hG)
  · have ha : a < 32 := by
      rcases Nat.lt_or_ge a 32 with q | q
      · exact q
      · have := hG.1.2.2 a q
        omega
    obtain ⟨e1, e2, e3⟩ := hG.1.1 a ha
    have ha0 : a ≠ 0 := by
      have h0 := hX.2.1 a ha
      omega
    rw [List.map_cons, List.map_cons, jref ha0]
    rw [e2] at hin
    have kk := kk _ _ hG
    rw [List.map_cons, e3] at kk
    rcases hkk with h | h
    · obtain ⟨h1, h2⟩ := hX.2.2.2.2.1 s hF a ha (by rw [← e1, hk, h])
      refine va_sld hx hb h1 (Nat.lt_of_lt_of_le h2 (hX.2.2.2.1 s hF).2) (Nat.not_le.mpr h2) hG.2.2 hin hd kk
    · obtain ⟨h1, h2⟩ := hX.2.2.2.2.2.1 s hF a ha (by rw [← e1, hk, h])
      exact va_ti hx hb h1 hG.2.2 hin rfl hd kk
theorem jr_iast (hX : jOk X) {a : Nat} {i x : Int32} (hk : jK m a = 1) (hin : vp_in i (jZ m a)) (hd : decode M.2.2.1 pc = .ok (.iastore, 1)) : jSt X l d M m0 m' (pc, ls, .inl x :: .inl i :: .inr (.inr a) :: r, m) (pc + 1, ls, r, jsI m a i.toNatClampNeg x) := by
  refine jSt.mem rfl rfl (fun {p e R s mth args below meth c0 H locs cells slots la Q} hx hb hml hown hts hnm hK hF hR hl hG kk => ?_)
  obtain ⟨b1, b2, b3, b4⟩ := jkind hX hG.1 hk (by omega)
  have hwa := jws_ref hX hG.1 hk (by omega)
  rw [jcell_i hk (Or.inl rfl)] at hwa
  rw [List.map_cons, List.map_cons, List.map_cons, jref b3]
  refine va_iast hx hb hK hG.2.1 (jws_D hX.1) hG.2.2 (a - 32) 1 hwa (jtys_at X (by omega)) hin hd (fun H1 locs1 hP1 hD1 hS1 => kk H1 locs1 ⟨hG.1.upd b1 rfl rfl rfl (fun b hb => jsI_ne hb), ?_, hS1⟩)
  rw [jws_set (X := X) (m := m) (m' := jsI m a i.toNatClampNeg x) b1 rfl rfl rfl (fun b hb => jsI_ne hb) (fun b hb => rfl) (fun b hb => rfl) ?_] at hP1
  · exact hP1
  · have e : jI (jsI m a i.toNatClampNeg x) a = upd (jI m a) i.toNatClampNeg x := by
      funext j
      rw [jsI_at]
      rfl
    rw [jcell_i (m := jsI m a i.toNatClampNeg x) (k := 1) hk (by omega), e]
    rfl
theorem jr_bld (hX : jOk X) {a : Nat} {i : Int32} (hk : jK m a = 4) (hin : vp_in i (jZ m a)) (hd : decode M.2.2.1 pc = .ok (.baload, 1)) : jSt X l d M m0 m' (pc, ls, .inl i :: .inr (.inr a) :: r, m) (pc + 1, ls, .inl (jI m a i.toNatClampNeg) :: r, m) := by
  refine jSt.mem rfl rfl (fun hx hb hml hown hts hnm hK hF hR hl hG kk => ?_)
  obtain ⟨b1, b2, b3, b4⟩ := jkind hX hG.1 hk (by omega)
  have hwa := jws_ref hX hG.1 hk (by omega)
  rw [jcell_i hk (by omega)] at hwa
  rw [List.map_cons, List.map_cons, jref b3]
  exact va_zald hx hb hK hG.2.1 (a - 32) 4 hwa (jtys_at X (by omega)) hin hd (kk _ _ hG)
theorem jr_cld (hX : jOk X) {a : Nat} {i : Int32} (hk : jK m a = 3) (hin : vp_in i (jZ m a)) (hd : decode M.2.2.1 pc = .ok (.caload, 1)) : jSt X l d M m0 m' (pc, ls, .inl i :: .inr (.inr a) :: r, m) (pc + 1, ls, .inl (jI m a i.toNatClampNeg) :: r, m) := by
  refine jSt.mem rfl rfl (fun hx hb hml hown hts hnm hK hF hR hl hG kk => ?_)
  obtain ⟨b1, b2, b3, b4⟩ := jkind hX hG.1 hk (by omega)
  have hwa := jws_ref hX hG.1 hk (by omega)
  rw [jcell_i hk (by omega)] at hwa
  rw [List.map_cons, List.map_cons, jref b3]
  exact va_cald hx hb hK hG.2.1 (a - 32) 3 hwa (jtys_at X (by omega)) hin hd (kk _ _ hG)
theorem jr_lld (hX : jOk X) {a : Nat} {i : Int32} (hk : jK m a = 2) (hin : vp_in i (jZ m a)) (hd : decode M.2.2.1 pc = .ok (.laload, 1)) : jSt X l d M m0 m' (pc, ls, .inl i :: .inr (.inr a) :: r, m) (pc + 1, ls, .inr (.inl (jL m a i.toNatClampNeg)) :: r, m) := by
  refine jSt.mem rfl rfl (fun hx hb hml hown hts hnm hK hF hR hl hG kk => ?_)
  obtain ⟨b1, b2, b3, b4⟩ := jkind hX hG.1 hk (by omega)
  have hwa := jws_ref hX hG.1 hk (by omega)
  rw [jcell_l hk] at hwa
  rw [List.map_cons, List.map_cons, jref b3]
  exact va_lald hx hb hK hG.2.1 (a - 32) 2 hwa (jtys_at X (by omega)) hin hd (kk _ _ hG)
theorem jr_qld (hX : jOk X) {a k : Nat} {i : Int32} (hk : jK m a = k) (hkk : k = 5 ∨ k = 6 ∨ k = 7) (hin : vp_in i (jZ m a)) (hd : decode M.2.2.1 pc = .ok (.aaload, 1)) : jSt X l d M m0 m' (pc, ls, .inl i :: .inr (.inr a) :: r, m) (pc + 1, ls, .inr (.inr (jP m a i.toNatClampNeg)) :: r, m) := by
  refine jSt.mem rfl rfl (fun hx hb hml hown hts hnm hK hF hR hl hG kk => ?_)
  obtain ⟨b1, b2, b3, b4⟩ := jkind hX hG.1 hk (by omega)
  have hwa := jws_ref hX hG.1 hk (by omega)
  rw [jcell_q hk hkk] at hwa
  rw [List.map_cons, List.map_cons, jref b3]
  have hty : ∃ C, (jtys X)[k]? = some (X.2.1 k, .object C) := by
    rcases hkk with rfl | rfl | rfl
    · exact ⟨_, rfl⟩
    · exact ⟨_, rfl⟩
    · exact ⟨_, rfl⟩
  obtain ⟨C, hty⟩ := hty
  refine va_aldq hx hb hK hG.2.1 (a - 32) k hwa hty hin hd ?_
  have k1 := kk _ _ hG
  rw [List.map_cons] at k1
  have e : va_rf (if jP m a i.toNatClampNeg = 0 then none else some (jad X (jP m a i.toNatClampNeg))) = jv X (.inr (.inr (jP m a i.toNatClampNeg))) := by
    by_cases q : jP m a i.toNatClampNeg = 0
    · rw [if_pos q, q]
      rfl
    · rw [if_neg q, jref q]
      rfl
  rw [e]
  exact k1
theorem jr_ast (hX : jOk X) {a k : Nat} {i x : Int32} (I : Instr) (hI : I = .castore ∧ k = 3 ∨ I = .bastore ∧ k = 4) (hk : jK m a = k) (hin : vp_in i (jZ m a)) (hd : decode M.2.2.1 pc = .ok (I, 1)) : jSt X l d M m0 m' (pc, ls, .inl x :: .inl i :: .inr (.inr a) :: r, m) (pc + 1, ls, r, jsI m a i.toNatClampNeg (vp_nar (jel k) x)) := by
  refine jSt.mem rfl rfl (fun {p e R s mth args below meth c0 H locs cells slots la Q} hx hb hml hown hts hnm hK hF hR hl hG kk => ?_)
  obtain ⟨b1, b2, b3, b4⟩ := jkind hX hG.1 hk (by omega)
  have hwa := jws_ref hX hG.1 hk (by omega)
  rw [jcell_i hk (by omega)] at hwa
  rw [List.map_cons, List.map_cons, List.map_cons, jref b3]
  have he : ∀ y : Int32, jcell X (jsI m a i.toNatClampNeg y) a = .inl (X.2.1 k, jZ m a, .inl (upd (jI m a) i.toNatClampNeg y)) := by
    intro y
    have e : jI (jsI m a i.toNatClampNeg y) a = upd (jI m a) i.toNatClampNeg y := by
      funext j
      rw [jsI_at]
      rfl
    rw [jcell_i (m := jsI m a i.toNatClampNeg y) (k := k) hk (by omega), e]
    rfl
  have hw : ∀ y : Int32, (jws X m).set (a - 32) (jad X a, .inl (X.2.1 k, jZ m a, .inl (upd (jI m a) i.toNatClampNeg y))) = jws X (jsI m a i.toNatClampNeg y) := fun y => jws_set (X := X) (m := m) b1 rfl rfl rfl (fun b hb => jsI_ne hb) (fun b hb => rfl) (fun b hb => rfl) (he y)
  rcases hI with ⟨rfl, rfl⟩ | ⟨rfl, rfl⟩
  · refine va_cast hx hb hK hG.2.1 (jws_D hX.1) hG.2.2 (a - 32) 3 hwa (jtys_at X (by omega)) hin hd (fun H1 locs1 hP1 hD1 hS1 => kk H1 locs1 ⟨hG.1.upd b1 rfl rfl rfl (fun b hb => jsI_ne hb), ?_, hS1⟩)
    rw [hw] at hP1
    exact hP1
  · refine va_zast hx hb hK hG.2.1 (jws_D hX.1) hG.2.2 (a - 32) 4 hwa (jtys_at X (by omega)) hin hd (fun H1 locs1 hP1 hD1 hS1 => kk H1 locs1 ⟨hG.1.upd b1 rfl rfl rfl (fun b hb => jsI_ne hb), ?_, hS1⟩)
    rw [hw] at hP1
    exact hP1
theorem jr_last (hX : jOk X) {a : Nat} {i : Int32} {x : Int64} (hk : jK m a = 2) (hin : vp_in i (jZ m a)) (hd : decode M.2.2.1 pc = .ok (.lastore, 1)) : jSt X l d M m0 m' (pc, ls, .inr (.inl x) :: .inl i :: .inr (.inr a) :: r, m) (pc + 1, ls, r, jsL m a i.toNatClampNeg x) := by
  refine jSt.mem rfl rfl (fun {p e R s mth args below meth c0 H locs cells slots la Q} hx hb hml hown hts hnm hK hF hR hl hG kk => ?_)
  obtain ⟨b1, b2, b3, b4⟩ := jkind hX hG.1 hk (by omega)
  have hwa := jws_ref hX hG.1 hk (by omega)
  rw [jcell_l hk] at hwa
  rw [List.map_cons, List.map_cons, List.map_cons, jref b3]
  refine va_last hx hb hK hG.2.1 (jws_D hX.1) hG.2.2 (a - 32) 2 hwa (jtys_at X (by omega)) hin hd (fun H1 locs1 hP1 hD1 hS1 => kk H1 locs1 ⟨hG.1.upd b1 rfl rfl rfl (fun b hb => rfl), ?_, hS1⟩)
  rw [jws_set (X := X) (m := m) (m' := jsL m a i.toNatClampNeg x) b1 rfl rfl rfl (fun b hb => rfl) (fun b hb => jsL_ne hb) (fun b hb => rfl) ?_] at hP1
  · exact hP1
  · have e : jL (jsL m a i.toNatClampNeg x) a = vp_updL (jL m a) i.toNatClampNeg x := by
      funext j
      rw [jsL_at]
      rfl
    rw [jcell_l (m := jsL m a i.toNatClampNeg x) hk, e]
    rfl
theorem jr_qast (hX : jOk X) {a k c z : Nat} {i : Int32} (hk : jK m a = k) (hkc : k = 5 ∧ c = 4 ∨ k = 6 ∧ c = 7 ∨ k = 7 ∧ c = 5) (hin : vp_in i (jZ m a)) (hz : jK m z = 32 + c) (hd : decode M.2.2.1 pc = .ok (.aastore, 1)) : jSt X l d M m0 m' (pc, ls, .inr (.inr z) :: .inl i :: .inr (.inr a) :: r, m) (pc + 1, ls, r, jsP m a i.toNatClampNeg z) := by
  refine jSt.mem rfl rfl (fun {p e R s mth args below meth c0 H locs cells slots la Q} hx hb hml hown hts hnm hK hF hR hl hG kk => ?_)
  obtain ⟨b1, b2, b3, b4⟩ := jkind hX hG.1 hk (by omega)
  obtain ⟨z1, z2, z3, z4⟩ := jkind hX hG.1 hz (by omega)
  have hwa := jws_ref hX hG.1 hk (by omega)
  have hwz := jws_ref hX hG.1 hz (by omega)
  rw [jcell_q hk (by omega)] at hwa
  rw [jcell_o hz] at hwz
  rw [List.map_cons, List.map_cons, List.map_cons, jref b3, jref z3]
  have hty : (jtys X)[k]? = some (X.2.1 k, .object (jRR c)) := by
    rcases hkc with ⟨rfl, rfl⟩ | ⟨rfl, rfl⟩ | ⟨rfl, rfl⟩ <;> rfl
  refine va_astq hx hb hK hG.2.1 (jws_D hX.1) hG.2.2 (a - 32) k (z - 32) c (r := (jRR c, jTT c, jnf c)) hwa hty hwz (jcl_at (by omega)) hin hd (fun H1 locs1 hP1 hD1 hS1 => kk H1 locs1 ⟨hG.1.upd b1 rfl rfl rfl (fun b hb => rfl), ?_, hS1⟩)
  rw [jws_set (X := X) (m := m) (m' := jsP m a i.toNatClampNeg z) b1 rfl rfl rfl (fun b hb => rfl) (fun b hb => rfl) (fun b hb => jsP_ne hb) ?_] at hP1
  · exact hP1
  · rw [jcell_q (m := jsP m a i.toNatClampNeg z) (k := k) hk (by omega)]
    have e : (fun j => if jP (jsP m a i.toNatClampNeg z) a j = 0 then none else some (jad X (jP (jsP m a i.toNatClampNeg z) a j))) = va_up (fun j => if jP m a j = 0 then none else some (jad X (jP m a j))) i.toNatClampNeg (some (jad X z)) := by
      funext j
      rw [jsP_at]
      unfold va_up
      by_cases q : j = i.toNatClampNeg
      · rw [if_pos q, if_pos q, if_neg z3]
      · rw [if_neg q, if_neg q]
    rw [e]
    rfl
theorem jr_len (hX : jOk X) {a k : Nat} (hk : jK m a = k) (hkk : k = 1 ∨ k = 2 ∨ k = 8) (hd : decode M.2.2.1 pc = .ok (.arraylength, 1)) : jSt X l d M m0 m' (pc, ls, .inr (.inr a) :: r, m) (pc + 1, ls, .inl (Int32.ofNat (jZ m a)) :: r, m) := by
  refine jSt.mem rfl rfl (fun {p e R s mth args below meth c0 H locs cells slots la Q} hx hb hml hown hts hnm hK hF hR hl hG kk => ?_)
  rcases hkk with rfl | rfl | rfl
  · obtain ⟨b1, b2, b3, b4⟩ := jkind hX hG.1 hk (by omega)
    have hwa := jws_ref hX hG.1 hk (by omega)
    rw [jcell_i hk (Or.inl rfl)] at hwa
    rw [List.map_cons, jref b3]
    exact va_alen hx hb hK hG.2.1 (a - 32) 1 hwa (jtys_at X (by omega)) rfl hd (kk _ _ hG)
  · obtain ⟨b1, b2, b3, b4⟩ := jkind hX hG.1 hk (by omega)
    have hwa := jws_ref hX hG.1 hk (by omega)
    rw [jcell_l hk] at hwa
    rw [List.map_cons, jref b3]
    exact va_alen hx hb hK hG.2.1 (a - 32) 2 hwa (jtys_at X (by omega)) rfl hd (kk _ _ hG)
  · have ha : a < 32 := by
      rcases Nat.lt_or_ge a 32 with q | q
      · exact q
      · have := hG.1.2.2 a q
        omega
    obtain ⟨e1, e2, e3⟩ := hG.1.1 a ha
    have ha0 : a ≠ 0 := by
      have h0 := hX.2.1 a ha
      omega
    rw [List.map_cons, jref ha0]
    have kk := kk _ _ hG
    rw [List.map_cons, e2] at kk
    obtain ⟨h1, h2⟩ := hX.2.2.2.2.1 s hF a ha (by rw [← e1, hk])
    exact va_slen hx hb h1 (Nat.lt_of_lt_of_le h2 (hX.2.2.2.1 s hF).2) (Nat.not_le.mpr h2) hG.2.2 hd kk
end JM
