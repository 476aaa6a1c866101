/-! jx1, jxs are steps of the machine -/
set_option maxHeartbeats 4000000 in
theorem jx1_ok {X : jX} {l : Launch} {d : Nat} {M : jM} {m0 m' : jMe} {pc : Nat} {ls ls' : List (Nat × jAV)} {st st' : List jAV} {m m2 : jMe} {o : jOp} {P : Option Prop} (hX : jOk X) (h : jx1 o (ls, st, m) = some (P, ls', st', m2)) (hc : jcode1 M pc o) (hP : P.getD True) : jSt X l d M m0 m' (pc, ls, st, m) (jnext pc o, ls', st', m2) := by
  obtain ⟨I, len, r1, r2, r3, v, w⟩ := o
  obtain ⟨hd, hr⟩ := hc
  dsimp only at hd
  cases I
  case iconst n => exact jxP_ok h (fun hx hb hown hts hF hl k => lv_iconst hx hb hd (of_decide_eq_true hr) k)
  case bipush n => exact jxP_ok h (fun hx hb hown hts hF hl k => lv_bipush hx hb hd (of_decide_eq_true hr) k)
  case sipush n => exact jxP_ok h (fun hx hb hown hts hF hl k => lv_sipush hx hb hd (of_decide_eq_true hr) k)
  case ldc n => exact jxP_ok h (fun hx hb hown hts hF hl k => lv_ldc hx hb hown (hts _ (jwi_ok hr)) hd k)
  case ldc_w n => exact jxP_ok h (fun hx hb hown hts hF hl k => lv_ldcw hx hb hown (hts _ (jwi_ok hr)) hd k)
  case lconst n => exact jxP_ok h (fun hx hb hown hts hF hl k => lv_lconst hx hb hd (of_decide_eq_true hr) k)
  case ldc2_w n => exact jxP_ok h (fun hx hb hown hts hF hl k => lv_ldc2 hx hb hown (hts _ (jwi_ok hr)) hd k)
  case iload_n k => exact jxLi_ok h (fun x hg => fun hx hb hown hts hF hl kk => lv_iload_n hx hb hd rfl (jlv_at hl hg) kk)
  case iload k => exact jxLi_ok h (fun x hg => fun hx hb hown hts hF hl kk => lv_iload hx hb hd (jlv_at hl hg) kk)
  case lload_n k => exact jxLl_ok h (fun x hg => fun hx hb hown hts hF hl kk => lv_lload_n hx hb hd rfl (jlv_at hl hg) kk)
  case lload k => exact jxLl_ok h (fun x hg => fun hx hb hown hts hF hl kk => lv_lload hx hb hd (jlv_at hl hg) kk)
  case aload_n k => exact jxLa_ok h (fun x hg => jr_aload_n hg hd)
  case aload k => exact jxLa_ok h (fun x hg => jr_aload hg hd)
  case istore_n k => exact jxSi_ok h (fun x r => jSt.loc (fun hx hb hl kk => lv_istore_n hx hb hd rfl hl (of_decide_eq_true hr) (jlv_put1 X k.val (.inl x) ls) kk))
  case istore k => exact jxSi_ok h (fun x r => jSt.loc (fun hx hb hl kk => lv_istore hx hb hd hl (of_decide_eq_true hr) (jlv_put1 X k (.inl x) ls) kk))
  case lstore_n k => exact jxSl_ok h (fun x r => jSt.loc (fun hx hb hl kk => lv_lstore_n hx hb hd rfl hl (of_decide_eq_true hr) (jlv_put2 X k.val (.inr (.inl x)) ls) kk))
  case lstore k => exact jxSl_ok h (fun x r => jSt.loc (fun hx hb hl kk => lv_lstore hx hb hd hl (of_decide_eq_true hr) (jlv_put2 X k (.inr (.inl x)) ls) kk))
  case astore_n k => exact jxSa_ok h (fun x r => jr_astore_n (of_decide_eq_true hr) hd)
  case astore k => exact jxSa_ok h (fun x r => jr_astore (of_decide_eq_true hr) hd)
  case iinc k n => 
    obtain ⟨hr1, hr2⟩ := Bool.and_eq_true_iff.mp hr
    exact jxInc_ok h (fun x hg => jr_iinc hg (of_decide_eq_true hr1) (of_decide_eq_true hr2) hd)
  case iadd => exact jxII_ok h (fun x y r => fun hx hb hown hts hF hl k => lv_iadd hx hb hd k)
  case isub => exact jxII_ok h (fun x y r => fun hx hb hown hts hF hl k => lv_isub hx hb hd k)
  case imul => exact jxII_ok h (fun x y r => fun hx hb hown hts hF hl k => lv_imul hx hb hd k)
  case iand => exact jxII_ok h (fun x y r => fun hx hb hown hts hF hl k => lv_iand hx hb hd k)
  case ior => exact jxII_ok h (fun x y r => fun hx hb hown hts hF hl k => lv_ior hx hb hd k)
  case ixor => exact jxII_ok h (fun x y r => fun hx hb hown hts hF hl k => lv_ixor hx hb hd k)
  case ishl => exact jxII_ok h (fun x y r => fun hx hb hown hts hF hl k => lv_ishl hx hb hd k)
  case ishr => exact jxII_ok h (fun x y r => fun hx hb hown hts hF hl k => lv_ishr hx hb hd k)
  case iushr => exact jxII_ok h (fun x y r => fun hx hb hown hts hF hl k => lv_iushr hx hb hd rfl k)
  case idiv => exact jxIId_ok h hP (fun x y r hy => fun hx hb hown hts hF hl k => lv_idiv hx hb hd hy k)
  case irem => exact jxIId_ok h hP (fun x y r hy => fun hx hb hown hts hF hl k => lv_irem hx hb hd hy k)
  case ineg => exact jxUI_ok h (fun x r => fun hx hb hown hts hF hl k => lv_ineg hx hb hd k)
  case i2l => exact jxUI_ok h (fun x r => fun hx hb hown hts hF hl k => lv_i2l hx hb hd rfl k)
  case i2b => exact jxUI_ok h (fun x r => fun hx hb hown hts hF hl k => lv_i2b hx hb hd rfl k)
  case i2c => exact jxUI_ok h (fun x r => fun hx hb hown hts hF hl k => lv_i2c hx hb hd rfl k)
  case l2i => exact jxUL_ok h (fun x r => fun hx hb hown hts hF hl k => lv_l2i hx hb hd rfl k)
  case ladd => exact jxLL_ok h (fun x y r => fun hx hb hown hts hF hl k => lv_ladd hx hb hd k)
  case lsub => exact jxLL_ok h (fun x y r => fun hx hb hown hts hF hl k => lv_lsub hx hb hd k)
  case lmul => exact jxLL_ok h (fun x y r => fun hx hb hown hts hF hl k => lv_lmul hx hb hd k)
  case land => exact jxLL_ok h (fun x y r => fun hx hb hown hts hF hl k => lv_land hx hb hd k)
  case lor => exact jxLL_ok h (fun x y r => fun hx hb hown hts hF hl k => lv_lor hx hb hd k)
  case lushr => exact jxLI_ok h (fun x y r => fun hx hb hown hts hF hl k => lv_lushr hx hb hd rfl k)
  case lshl => exact jxLI_ok h (fun x y r => fun hx hb hown hts hF hl k => lv_lshl hx hb hd rfl k)
  case ldiv => exact jxLLd_ok h hP (fun x y r hy => fun hx hb hown hts hF hl k => lv_ldiv hx hb hd hy k)
  case lrem => exact jxLLd_ok h hP (fun x y r hy => fun hx hb hown hts hF hl k => lv_lrem hx hb hd hy k)
  case lcmp => exact jxCmp_ok h (fun x y r => fun hx hb hown hts hF hl k => W.lcmp hx hb hd k)
  case dup => exact jxDup_ok h (fun x r hc => fun hx hb hown hts hF hl k => lv_dup hx hb hd (by rw [jv_cat, hc]) k)
  case pop => exact jxPop_ok h (fun x r hc => fun hx hb hown hts hF hl k => lv_pop hx hb hd (by rw [jv_cat, hc]) k)
  case pop2 => exact jxPop2_ok h (fun x r => fun hx hb hown hts hF hl k => lv_pop2_2 hx hb hd rfl k)
  case dup2 => exact jxDup2_ok h (fun x y r => fun hx hb hown hts hF hl k => lv_dup2_11 hx hb hd rfl (jv_cat X (.inr (.inr x))) k)
  case goto off => 
    replace h : some ((none : Option Prop), ls, st, m) = some (P, ls', st', m2) := h
    cases h
    exact jSt.stk (fun hx hb hown hts hF hl k => lv_goto hx hb hd (of_decide_eq_true hr) k)
  case aconst_null => exact jxP_ok h (fun hx hb hown hts hF hl k => lv_null hx hb hd k)
  case getstatic i =>
    replace h : some ((none : Option Prop), ls, .inr (.inr 1) :: st, m) = some (P, ls', st', m2) := h
    cases h
    refine jSt.mem rfl rfl (fun {p e R s mth args below meth c0 H locs cells slots la Q} hx hb hml hown hts hnm hK hF hR hl hG kk => ?_)
    have k1 := kk H locs hG
    rw [List.map_cons, jref (by decide)] at k1
    exact va_gets hx hb (hX.2.2.2.2.2.2.1 s hF) hG.2.2 hown (hts _ (jwi_ok hr)) (fun x h => h) hd k1
  case getfield i => 
    simp only [jres, Bool.and_eq_true, decide_eq_true_eq] at hr
    exact jxGet_ok h hP (fun x r hk => jr_get hX hk hr.1 hr.2.1 (jwi_ok hr.2.2) hd)
  case putfield i => 
    simp only [jres, Bool.and_eq_true, decide_eq_true_eq] at hr
    obtain ⟨g1, g2, g3, g4, g5⟩ := hr
    refine jxPut_ok h hP (fun ht x a r hk => ?_) (fun ht x a r hk hx01 => ?_) (fun ht x a r hk => ?_) (fun ht x a r hk => ?_)
    · exact jr_putI hX hk g1 g2 (jwi_ok g3) g4 hd (by rw [ht]; decide) (by rw [jtc_0 ht]; rfl) (by rw [jtc_0 ht]; rfl)
    · have hb := g5 ht
      exact jr_putI hX hk g1 g2 (jwi_ok g3) g4 hd (by rw [ht]; decide) (by rw [hb]; rcases hx01 with rfl | rfl <;> rfl) (by rw [hb]; rcases hx01 with rfl | rfl <;> rfl)
    · exact jr_putL hX hk g1 g2 (jwi_ok g3) g4 hd ht
    · exact jr_putP hX hk g1 g2 (jwi_ok g3) g4 hd ht
  case iaload => exact jxAld_ok h hP (fun x y r hk hin => jr_ild hX hk (of_decide_eq_true hr) hin hd)
  case caload => exact jxAld_ok h hP (fun x y r hk hin => jr_cld hX hk hin hd)
  case baload => exact jxAld_ok h hP (fun x y r hk hin => jr_bld hX hk hin hd)
  case laload => exact jxLald_ok h hP (fun x y r hk hin => jr_lld hX hk hin hd)
  case aaload => exact jxQald_ok h hP (fun x y r hk hin => jr_qld hX hk (of_decide_eq_true hr) hin hd)
  case iastore => exact jxAst_ok h hP (fun x y z r hk hin => jr_iast hX hk hin hd)
  case castore => exact jxAst_ok h hP (fun x y z r hk hin => jr_ast hX (k := 3) _ (Or.inl ⟨rfl, rfl⟩) hk hin hd)
  case bastore => exact jxAst_ok h hP (fun x y z r hk hin => jr_ast hX (k := 4) _ (Or.inr ⟨rfl, rfl⟩) hk hin hd)
  case lastore => exact jxLast_ok h hP (fun x y z r hk hin => jr_last hX hk hin hd)
  case aastore => exact jxQast_ok h hP (fun x y z r hk hin hz => jr_qast hX hk (of_decide_eq_true hr) hin hz hd)
  case arraylength => exact jxLen_ok h hP (fun x r hk => jr_len hX hk (of_decide_eq_true hr) hd)
  case new i => 
    simp only [jres, Bool.and_eq_true, decide_eq_true_eq] at hr
    obtain ⟨g1, g2, g3, g4⟩ := hr
    replace h : some ((none : Option Prop), ls, .inr (.inr (32 + jN m)) :: st, jnew m (32 + r1) 0 (jnf r1)) = some (P, ls', st', m2) := h
    cases h
    exact jr_new hX g1 (jwi_ok g2) (jwi_ok g3) (List.mem_filter.mpr ⟨jinit_ok g4, rfl⟩) hd
  case newarray t => 
    simp only [jres, Bool.and_eq_true, decide_eq_true_eq] at hr
    obtain ⟨g1, g2, g3⟩ := hr
    exact jxNewa_ok h hP (fun x r h0 h1 => jr_newa hX g1 g2 (jwi_ok g3) h0 h1 hd)
  case anewarray i => 
    simp only [jres, Bool.and_eq_true, decide_eq_true_eq] at hr
    obtain ⟨g1, g2, g3⟩ := hr
    exact jxNewa_ok h hP (fun x r h0 h1 => jr_newq hX g1 (jwi_ok g2) g3 h0 h1 hd)
  all_goals cases (show (none : jRs) = some (P, ls', st', m2) from h)
/-- instructions one behind another, from pc on, to pc' -/
def jcodes (M : jM) : Nat → List jOp → Nat → Bool
  | pc, [], pc' => decide (pc = pc')
  | pc, o :: os, pc' => decide (decode M.2.2.1 pc = .ok (o.1, jil o.1)) && (jres M pc o && jcodes M (jnext pc o) os pc')
theorem jxs_ok {X : jX} {l : Launch} {d : Nat} {M : jM} {m0 m' : jMe} (hX : jOk X) {pc' : Nat} : ∀ (os : List jOp) {pc : Nat} {c c' : jTr} {P : Prop}, jcodes M pc os pc' = true → jxs os c = some (P, c') → P → jSt X l d M m0 m' (pc, c) (pc', c') := by
  intro os
  induction os with
  | nil =>
    intro pc c c' P hc h hP
    have e : pc = pc' := of_decide_eq_true hc
    subst e
    cases h
    exact jSt.refl _
  | cons o os ih =>
    intro pc c c' P hc h hP
    simp only [jcodes, Bool.and_eq_true, decide_eq_true_eq] at hc
    obtain ⟨h1, h2, h3⟩ := hc
    unfold jxs at h
    split at h
    · cases h
    · rename_i p c1 e1
      split at h
      · cases h
      · rename_i q c2 e2
        cases h
        have hP2 : p.getD True ∧ q := by
          cases p with
          | none => exact ⟨trivial, hP⟩
          | some p => exact hP
        obtain ⟨ls, st, m⟩ := c
        obtain ⟨ls1, st1, m1⟩ := c1
        exact (jx1_ok hX e1 ⟨h1, h2⟩ hP2.1).trans (ih h3 e2 hP2.2)
theorem jS.adv {X : jX} {l : Launch} {d : Nat} {M : jM} {m0 m' : jMe} {r : Option jAV} (hX : jOk X) (os : List jOp) {pc pc' : Nat} {ls ls' : List (Nat × jAV)} {st st' : List jAV} {m m2 : jMe} {P : Prop} (hc : jcodes M pc os pc' = true) (h : jxs os (ls, st, m) = some (P, ls', st', m2)) (hP : P) (k : jS X l d M m0 r m' (pc', ls', st', m2)) : jS X l d M m0 r m' (pc, ls, st, m) :=
  jS.step (jxs_ok hX os hc h hP) k
section JNAT
variable {X : jX} {l : Launch} {d : Nat} {M : jM} {m0 m' : jMe} {pc : Nat} {ls : List (Nat × jAV)} {rest : List jAV} {m : jMe}
/-- Object.<init> -/
theorem jSt.obj {idx b : Nat} (hd : 1 ≤ d) (hb0 : b ≠ 0) (hlink : Cond.methodLink M.1 idx Lib.objectInit ∈ jW) (hinst : Cond.instanceMethod Lib.objectInit ∈ jW) (hcode : Cond.code Lib.objectInit ⟨#[0xb1]⟩ 1 none ∈ jW) (hr : (rest.map jcat).sum ≤ 8) (hdg : decode M.2.2.1 pc = .ok (.invokespecial idx, 3)) : jSt X l d M m0 m' (pc, ls, .inr (.inr b) :: rest, m) (pc + 3, ls, rest, m) := by
  refine ⟨⟨Nat.le_refl _, Nat.le_refl _⟩, fun q1 q2 p e R s mth args below meth c0 H locs la Q hC z1 z2 hl hG kk => ?_⟩
  obtain ⟨hx, hb, hml, hown, hts, hret, hlk, hnm, hK, hF, h0, hR1, hR2, hR3, hR4⟩ := hC
  dsimp only
  rw [List.map_cons, jref hb0]
  refine W.objInit hx hb hown (hts _ hlink) (hts _ hinst) (hts _ hcode) rfl (by rw [hml]; exact hl.1) rfl hdg (by omega) ?_ (W.eq rfl (kk la H locs hl hG))
  have h1 := lv_room (m := mth) (pc := pc) (ls := la) (rest := Value.ref (jad X b) :: rest.map (jv X)) (st := rest.map (jv X)) (by rw [jcat_sum]; exact hr)
  omega
/-- System.arraycopy of ints, of longs -/
theorem jSt.cpyI (hX : jOk X) {idx a b : Nat} {i j n : Int32} (hd : 1 ≤ d) (hlink : Cond.methodLink M.1 idx arraycopyName ∈ jW) (hnat : Cond.native arraycopyName ∈ jW) (hstat : Cond.static arraycopyName ∈ jW) (hini : Cond.initialized "java/lang/System" ∈ jW) (ha : jK m a = 1) (hb' : jK m b = 1) (h1 : ¬ i < 0) (h2 : ¬ j < 0) (h3 : ¬ n < 0) (h4 : i.toNatClampNeg + n.toNatClampNeg ≤ jZ m a) (h5 : j.toNatClampNeg + n.toNatClampNeg ≤ jZ m b) (hr : (rest.map jcat).sum ≤ 8) (hdg : decode M.2.2.1 pc = .ok (.invokestatic idx, 3)) :
    jSt X l d M m0 m' (pc, ls, .inl n :: .inl j :: .inr (.inr b) :: .inl i :: .inr (.inr a) :: rest, m) (pc + 3, ls, rest, jcpI m a i.toNatClampNeg b j.toNatClampNeg n.toNatClampNeg) := by
  refine ⟨⟨Nat.le_refl _, Nat.le_refl _⟩, fun q1 q2 p e R s mth args below meth c0 H locs la Q hC z1 z2 hl hG kk => ?_⟩
  obtain ⟨hx, hb, hml, hown, hts, hret, hlk, hnm, hK, hF, h0, hR1, hR2, hR3, hR4⟩ := hC
  obtain ⟨a1, a2, a3, a4⟩ := jkind hX hG.1 ha (by omega)
  obtain ⟨b1, b2, b3, b4⟩ := jkind hX hG.1 hb' (by omega)
  have hwa := jws_ref hX hG.1 ha (by omega)
  have hwb := jws_ref hX hG.1 hb' (by omega)
  rw [jcell_i ha (Or.inl rfl)] at hwa
  rw [jcell_i hb' (Or.inl rfl)] at hwb
  dsimp only
  rw [List.map_cons, List.map_cons, List.map_cons, List.map_cons, List.map_cons, jref a3, jref b3]
  refine va_copyi hx hb (hml.trans hl.1.symm) hown (hts _ hlink) (hts _ hnat) (hts _ hstat) (hts _ hini) hK hG.2.1 (jws_D hX.1) hG.2.2 (a - 32) (b - 32) 1 1 hwa hwb (jtys_at X (by omega)) (jtys_at X (by omega)) rfl h1 h2 h3 h4 h5 (fun k hk => rfl) (by omega) ?_ hdg (fun H1 locs1 hP1 hD1 hS1 => ?_)
  · rw [jcat_sum]
    have : nativeFrameWords "java/lang/System" "arraycopy" 5 ≤ 20 := by decide +kernel
    omega
  · refine kk la H1 locs1 hl ⟨hG.1.upd b1 rfl rfl rfl (fun c hc => jat_ne _ _ hc), ?_, hS1⟩
    rw [jws_set (X := X) (m := m) (m' := jcpI m a i.toNatClampNeg b j.toNatClampNeg n.toNatClampNeg) b1 rfl rfl rfl (fun c hc => jat_ne _ _ hc) (fun c hc => rfl) (fun c hc => rfl) ?_] at hP1
    · exact hP1
    · have e : jI (jcpI m a i.toNatClampNeg b j.toNatClampNeg n.toNatClampNeg) b = va_cpy (jI m a) (jI m b) i.toNatClampNeg j.toNatClampNeg n.toNatClampNeg := jat_self _ _ _
      rw [jcell_i (m := jcpI m a i.toNatClampNeg b j.toNatClampNeg n.toNatClampNeg) (k := 1) hb' (Or.inl rfl), e]
      rfl
theorem jSt.cpyL (hX : jOk X) {idx a b : Nat} {i j n : Int32} (hd : 1 ≤ d) (hlink : Cond.methodLink M.1 idx arraycopyName ∈ jW) (hnat : Cond.native arraycopyName ∈ jW) (hstat : Cond.static arraycopyName ∈ jW) (hini : Cond.initialized "java/lang/System" ∈ jW) (ha : jK m a = 2) (hb' : jK m b = 2) (h1 : ¬ i < 0) (h2 : ¬ j < 0) (h3 : ¬ n < 0) (h4 : i.toNatClampNeg + n.toNatClampNeg ≤ jZ m a) (h5 : j.toNatClampNeg + n.toNatClampNeg ≤ jZ m b) (hr : (rest.map jcat).sum ≤ 8) (hdg : decode M.2.2.1 pc = .ok (.invokestatic idx, 3)) :
    jSt X l d M m0 m' (pc, ls, .inl n :: .inl j :: .inr (.inr b) :: .inl i :: .inr (.inr a) :: rest, m) (pc + 3, ls, rest, jcpL m a i.toNatClampNeg b j.toNatClampNeg n.toNatClampNeg) := by
  refine ⟨⟨Nat.le_refl _, Nat.le_refl _⟩, fun q1 q2 p e R s mth args below meth c0 H locs la Q hC z1 z2 hl hG kk => ?_⟩
  obtain ⟨hx, hb, hml, hown, hts, hret, hlk, hnm, hK, hF, h0, hR1, hR2, hR3, hR4⟩ := hC
  obtain ⟨a1, a2, a3, a4⟩ := jkind hX hG.1 ha (by omega)
  obtain ⟨b1, b2, b3, b4⟩ := jkind hX hG.1 hb' (by omega)
  have hwa := jws_ref hX hG.1 ha (by omega)
  have hwb := jws_ref hX hG.1 hb' (by omega)
  rw [jcell_l ha] at hwa
  rw [jcell_l hb'] at hwb
  dsimp only
  rw [List.map_cons, List.map_cons, List.map_cons, List.map_cons, List.map_cons, jref a3, jref b3]
  refine va_copyl hx hb (hml.trans hl.1.symm) hown (hts _ hlink) (hts _ hnat) (hts _ hstat) (hts _ hini) hK hG.2.1 (jws_D hX.1) hG.2.2 (a - 32) (b - 32) 2 2 hwa hwb (jtys_at X (by omega)) (jtys_at X (by omega)) rfl h1 h2 h3 h4 h5 (fun k hk => rfl) (by omega) ?_ hdg (fun H1 locs1 hP1 hD1 hS1 => ?_)
  · rw [jcat_sum]
    have : nativeFrameWords "java/lang/System" "arraycopy" 5 ≤ 20 := by decide +kernel
    omega
  · refine kk la H1 locs1 hl ⟨hG.1.upd b1 rfl rfl rfl (fun c hc => rfl), ?_, hS1⟩
    rw [jws_set (X := X) (m := m) (m' := jcpL m a i.toNatClampNeg b j.toNatClampNeg n.toNatClampNeg) b1 rfl rfl rfl (fun c hc => rfl) (fun c hc => jat_ne _ _ hc) (fun c hc => rfl) ?_] at hP1
    · exact hP1
    · have e : jL (jcpL m a i.toNatClampNeg b j.toNatClampNeg n.toNatClampNeg) b = va_cpy (jL m a) (jL m b) i.toNatClampNeg j.toNatClampNeg n.toNatClampNeg := jat_self _ _ _
      rw [jcell_l (m := jcpL m a i.toNatClampNeg b j.toNatClampNeg n.toNatClampNeg) hb', e]
      rfl
end JNAT
