/-- a step that leaves memory and locals, as the machine's rows have it -/
def jStk (X : jX) (l : Launch) (M : jM) (pc pc' : Nat) (ls : List (Nat × jAV)) (st st' : List jAV) : Prop := ∀ {p : Program} {e : Env} {R : Room} {s : State} {mth : MethodId} {args : Array Value} {below : List Frame} {meth : Method} {c0 : Code} {H : Heap} {locs : List Loc} {cells slots : Nat} {la : Array Slot} {Q : State → Prop}, p.tables.exec = Jvm.exec → c0.code = M.2.2.1 → s.vm.findClass M.1 = some mth.cls → (∀ w ∈ jW, w.before args s = true) → jFS X s → lv_has la M.2.2.2.1 (jlv X ls) →
    W p l e R s mth args below meth c0 H locs cells slots Q (F0 mth pc' la (st'.map (jv X))) → W p l e R s mth args below meth c0 H locs cells slots Q (F0 mth pc la (st.map (jv X)))
section JX
variable {X : jX} {l : Launch} {d : Nat} {M : jM} {m0 m' : jMe} {pc pc' : Nat} {ls ls' : List (Nat × jAV)} {st st' : List jAV} {m m2 : jMe} {P : Option Prop}
theorem jSt.stk' (h : jStk X l M pc pc' ls st st') : jSt X l d M m0 m' (pc, ls, st, m) (pc', ls, st', m) := jSt.stk h
theorem jxII_ok {f : Int32 → Int32 → Int32} (h : jxII f (ls, st, m) = some (P, ls', st', m2)) (row : ∀ x y r, jStk X l M pc pc' ls (.inl y :: .inl x :: r) (.inl (f x y) :: r)) : jSt X l d M m0 m' (pc, ls, st, m) (pc', ls', st', m2) := by
  rcases st with _ | ⟨y | y | y, _ | ⟨x | x | x, st⟩⟩ <;> first | (cases (show (none : jRs) = some (P, ls', st', m2) from h)) | skip
  replace h : some ((none : Option Prop), ls, .inl (f x y) :: st, m) = some (P, ls', st', m2) := h
  cases h
  exact jSt.stk (row x y _)
theorem jxIId_ok {f : Int32 → Int32 → Int32} (h : jxIId f (ls, st, m) = some (P, ls', st', m2)) (hP : P.getD True) (row : ∀ x y r, (¬ y = 0) → jStk X l M pc pc' ls (.inl y :: .inl x :: r) (.inl (f x y) :: r)) : jSt X l d M m0 m' (pc, ls, st, m) (pc', ls', st', m2) := by
  rcases st with _ | ⟨y | y | y, _ | ⟨x | x | x, st⟩⟩ <;> first | (cases (show (none : jRs) = some (P, ls', st', m2) from h)) | skip
  replace h : some ((some (¬ y = 0) : Option Prop), ls, .inl (f x y) :: st, m) = some (P, ls', st', m2) := h
  cases h
  exact jSt.stk (row x y _ hP)
theorem jxLL_ok {f : Int64 → Int64 → Int64} (h : jxLL f (ls, st, m) = some (P, ls', st', m2)) (row : ∀ x y r, jStk X l M pc pc' ls (.inr (.inl y) :: .inr (.inl x) :: r) (.inr (.inl (f x y)) :: r)) : jSt X l d M m0 m' (pc, ls, st, m) (pc', ls', st', m2) := by
  rcases st with _ | ⟨y | y | y, _ | ⟨x | x | x, st⟩⟩ <;> first | (cases (show (none : jRs) = some (P, ls', st', m2) from h)) | skip
  replace h : some ((none : Option Prop), ls, .inr (.inl (f x y)) :: st, m) = some (P, ls', st', m2) := h
  cases h
  exact jSt.stk (row x y _)
theorem jxLLd_ok {f : Int64 → Int64 → Int64} (h : jxLLd f (ls, st, m) = some (P, ls', st', m2)) (hP : P.getD True) (row : ∀ x y r, (¬ y = 0) → jStk X l M pc pc' ls (.inr (.inl y) :: .inr (.inl x) :: r) (.inr (.inl (f x y)) :: r)) : jSt X l d M m0 m' (pc, ls, st, m) (pc', ls', st', m2) := by
  rcases st with _ | ⟨y | y | y, _ | ⟨x | x | x, st⟩⟩ <;> first | (cases (show (none : jRs) = some (P, ls', st', m2) from h)) | skip
  replace h : some ((some (¬ y = 0) : Option Prop), ls, .inr (.inl (f x y)) :: st, m) = some (P, ls', st', m2) := h
  cases h
  exact jSt.stk (row x y _ hP)
theorem jxLI_ok {f : Int64 → Int32 → Int64} (h : jxLI f (ls, st, m) = some (P, ls', st', m2)) (row : ∀ x y r, jStk X l M pc pc' ls (.inl y :: .inr (.inl x) :: r) (.inr (.inl (f x y)) :: r)) : jSt X l d M m0 m' (pc, ls, st, m) (pc', ls', st', m2) := by
  rcases st with _ | ⟨y | y | y, _ | ⟨x | x | x, st⟩⟩ <;> first | (cases (show (none : jRs) = some (P, ls', st', m2) from h)) | skip
  replace h : some ((none : Option Prop), ls, .inr (.inl (f x y)) :: st, m) = some (P, ls', st', m2) := h
  cases h
  exact jSt.stk (row x y _)
theorem jxCmp_ok  (h : jxCmp (ls, st, m) = some (P, ls', st', m2)) (row : ∀ x y r, jStk X l M pc pc' ls (.inr (.inl y) :: .inr (.inl x) :: r) (.inl (lg_cmp x y) :: r)) : jSt X l d M m0 m' (pc, ls, st, m) (pc', ls', st', m2) := by
  rcases st with _ | ⟨y | y | y, _ | ⟨x | x | x, st⟩⟩ <;> first | (cases (show (none : jRs) = some (P, ls', st', m2) from h)) | skip
  replace h : some ((none : Option Prop), ls, .inl (lg_cmp x y) :: st, m) = some (P, ls', st', m2) := h
  cases h
  exact jSt.stk (row x y _)
theorem jxUI_ok {f : Int32 → jAV} (h : jxUI f (ls, st, m) = some (P, ls', st', m2)) (row : ∀ x r, jStk X l M pc pc' ls (.inl x :: r) (f x :: r)) : jSt X l d M m0 m' (pc, ls, st, m) (pc', ls', st', m2) := by
  rcases st with _ | ⟨x | x | x, st⟩ <;> first | (cases (show (none : jRs) = some (P, ls', st', m2) from h)) | skip
  replace h : some ((none : Option Prop), ls, f x :: st, m) = some (P, ls', st', m2) := h
  cases h
  exact jSt.stk (row x _)
theorem jxUL_ok {f : Int64 → jAV} (h : jxUL f (ls, st, m) = some (P, ls', st', m2)) (row : ∀ x r, jStk X l M pc pc' ls (.inr (.inl x) :: r) (f x :: r)) : jSt X l d M m0 m' (pc, ls, st, m) (pc', ls', st', m2) := by
  rcases st with _ | ⟨x | x | x, st⟩ <;> first | (cases (show (none : jRs) = some (P, ls', st', m2) from h)) | skip
  replace h : some ((none : Option Prop), ls, f x :: st, m) = some (P, ls', st', m2) := h
  cases h
  exact jSt.stk (row x _)
theorem jxP_ok {v : jAV} (h : jxP v (ls, st, m) = some (P, ls', st', m2)) (row : jStk X l M pc pc' ls st (v :: st)) : jSt X l d M m0 m' (pc, ls, st, m) (pc', ls', st', m2) := by
  replace h : some ((none : Option Prop), ls, v :: st, m) = some (P, ls', st', m2) := h
  cases h
  exact jSt.stk row
theorem jxLi_ok {k : Nat} (h : jxLi k (ls, st, m) = some (P, ls', st', m2)) (row : ∀ x, jget ls k = some (.inl x) → jStk X l M pc pc' ls st (.inl x :: st)) : jSt X l d M m0 m' (pc, ls, st, m) (pc', ls', st', m2) := by
  unfold jxLi at h
  rcases hg : jget ls k with _ | (x | x | x) <;> (dsimp only at h; rw [hg] at h) <;> first | (cases (show (none : jRs) = some (P, ls', st', m2) from h)) | skip
  replace h : some ((none : Option Prop), ls, .inl x :: st, m) = some (P, ls', st', m2) := h
  cases h
  exact jSt.stk (row x hg)
theorem jxLl_ok {k : Nat} (h : jxLl k (ls, st, m) = some (P, ls', st', m2)) (row : ∀ x, jget ls k = some (.inr (.inl x)) → jStk X l M pc pc' ls st (.inr (.inl x) :: st)) : jSt X l d M m0 m' (pc, ls, st, m) (pc', ls', st', m2) := by
  unfold jxLl at h
  rcases hg : jget ls k with _ | (x | x | x) <;> (dsimp only at h; rw [hg] at h) <;> first | (cases (show (none : jRs) = some (P, ls', st', m2) from h)) | skip
  replace h : some ((none : Option Prop), ls, .inr (.inl x) :: st, m) = some (P, ls', st', m2) := h
  cases h
  exact jSt.stk (row x hg)
theorem jxLa_ok {k : Nat} (h : jxLa k (ls, st, m) = some (P, ls', st', m2)) (row : ∀ x, jget ls k = some (.inr (.inr x)) → jStk X l M pc pc' ls st (.inr (.inr x) :: st)) : jSt X l d M m0 m' (pc, ls, st, m) (pc', ls', st', m2) := by
  unfold jxLa at h
  rcases hg : jget ls k with _ | (x | x | x) <;> (dsimp only at h; rw [hg] at h) <;> first | (cases (show (none : jRs) = some (P, ls', st', m2) from h)) | skip
  replace h : some ((none : Option Prop), ls, .inr (.inr x) :: st, m) = some (P, ls', st', m2) := h
  cases h
  exact jSt.stk (row x hg)
theorem jxSi_ok {k : Nat} (h : jxSi k (ls, st, m) = some (P, ls', st', m2)) (row : ∀ x r, jSt X l d M m0 m' (pc, ls, .inl x :: r, m) (pc', jput1 k (.inl x) ls, r, m)) : jSt X l d M m0 m' (pc, ls, st, m) (pc', ls', st', m2) := by
  rcases st with _ | ⟨x | x | x, st⟩ <;> first | (cases (show (none : jRs) = some (P, ls', st', m2) from h)) | skip
  replace h : some ((none : Option Prop), jput1 k (.inl x) ls, st, m) = some (P, ls', st', m2) := h
  cases h
  exact row x _
theorem jxSa_ok {k : Nat} (h : jxSa k (ls, st, m) = some (P, ls', st', m2)) (row : ∀ x r, jSt X l d M m0 m' (pc, ls, .inr (.inr x) :: r, m) (pc', jput1 k (.inr (.inr x)) ls, r, m)) : jSt X l d M m0 m' (pc, ls, st, m) (pc', ls', st', m2) := by
  rcases st with _ | ⟨x | x | x, st⟩ <;> first | (cases (show (none : jRs) = some (P, ls', st', m2) from h)) | skip
  replace h : some ((none : Option Prop), jput1 k (.inr (.inr x)) ls, st, m) = some (P, ls', st', m2) := h
  cases h
  exact row x _
theorem jxSl_ok {k : Nat} (h : jxSl k (ls, st, m) = some (P, ls', st', m2)) (row : ∀ x r, jSt X l d M m0 m' (pc, ls, .inr (.inl x) :: r, m) (pc', jput2 k (.inr (.inl x)) ls, r, m)) : jSt X l d M m0 m' (pc, ls, st, m) (pc', ls', st', m2) := by
  rcases st with _ | ⟨x | x | x, st⟩ <;> first | (cases (show (none : jRs) = some (P, ls', st', m2) from h)) | skip
  replace h : some ((none : Option Prop), jput2 k (.inr (.inl x)) ls, st, m) = some (P, ls', st', m2) := h
  cases h
  exact row x _
theorem jxInc_ok {k : Nat} {v : Int32} (h : jxInc k v (ls, st, m) = some (P, ls', st', m2)) (row : ∀ x, jget ls k = some (.inl x) → jSt X l d M m0 m' (pc, ls, st, m) (pc', jput1 k (.inl (x + v)) ls, st, m)) : jSt X l d M m0 m' (pc, ls, st, m) (pc', ls', st', m2) := by
  unfold jxInc at h
  rcases hg : jget ls k with _ | (x | x | x) <;> (dsimp only at h; rw [hg] at h) <;> first | (cases (show (none : jRs) = some (P, ls', st', m2) from h)) | skip
  replace h : some ((none : Option Prop), jput1 k (.inl (x + v)) ls, st, m) = some (P, ls', st', m2) := h
  cases h
  exact row x hg
theorem jxDup_ok  (h : jxDup (ls, st, m) = some (P, ls', st', m2)) (row : ∀ x r, jcat x = 1 → jStk X l M pc pc' ls (x :: r) (x :: x :: r)) : jSt X l d M m0 m' (pc, ls, st, m) (pc', ls', st', m2) := by
  rcases st with _ | ⟨x | x | x, st⟩ <;> first | (cases (show (none : jRs) = some (P, ls', st', m2) from h)) | skip
  · replace h : some ((none : Option Prop), ls, .inl x :: .inl x :: st, m) = some (P, ls', st', m2) := h
    cases h
    exact jSt.stk (row (.inl x) _ rfl)
  · replace h : some ((none : Option Prop), ls, .inr (.inr x) :: .inr (.inr x) :: st, m) = some (P, ls', st', m2) := h
    cases h
    exact jSt.stk (row (.inr (.inr x)) _ rfl)
theorem jxPop_ok  (h : jxPop (ls, st, m) = some (P, ls', st', m2)) (row : ∀ x r, jcat x = 1 → jStk X l M pc pc' ls (x :: r) r) : jSt X l d M m0 m' (pc, ls, st, m) (pc', ls', st', m2) := by
  rcases st with _ | ⟨x | x | x, st⟩ <;> first | (cases (show (none : jRs) = some (P, ls', st', m2) from h)) | skip
  · replace h : some ((none : Option Prop), ls, st, m) = some (P, ls', st', m2) := h
    cases h
    exact jSt.stk (row (.inl x) _ rfl)
  · replace h : some ((none : Option Prop), ls, st, m) = some (P, ls', st', m2) := h
    cases h
    exact jSt.stk (row (.inr (.inr x)) _ rfl)
theorem jxPop2_ok  (h : jxPop2 (ls, st, m) = some (P, ls', st', m2)) (row : ∀ x r, jStk X l M pc pc' ls (.inr (.inl x) :: r) r) : jSt X l d M m0 m' (pc, ls, st, m) (pc', ls', st', m2) := by
  rcases st with _ | ⟨x | x | x, st⟩ <;> first | (cases (show (none : jRs) = some (P, ls', st', m2) from h)) | skip
  replace h : some ((none : Option Prop), ls, st, m) = some (P, ls', st', m2) := h
  cases h
  exact jSt.stk (row x _)
theorem jxDup2_ok  (h : jxDup2 (ls, st, m) = some (P, ls', st', m2)) (row : ∀ x y r, jStk X l M pc pc' ls (.inl y :: .inr (.inr x) :: r) (.inl y :: .inr (.inr x) :: .inl y :: .inr (.inr x) :: r)) : jSt X l d M m0 m' (pc, ls, st, m) (pc', ls', st', m2) := by
  rcases st with _ | ⟨y | y | y, _ | ⟨x | x | x, st⟩⟩ <;> first | (cases (show (none : jRs) = some (P, ls', st', m2) from h)) | skip
  replace h : some ((none : Option Prop), ls, .inl y :: .inr (.inr x) :: .inl y :: .inr (.inr x) :: st, m) = some (P, ls', st', m2) := h
  cases h
  exact jSt.stk (row x y _)
theorem jxGet_ok {c k : Nat} (h : jxGet c k (ls, st, m) = some (P, ls', st', m2)) (hP : P.getD True) (row : ∀ x r, jK m x = 32 + c → jSt X l d M m0 m' (pc, ls, .inr (.inr x) :: r, m) (pc', ls, jpushf m x k (jtc (jty c k)) :: r, m)) : jSt X l d M m0 m' (pc, ls, st, m) (pc', ls', st', m2) := by
  rcases st with _ | ⟨x | x | x, st⟩ <;> first | (cases (show (none : jRs) = some (P, ls', st', m2) from h)) | skip
  replace h : some (some (jK m x = 32 + c), ls, jpushf m x k (jtc (jty c k)) :: st, m) = some (P, ls', st', m2) := h
  cases h
  exact row x _ hP
theorem jxPut_ok {c k t : Nat} (h : jxPut c k t (ls, st, m) = some (P, ls', st', m2)) (hP : P.getD True) (row0 : t = 0 → ∀ x a r, jK m a = 32 + c → jSt X l d M m0 m' (pc, ls, .inl x :: .inr (.inr a) :: r, m) (pc', ls, r, jsI m a k x)) (row3 : t = 3 → ∀ x a r, jK m a = 32 + c → (x = 0 ∨ x = 1) → jSt X l d M m0 m' (pc, ls, .inl x :: .inr (.inr a) :: r, m) (pc', ls, r, jsI m a k x))
    (row1 : t = 1 → ∀ x a r, jK m a = 32 + c → jSt X l d M m0 m' (pc, ls, .inr (.inl x) :: .inr (.inr a) :: r, m) (pc', ls, r, jsL m a k x)) (row2 : t = 2 → ∀ x a r, jK m a = 32 + c → jSt X l d M m0 m' (pc, ls, .inr (.inr x) :: .inr (.inr a) :: r, m) (pc', ls, r, jsP m a k x)) : jSt X l d M m0 m' (pc, ls, st, m) (pc', ls', st', m2) := by
  rcases st with _ | ⟨y | y | y, _ | ⟨x | x | x, st⟩⟩ <;> first | (cases (show (none : jRs) = some (P, ls', st', m2) from h)) | skip
  · replace h : (if t = 0 then some (some (jK m x = 32 + c), ls, st, jsI m x k y) else if t = 3 then some (some (jK m x = 32 + c ∧ (y = 0 ∨ y = 1)), ls, st, jsI m x k y) else none) = some (P, ls', st', m2) := h
    split at h
    · cases h
      exact row0 ‹_› y x _ hP
    · split at h
      · cases h
        exact row3 ‹_› y x _ hP.1 hP.2
      · cases h
  · replace h : (if t = 1 then some (some (jK m x = 32 + c), ls, st, jsL m x k y) else none) = some (P, ls', st', m2) := h
    split at h
    · cases h
      exact row1 ‹_› y x _ hP
    · cases h
  · replace h : (if t = 2 then some (some (jK m x = 32 + c), ls, st, jsP m x k y) else none) = some (P, ls', st', m2) := h
    split at h
    · cases h
      exact row2 ‹_› y x _ hP
    · cases h
theorem jxAld_ok {k : Nat} (h : jxAld k (ls, st, m) = some (P, ls', st', m2)) (hP : P.getD True) (row : ∀ x y r, jK m x = k → vp_in y (jZ m x) → jSt X l d M m0 m' (pc, ls, .inl y :: .inr (.inr x) :: r, m) (pc', ls, .inl (jI m x y.toNatClampNeg) :: r, m)) : jSt X l d M m0 m' (pc, ls, st, m) (pc', ls', st', m2) := by
  rcases st with _ | ⟨y | y | y, _ | ⟨x | x | x, st⟩⟩ <;> first | (cases (show (none : jRs) = some (P, ls', st', m2) from h)) | skip
  replace h : some (some (jK m x = k ∧ vp_in y (jZ m x)), ls, .inl (jI m x y.toNatClampNeg) :: st, m) = some (P, ls', st', m2) := h
  cases h
  exact row x y _ hP.1 hP.2
theorem jxLald_ok  (h : jxLald (ls, st, m) = some (P, ls', st', m2)) (hP : P.getD True) (row : ∀ x y r, jK m x = 2 → vp_in y (jZ m x) → jSt X l d M m0 m' (pc, ls, .inl y :: .inr (.inr x) :: r, m) (pc', ls, .inr (.inl (jL m x y.toNatClampNeg)) :: r, m)) : jSt X l d M m0 m' (pc, ls, st, m) (pc', ls', st', m2) := by
  rcases st with _ | ⟨y | y | y, _ | ⟨x | x | x, st⟩⟩ <;> first | (cases (show (none : jRs) = some (P, ls', st', m2) from h)) | skip
  replace h : some (some (jK m x = 2 ∧ vp_in y (jZ m x)), ls, .inr (.inl (jL m x y.toNatClampNeg)) :: st, m) = some (P, ls', st', m2) := h
  cases h
  exact row x y _ hP.1 hP.2
theorem jxQald_ok {k : Nat} (h : jxQald k (ls, st, m) = some (P, ls', st', m2)) (hP : P.getD True) (row : ∀ x y r, jK m x = k → vp_in y (jZ m x) → jSt X l d M m0 m' (pc, ls, .inl y :: .inr (.inr x) :: r, m) (pc', ls, .inr (.inr (jP m x y.toNatClampNeg)) :: r, m)) : jSt X l d M m0 m' (pc, ls, st, m) (pc', ls', st', m2) := by
  rcases st with _ | ⟨y | y | y, _ | ⟨x | x | x, st⟩⟩ <;> first | (cases (show (none : jRs) = some (P, ls', st', m2) from h)) | skip
  replace h : some (some (jK m x = k ∧ vp_in y (jZ m x)), ls, .inr (.inr (jP m x y.toNatClampNeg)) :: st, m) = some (P, ls', st', m2) := h
  cases h
  exact row x y _ hP.1 hP.2
theorem jxAst_ok {k : Nat} {f : Int32 → Int32} (h : jxAst k f (ls, st, m) = some (P, ls', st', m2)) (hP : P.getD True) (row : ∀ x y z r, jK m x = k → vp_in y (jZ m x) → jSt X l d M m0 m' (pc, ls, .inl z :: .inl y :: .inr (.inr x) :: r, m) (pc', ls, r, jsI m x y.toNatClampNeg (f z))) : jSt X l d M m0 m' (pc, ls, st, m) (pc', ls', st', m2) := by
  rcases st with _ | ⟨z | z | z, _ | ⟨y | y | y, _ | ⟨x | x | x, st⟩⟩⟩ <;> first | (cases (show (none : jRs) = some (P, ls', st', m2) from h)) | skip
  replace h : some (some (jK m x = k ∧ vp_in y (jZ m x)), ls, st, jsI m x y.toNatClampNeg (f z)) = some (P, ls', st', m2) := h
  cases h
  exact row x y z _ hP.1 hP.2
theorem jxLast_ok  (h : jxLast (ls, st, m) = some (P, ls', st', m2)) (hP : P.getD True) (row : ∀ x y z r, jK m x = 2 → vp_in y (jZ m x) → jSt X l d M m0 m' (pc, ls, .inr (.inl z) :: .inl y :: .inr (.inr x) :: r, m) (pc', ls, r, jsL m x y.toNatClampNeg z)) : jSt X l d M m0 m' (pc, ls, st, m) (pc', ls', st', m2) := by
  rcases st with _ | ⟨z | z | z, _ | ⟨y | y | y, _ | ⟨x | x | x, st⟩⟩⟩ <;> first | (cases (show (none : jRs) = some (P, ls', st', m2) from h)) | skip
  replace h : some (some (jK m x = 2 ∧ vp_in y (jZ m x)), ls, st, jsL m x y.toNatClampNeg z) = some (P, ls', st', m2) := h
  cases h
  exact row x y z _ hP.1 hP.2
theorem jxQast_ok {k c : Nat} (h : jxQast k c (ls, st, m) = some (P, ls', st', m2)) (hP : P.getD True) (row : ∀ x y z r, jK m x = k → vp_in y (jZ m x) → jK m z = 32 + c → jSt X l d M m0 m' (pc, ls, .inr (.inr z) :: .inl y :: .inr (.inr x) :: r, m) (pc', ls, r, jsP m x y.toNatClampNeg z)) : jSt X l d M m0 m' (pc, ls, st, m) (pc', ls', st', m2) := by
  rcases st with _ | ⟨z | z | z, _ | ⟨y | y | y, _ | ⟨x | x | x, st⟩⟩⟩ <;> first | (cases (show (none : jRs) = some (P, ls', st', m2) from h)) | skip
  replace h : some (some (jK m x = k ∧ vp_in y (jZ m x) ∧ jK m z = 32 + c), ls, st, jsP m x y.toNatClampNeg z) = some (P, ls', st', m2) := h
  cases h
  exact row x y z _ hP.1 hP.2.1 hP.2.2
theorem jxLen_ok {k : Nat} (h : jxLen k (ls, st, m) = some (P, ls', st', m2)) (hP : P.getD True) (row : ∀ x r, jK m x = k → jSt X l d M m0 m' (pc, ls, .inr (.inr x) :: r, m) (pc', ls, .inl (Int32.ofNat (jZ m x)) :: r, m)) : jSt X l d M m0 m' (pc, ls, st, m) (pc', ls', st', m2) := by
  rcases st with _ | ⟨x | x | x, st⟩ <;> first | (cases (show (none : jRs) = some (P, ls', st', m2) from h)) | skip
  replace h : some (some (jK m x = k), ls, .inl (Int32.ofNat (jZ m x)) :: st, m) = some (P, ls', st', m2) := h
  cases h
  exact row x _ hP
theorem jxNewa_ok {k : Nat} (h : jxNewa k (ls, st, m) = some (P, ls', st', m2)) (hP : P.getD True) (row : ∀ x r, ¬ x < 0 → x.toNatClampNeg ≤ 10000 → jSt X l d M m0 m' (pc, ls, .inl x :: r, m) (pc', ls, .inr (.inr (32 + jN m)) :: r, jnew m k x.toNatClampNeg x.toNatClampNeg)) : jSt X l d M m0 m' (pc, ls, st, m) (pc', ls', st', m2) := by
  rcases st with _ | ⟨x | x | x, st⟩ <;> first | (cases (show (none : jRs) = some (P, ls', st', m2) from h)) | skip
  replace h : some (some (¬ x < 0 ∧ x.toNatClampNeg ≤ 10000), ls, .inr (.inr (32 + jN m)) :: st, jnew m k x.toNatClampNeg x.toNatClampNeg) = some (P, ls', st', m2) := h
  cases h
  exact row x _ hP.1 hP.2
end JX
section JR
variable {X : jX} {l : Launch} {d : Nat} {M : jM} {m0 m' : jMe} {pc pc' : Nat} {ls ls' : List (Nat × jAV)} {st st' : List jAV} {m m2 : jMe}
theorem jr_aload {k x : Nat} (hg : jget ls k = some (.inr (.inr x))) (hd : decode M.2.2.1 pc = .ok (.aload k, 2)) : jStk X l M pc (pc + 2) ls st (.inr (.inr x) :: st) := by
  intro p e R s mth args below meth c0 H locs cells slots la Q hx hb hown hts hF hl k
  by_cases q : x = 0
  · subst q
    exact lv_aloadN hx hb hd (jlv_at hl hg) k
  · have hg := jlv_at hl hg
    rw [jref q] at hg
    rw [List.map_cons, jref q] at k
    exact lv_aload hx hb hd hg k
theorem jr_aload_n {k : Fin 4} {x : Nat} (hg : jget ls k.val = some (.inr (.inr x))) (hd : decode M.2.2.1 pc = .ok (.aload_n k, 1)) : jStk X l M pc (pc + 1) ls st (.inr (.inr x) :: st) := by
  intro p e R s mth args below meth c0 H locs cells slots la Q hx hb hown hts hF hl k
  by_cases q : x = 0
  · subst q
    exact lv_aload_nN hx hb hd rfl (jlv_at hl hg) k
  · have hg := jlv_at hl hg
    rw [jref q] at hg
    rw [List.map_cons, jref q] at k
    exact lv_aload_n hx hb hd rfl hg k
theorem jr_astore {k x : Nat} {r : List jAV} (hr : k < M.2.2.2.1) (hd : decode M.2.2.1 pc = .ok (.astore k, 2)) : jSt X l d M m0 m' (pc, ls, .inr (.inr x) :: r, m) (pc + 2, jput1 k (.inr (.inr x)) ls, r, m) := by
  by_cases q : x = 0
  · subst q
    exact jSt.loc (fun hx hb hl kk => lv_astoreN hx hb hd hl hr (jlv_put1 X k (.inr (.inr 0)) ls) kk)
  · refine jSt.loc (fun hx hb hl kk => ?_)
    rw [List.map_cons, jref q]
    exact lv_astore hx hb hd hl hr (by rw [← jref q]; exact jlv_put1 X k _ ls) kk
theorem jr_astore_n {k : Fin 4} {x : Nat} {r : List jAV} (hr : k.val < M.2.2.2.1) (hd : decode M.2.2.1 pc = .ok (.astore_n k, 1)) : jSt X l d M m0 m' (pc, ls, .inr (.inr x) :: r, m) (pc + 1, jput1 k.val (.inr (.inr x)) ls, r, m) := by
  by_cases q : x = 0
  · subst q
    exact jSt.loc (fun hx hb hl kk => lv_astore_nN hx hb hd rfl hl hr (jlv_put1 X k.val (.inr (.inr 0)) ls) kk)
  · refine jSt.loc (fun hx hb hl kk => ?_)
    rw [List.map_cons, jref q]
    exact lv_astore_n hx hb hd rfl hl hr (by rw [← jref q]; exact jlv_put1 X k.val _ ls) kk
theorem jr_iinc {k : Nat} {n : Int} {x v : Int32} (hg : jget ls k = some (.inl x)) (hr : k < M.2.2.2.1) (hv : Int32.ofInt n = v) (hd : decode M.2.2.1 pc = .ok (.iinc k n, 3)) : jSt X l d M m0 m' (pc, ls, st, m) (pc + 3, jput1 k (.inl (x + v)) ls, st, m) := by
  obtain ⟨j, hj⟩ := List.getElem?_of_mem (List.mem_map.mpr ⟨(k, _), jget_mem hg, rfl⟩ : (k, jv X (.inl x)) ∈ jlv X ls)
  exact jSt.loc (fun hx hb hl kk => lv_iinc hx hb hd hl hj (by rw [hv]) hr (jlv_put1 X k (.inl (x + v)) ls) kk)
end JR
