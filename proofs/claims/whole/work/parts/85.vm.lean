/-! what steps tell: a part of a text, as the stack goes through it -/
def jzV (e : Int32 → Int32) (c : List Int32) (h : Nat) (v : Int32) : Prop := ∀ (l : List Int32) (f : Nat → Int32) (t : Nat), t + h ≤ 64 → ∃ f', jvm e (c ++ l) f t = jvm e l f' (t + 1) ∧ f' t = v ∧ ∀ i, i < t → f' i = f i
/-- .. a part that goes on from v -/
def jzVt (e : Int32 → Int32) (c : List Int32) (h : Nat) (v w : Int32) : Prop := ∀ (l : List Int32) (f : Nat → Int32) (t : Nat), t + h ≤ 64 → f t = v → ∃ f', jvm e (c ++ l) f (t + 1) = jvm e l f' (t + 1) ∧ f' t = w ∧ ∀ i, i < t → f' i = f i
section VM
variable {e : Int32 → Int32}
theorem jzV.mono {c : List Int32} {h h' : Nat} {v : Int32} (k : jzV e c h v) (hh : h ≤ h') : jzV e c h' v := fun l f t ht => k l f t (by omega)
theorem jand15 {n : Nat} (hn : n < 4294967296) : Int32.ofNat n &&& (15 : Int32) = Int32.ofNat (n % 16) := by
  apply jtn_inj
  rw [jtn_and, jtn_of hn, jtn_of (by omega), show (15 : Int32).toUInt32.toNat = 2 ^ 4 - 1 from rfl, Nat.and_two_pow_sub_one_eq_mod]
theorem jushr4 {n : Nat} (hn : n < 4294967296) : jushr (Int32.ofNat n) (4 : Int32) = Int32.ofNat (n / 16) := by
  apply jtn_inj
  rw [show (4 : Int32) = Int32.ofNat 4 from rfl, jushr_tn (by omega), jtn_of hn, jtn_of (by omega), Nat.shiftRight_eq_div_pow]
theorem jvm_cons {s : Int32} {l : List Int32} {f : Nat → Int32} {t : Nat} {q : (Nat → Int32) × Nat} (h : jvm1 e s f t = some q) : jvm e (s :: l) f t = jvm e l q.1 q.2 := by
  rw [jvm, h]
theorem jzV_num {w : Nat} (hw : w < 10000) : jzV e [Int32.ofNat (0 + 16 * w)] 1 (Int32.ofNat w) := by
  intro l f t ht
  have h0 : Int32.ofNat (0 + 16 * w) &&& (15 : Int32) = 0 := by
    rw [jand15 (by omega), show (0 + 16 * w) % 16 = 0 by omega]
    rfl
  refine ⟨jupd f t (Int32.ofNat w), ?_, jupd_e _ _ _, fun i hi => jupd_n (by omega)⟩
  rw [List.singleton_append]
  refine jvm_cons (q := (jupd f t (Int32.ofNat w), t + 1)) ?_
  unfold jvm1
  rw [if_pos h0, if_pos (by omega), jushr4 (by omega), show (0 + 16 * w) / 16 = w by omega]
theorem jzV_name {w : Nat} (hw : w < 10000) : jzV e [Int32.ofNat (1 + 16 * w)] 1 (e (Int32.ofNat w)) := by
  intro l f t ht
  have h0 : Int32.ofNat (1 + 16 * w) &&& (15 : Int32) = 1 := by
    rw [jand15 (by omega), show (1 + 16 * w) % 16 = 1 by omega]
    rfl
  refine ⟨jupd f t (e (Int32.ofNat w)), ?_, jupd_e _ _ _, fun i hi => jupd_n (by omega)⟩
  rw [List.singleton_append]
  refine jvm_cons (q := (jupd f t (e (Int32.ofNat w)), t + 1)) ?_
  unfold jvm1
  rw [h0, if_neg (by decide), if_pos rfl, if_pos (by omega), jushr4 (by omega), show (1 + 16 * w) / 16 = w by omega]
theorem jzV_neg {c : List Int32} {h : Nat} {v : Int32} (k : jzV e c h v) : jzV e (c ++ [2]) h (-v) := by
  intro l f t ht
  obtain ⟨f1, a1, a2, a3⟩ := k ((2 : Int32) :: l) f t ht
  refine ⟨jupd f1 t (-v), ?_, jupd_e _ _ _, fun i hi => by rw [jupd_n (by omega)]; exact a3 i hi⟩
  rw [List.append_assoc, List.singleton_append, a1]
  refine jvm_cons (q := (jupd f1 t (-v), t + 1)) ?_
  unfold jvm1
  rw [if_neg (by decide), if_neg (by decide), if_pos (by decide), if_pos (by omega), show t + 1 - 1 = t by omega, a2]
theorem jzV_not {c : List Int32} {h : Nat} {v : Int32} (k : jzV e c h v) : jzV e (c ++ [3]) h (jbi (decide (v = 0))) := by
  intro l f t ht
  obtain ⟨f1, a1, a2, a3⟩ := k ((3 : Int32) :: l) f t ht
  refine ⟨jupd f1 t (jbi (decide (v = 0))), ?_, jupd_e _ _ _, fun i hi => by rw [jupd_n (by omega)]; exact a3 i hi⟩
  rw [List.append_assoc, List.singleton_append, a1]
  refine jvm_cons (q := (jupd f1 t (jbi (decide (v = 0))), t + 1)) ?_
  unfold jvm1
  rw [if_neg (by decide), if_neg (by decide), if_neg (by decide), if_pos (by decide), if_pos (by omega), show t + 1 - 1 = t by omega, a2]
theorem jopm : ∀ o, o < 16 → 4 ≤ o → Int32.ofNat o &&& (15 : Int32) = Int32.ofNat o ∧ ¬ Int32.ofNat o = 0 ∧ ¬ Int32.ofNat o = 1 ∧ ¬ Int32.ofNat o = 2 ∧ ¬ Int32.ofNat o = 3 := by decide +kernel
theorem jzVt_nil {h : Nat} {v : Int32} : jzVt e [] h v v := fun l f t _ hf => ⟨f, rfl, hf, fun _ _ => rfl⟩
theorem jzVt_cons {c2 c3 : List Int32} {h h2 o : Nat} {v w u : Int32} (ho : 4 ≤ o ∧ o < 16) (k2 : jzV e c2 h2 w) (hh : h2 + 1 ≤ h) (k3 : jzVt e c3 h (jjn (Int32.ofNat o) v w) u) : jzVt e (c2 ++ Int32.ofNat o :: c3) h v u := by
  intro l f t ht hf
  obtain ⟨f1, a1, a2, a3⟩ := k2 (Int32.ofNat o :: (c3 ++ l)) f (t + 1) (by omega)
  obtain ⟨o1, o2, o3, o4, o5⟩ := jopm o ho.2 ho.1
  have hs : jvm1 e (Int32.ofNat o) f1 (t + 2) = some (jupd f1 t (jjn (Int32.ofNat o) v w), t + 1) := by
    unfold jvm1
    rw [o1, if_neg o2, if_neg o3, if_neg o4, if_neg o5, if_pos (by omega), show t + 2 - 2 = t by omega, show t + 2 - 1 = t + 1 by omega, a2, a3 t (by omega), hf]
  obtain ⟨f2, b1, b2, b3⟩ := k3 l (jupd f1 t (jjn (Int32.ofNat o) v w)) t ht (jupd_e _ _ _)
  refine ⟨f2, ?_, b2, fun i hi => ?_⟩
  · rw [List.append_assoc, List.cons_append, a1]
    have := jvm_cons (l := c3 ++ l) hs
    rw [show t + 1 + 1 = t + 2 by omega, this]
    exact b1
  · rw [b3 i hi, jupd_n (by omega)]
    exact a3 i (by omega)
theorem jzV_tail {c c' : List Int32} {h h' : Nat} {v w : Int32} (k : jzV e c h' v) (hh : h' ≤ h) (k2 : jzVt e c' h v w) : jzV e (c ++ c') h w := by
  intro l f t ht
  obtain ⟨f1, a1, a2, a3⟩ := k (c' ++ l) f t (by omega)
  obtain ⟨f2, b1, b2, b3⟩ := k2 l f1 t ht a2
  refine ⟨f2, ?_, b2, fun i hi => by rw [b3 i hi, a3 i hi]⟩
  rw [List.append_assoc, a1, b1]
theorem jzV_bin {c2 c : List Int32} {h h2 o : Nat} {v w : Int32} (ho : 4 ≤ o ∧ o < 16) (k : jzV e c h2 v) (k2 : jzV e c2 h2 w) (hh : h2 + 1 ≤ h) : jzV e (c ++ (c2 ++ [Int32.ofNat o])) h (jjn (Int32.ofNat o) v w) :=
  jzV_tail k (by omega) (jzVt_cons ho k2 hh jzVt_nil)
/-- a whole text's steps -/
theorem jzV_tell {c : List Int32} {h r k : Nat} {f : Nat → Int32} {cp v : Int32} (hh : h ≤ 64) (q : jzV (jenv r k f cp) c h v) : jtell c r k f cp = v := by
  obtain ⟨f1, a1, a2, -⟩ := q [] (fun _ => 0) 0 (by omega)
  unfold jtell
  rw [List.append_nil] at a1
  rw [a1]
  exact a2
end VM
