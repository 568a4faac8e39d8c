/-! ===== what must be looked at, row by row, so that the walk is right: by program ===== -/
def ka_h (i : Nat) (w : Cond) : Bool := decide (lw_tbl[i]? = some w) && (w.onTables && w.keepsFace)
def ka_hm (i : Nat) (w : Cond) : Bool := decide (lw_tbl[i]? = some w)
theorem ka_hm_mem {i : Nat} {w : Cond} (h : ka_hm i w = true) : w ∈ lw_tbl := List.mem_of_getElem? (of_decide_eq_true h)
/-- the callee's side of a call -/
def ka_ckm (m n : Nat) : Bool := ka_h (ka_ii m) (.initialized (ka_y m).cls) && decide ((ka_y m).cls ≠ "java/lang/invoke/MethodHandle") && decide ((ka_y m).cls ≠ "java/lang/invoke/VarHandle") && decide (ka_mx m ≤ 30) && decide (1 ≤ m) && decide (m < 283) && decide ((parseMethodDescriptor (ka_y m).desc).map (fun d => d.parameters.length) = some n)
def ka_ckf (o x ci f t : Nat) : Bool := decide (ci < 10) && decide (f < (ka_T ci).2.2) && ka_h (ka_wi o x) (.fieldLink (ka_on o) x ((ka_T ci).2.1 f).1 ((ka_T ci).2.1 f).2.1 ((ka_T ci).2.1 f).2.2.1) && decide ((t = 1 ∧ ka_ty ci f = .int) ∨ (t = 3 ∧ ka_ty ci f = .boolean) ∨ (t = 2 ∧ ka_isr (ka_ty ci f) = true))
def ka_cks (o x ci f t : Nat) : Bool := decide (ci = 20 ∧ f < 3 ∨ ci = 21 ∧ f < 2) && ka_h (ka_wi o x) (.fieldLink (ka_on o) x (ka_soF (if ci = 20 then 0 else 20) f).1 (ka_soF (if ci = 20 then 0 else 20) f).2.1 (ka_soF (if ci = 20 then 0 else 20) f).2.2) && decide (t = 2 ∧ ((ci = 20 ∧ f = 1) ∨ (ci = 21 ∧ f = 0)) ∨ t = 1 ∧ ¬ ((ci = 20 ∧ f = 1) ∨ (ci = 21 ∧ f = 0)))
/-- the class by which a receiver of kind ci is called -/
def ka_rc (ci : Nat) : String := if ci < 10 then (ka_T ci).1 else if ci = 20 then "KeptAnswers$Op" else "java/lang/String"
def ka_cki (o x : Nat) (q : List Nat) : Bool := match q with
  | [6, m, na, ci] => ka_ckm m na && decide (ka_hh m = []) && decide (ci < 10 ∨ ci = 21) && ka_h (ka_wi o x) (.methodLink (ka_on o) x (ka_y m)) && ka_h (ka_ik m) (.instanceMethod (ka_y m)) && ka_h (ka_is m) (.selects (ka_rc ci) (ka_y m) (ka_y m))
  | [7, m, na] => ka_ckm m na && decide (ka_hh m = []) && ka_h (ka_wi o x) (.methodLink (ka_on o) x (ka_y m)) && ka_h (ka_ik m) (.static (ka_y m))
  | [8, m, na] => ka_ckm m na && decide (ka_hh m = []) && (ka_h (ka_wi o x) (.methodLink (ka_on o) x (ka_y m)) || ka_hm (ka_wi o x) (.methodLinkNest (ka_on o) x (ka_y m) "KeptAnswers")) && ka_h (ka_ik m) (.instanceMethod (ka_y m)) && decide ((ka_y m).name = "<init>") && decide (ka_rty m = none)
  | [22, m, na, ci] => ka_ckm m na && decide (ka_hh m = []) && ka_h (ka_ik m) (.instanceMethod (ka_y m)) && ((decide (ci < 10) && ka_hm (ka_wi o x) (.methodLinkNest (ka_on o) x (ka_y m) "KeptAnswers") && ka_h (ka_is m) (.selects (ka_rc ci) (ka_y m) (ka_y m))) || (decide (ci = 20) && decide (ka_y m = ⟨"java/lang/Enum", "ordinal", "()I"⟩) && ka_h (ka_wi o x) (.methodLink (ka_on o) x ⟨"KeptAnswers$Op", "ordinal", "()I"⟩) && ka_h 1278 (.sameMethod "KeptAnswers$Op" "java/lang/Enum" "ordinal" "()I") && ka_h 1279 (.declares ⟨"java/lang/Enum", "ordinal", "()I"⟩) && ka_h 1280 (.selects "KeptAnswers$Op" ⟨"KeptAnswers$Op", "ordinal", "()I"⟩ (ka_y m))))
  | [23, m, na] => ka_ckm m na && ka_h (ka_wi o x) (.methodLink (ka_on o) x (ka_y m)) && ka_h (ka_ik m) (.static (ka_y m))
  | [9] => ka_h (ka_wi o x) (.methodLink (ka_on o) x Lib.objectInit)
  | [16] => ka_h (ka_wi o x) (.methodLink (ka_on o) x arraycopyName)
  | [17] => ka_h (ka_wi o x) (.methodLink (ka_on o) x ⟨"[I", "clone", "()Ljava/lang/Object;"⟩)
  | _ => true
/-- which instruction calls with which entry -/
def ka_ckt (i : Instr) (q : List Nat) : Bool := match i, q with
  | .invokevirtual _, 6 :: _ => true
  | .invokevirtual _, 22 :: _ => true
  | .invokevirtual _, 17 :: _ => true
  | .invokestatic _, 7 :: _ => true
  | .invokestatic _, 23 :: _ => true
  | .invokestatic _, 16 :: _ => true
  | .invokespecial _, 8 :: _ => true
  | .invokespecial _, 9 :: _ => true
  | _, [] => true
  | _, _ => false
def ka_exl : List (Nat × Nat) := [(0, 87), (1, 121), (2, 312), (3, 110)]
/-- 'throw new E("..")' from pc on -/
def ka_ckx (m o x e pc : Nat) : Bool := decide (o = 1) && decide (ka_hh m = []) && ka_h (ka_wi o x) (.classLink (ka_on o) x (ka_en e)) && decide (decode (ka_by m) (pc + 3) = .ok (.dup, 1)) &&
  ka_exl.any (fun q => decide (q.1 = e) && ka_txts.any (fun t => (decide (e ≠ 2) && decide (decode (ka_by m) (pc + 4) = .ok (.ldc t.1, 2)) && decide (decode (ka_by m) (pc + 6) = .ok (.invokespecial q.2, 3)) && decide (decode (ka_by m) (pc + 9) = .ok (.athrow, 1))) || (decide (decode (ka_by m) (pc + 4) = .ok (.ldc_w t.1, 3)) && decide (decode (ka_by m) (pc + 7) = .ok (.invokespecial q.2, 3)) && decide (decode (ka_by m) (pc + 10) = .ok (.athrow, 1)))))
def ka_ckg (o x : Nat) (v : Value) : Bool := ka_gtl.any (fun q => decide (q.2.2.2 = v) && (ka_h (ka_wi o x) (.fieldLink (ka_on o) x q.1 q.2.1 q.2.2.1) || ka_hm (ka_wi o x) (.fieldLinkNest (ka_on o) x q.1 q.2.1 q.2.2.1 "KeptAnswers")))
def ka_ck1 (pc : Nat) (off : Int) (ts : List Nat) : Bool := match ts with
  | [t] => decide ((pc : Int) + off = t)
  | _ => true
def ka_rI (m : Nat) : Bool := match ka_rty m with
  | some .int => decide (ka_rt m = 0)
  | some .boolean => decide (ka_rt m = 1)
  | some .char => decide (ka_rt m = 2)
  | some .byte => decide (ka_rt m = 3)
  | _ => false
def ka_rA (m : Nat) : Bool := match ka_rty m with
  | some (.object _) => true
  | some (.array _) => true
  | _ => false
def ka_rV (m : Nat) : Bool := match ka_rty m with
  | none => true
  | _ => false
/-- one row -/
def ka_ck (m pc : Nat) (i : Instr) (len : Nat) (ts : List Nat) : Bool := decide (decode (ka_by m) pc = .ok (i, len)) && match i with
  | .iconst _ => decide (len = 1)
  | .bipush n => decide (len = 2) && decide ((Int8.ofInt n).toInt32 = Int32.ofInt n)
  | .sipush n => decide (len = 3) && decide ((Int16.ofInt n).toInt32 = Int32.ofInt n)
  | .aconst_null => decide (len = 1)
  | .iload _ => decide (len = 2)
  | .iload_n _ => decide (len = 1)
  | .aload _ => decide (len = 2)
  | .aload_n _ => decide (len = 1)
  | .istore x => decide (len = 2) && decide (x < ka_mx m)
  | .istore_n x => decide (len = 1) && decide (x.val < ka_mx m)
  | .astore x => decide (len = 2) && decide (x < ka_mx m)
  | .astore_n x => decide (len = 1) && decide (x.val < ka_mx m)
  | .iinc x _ => decide (len = 3) && decide (x < ka_mx m)
  | .goto off => decide (len = 3) && ka_ck1 pc off ts
  | .ifCond _ off => decide (len = 3) && ka_ck1 pc off ts
  | .if_icmp _ off => decide (len = 3) && ka_ck1 pc off ts
  | .if_acmp _ off => decide (len = 3) && ka_ck1 pc off ts
  | .ifnull off => decide (len = 3) && ka_ck1 pc off ts
  | .ifnonnull off => decide (len = 3) && ka_ck1 pc off ts
  | .tableswitch df lo hi offs => (match ts with
    | d :: tl => decide (0 ≤ lo) && decide (hi < 1000) && decide (hi + 1 = lo + tl.length) && decide (offs.size = tl.length) && decide ((pc : Int) + df = d) && (List.range tl.length).all (fun j => decide ((pc : Int) + offs.getD j 0 = tl.getD j 0))
    | _ => true)
  | .getfield x => decide (len = 3) && (match ka_lk (ka_own m) x with
    | [t, ci, f] => ka_ckf (ka_own m) x ci f t || ka_cks (ka_own m) x ci f t
    | _ => true)
  | .putfield x => decide (len = 3) && (match ka_lk (ka_own m) x with
    | [t, ci, f] => ka_ckf (ka_own m) x ci f t && (decide (((ka_T ci).2.1 f).2.2.2 = false) || (decide (((ka_T ci).2.1 f).2.2.2 = true) && decide ((ka_y m).name = "<init>") && decide (((ka_T ci).2.1 f).1 = ka_on (ka_own m))))
    | _ => true)
  | .new x => decide (len = 3) && (match ka_lk (ka_own m) x with
    | [4, ci, sz] => decide (ci < 10) && decide (sz = (ka_T ci).2.2) && ka_h (ka_wi (ka_own m) x) (.classLink (ka_on (ka_own m)) x (ka_T ci).1) && ka_h (ka_ci ci).1 (.instantiable (ka_T ci).1 (ka_T ci).2.2) && ka_h (ka_ci ci).2 (.initialized (ka_T ci).1)
    | [5, e] => ka_ckx m (ka_own m) x e pc
    | _ => true)
  | .newarray t => decide (len = 2) && decide (t = .int ∨ t = .boolean ∨ t = .long)
  | .anewarray x => decide (len = 3) && (match ka_lk (ka_own m) x with
    | [4, ci, _] => decide (3 ≤ ci ∧ ci ≤ 5) && ka_h (ka_wi (ka_own m) x) (.classLink (ka_on (ka_own m)) x (ka_T ci).1)
    | _ => true)
  | .multianewarray x _ => decide (len = 4) && (match ka_lk (ka_own m) x with
    | [15] => ka_h (ka_wi (ka_own m) x) (.classLink (ka_on (ka_own m)) x "[[I")
    | _ => true)
  | .invokevirtual x => decide (len = 3) && ka_cki (ka_own m) x (ka_lk (ka_own m) x) && ka_ckt i (ka_lk (ka_own m) x)
  | .invokestatic x => decide (len = 3) && ka_cki (ka_own m) x (ka_lk (ka_own m) x) && ka_ckt i (ka_lk (ka_own m) x)
  | .invokespecial x => decide (len = 3) && ka_cki (ka_own m) x (ka_lk (ka_own m) x) && ka_ckt i (ka_lk (ka_own m) x)
  | .ldc x => decide (len = 2) && (match ka_lk (ka_own m) x with
    | [10, n] => ka_h (ka_wi (ka_own m) x) (.constant (ka_on (ka_own m)) x (Int32.ofNat n))
    | [11, r] => ka_strs.any (fun q => decide (q.1 = ka_own m ∧ q.2.1 = x ∧ q.2.2.1 = r))
    | _ => true)
  | .ldc_w x => decide (len = 3) && (match ka_lk (ka_own m) x with
    | [10, n] => ka_h (ka_wi (ka_own m) x) (.constant (ka_on (ka_own m)) x (Int32.ofNat n))
    | [11, _] => false
    | _ => true)
  | .getstatic x => decide (len = 3) && (match ka_lk (ka_own m) x with
    | [12, r] => ka_ckg (ka_own m) x (.ref r)
    | [13, n] => ka_ckg (ka_own m) x (.int (Int32.ofNat n))
    | [21] => ka_ckg (ka_own m) x (.float 0)
    | _ => true)
  | .checkcast x => decide (len = 3) && (match ka_lk (ka_own m) x with
    | [18] => ka_h (ka_wi (ka_own m) x) (.classLink (ka_on (ka_own m)) x "[I")
    | _ => true)
  | .athrow => true
  | .ireturn => decide (len = 1) && ka_rI m
  | .areturn => decide (len = 1) && ka_rA m
  | .return_ => decide (len = 1) && ka_rV m
  | _ => decide (len = 1)
/-- all rows of a method from a on, n of them -/
def ka_ckr (m a n : Nat) : Bool := (List.range n).all (fun j => match ka_cd m (a + j) with
  | none => true
  | some (i, len, ts) => ka_ck m (a + j) i len ts)
theorem ka_ckr_at {m a n : Nat} (h : ka_ckr m a n = true) {pc : Nat} (h1 : a ≤ pc) (h2 : pc < a + n) {i : Instr} {len : Nat} {ts : List Nat} (hc : ka_cd m pc = some (i, len, ts)) : ka_ck m pc i len ts = true := by
  have h3 := List.all_eq_true.mp h (pc - a) (List.mem_range.mpr (by omega))
  rw [show a + (pc - a) = pc by omega, hc] at h3
  exact h3
