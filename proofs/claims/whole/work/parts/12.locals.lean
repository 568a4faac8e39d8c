/-! ===== locals, words, the frame of a walk ===== -/
def ka_vis : Value → Bool
  | .int _ => true
  | .ref _ => true
  | _ => false
theorem ka_nth_set_same : ∀ (L : List Value) (x : Nat) (w : Value), x < L.length → ka_nth (ka_set L x w) x = w
  | [], x, _, h => absurd h (Nat.not_lt_zero x)
  | _ :: _, 0, _, _ => rfl
  | _ :: l, n + 1, w, h => ka_nth_set_same l n w (Nat.lt_of_succ_lt_succ h)
theorem ka_nth_set_ne : ∀ (L : List Value) (x y : Nat) (w : Value), y ≠ x → ka_nth (ka_set L x w) y = ka_nth L y
  | [], _, _, _, _ => rfl
  | _ :: _, 0, 0, _, h => absurd rfl h
  | _ :: _, 0, _ + 1, _, _ => rfl
  | _ :: _, _ + 1, 0, _, _ => rfl
  | _ :: l, n + 1, k + 1, w, h => ka_nth_set_ne l n k w (fun e => h (by rw [e]))
theorem ka_len_set : ∀ (L : List Value) (x : Nat) (w : Value), (ka_set L x w).length = L.length
  | [], _, _ => rfl
  | _ :: _, 0, _ => rfl
  | _ :: l, n + 1, w => congrArg (· + 1) (ka_len_set l n w)
theorem ka_nth_out : ∀ (L : List Value) (x : Nat), L.length ≤ x → ka_nth L x = .retAddr 0
  | [], _, _ => rfl
  | _ :: _, 0, h => absurd h (Nat.not_succ_le_zero _)
  | _ :: l, n + 1, h => ka_nth_out l n (Nat.le_of_succ_le_succ h)
def ka_L (G : ka_G) (ls : Array Slot) (L : List Value) : Prop := ls.size = L.length ∧ lv_wf ls ∧ ∀ i, ka_vis (ka_nth L i) = true → ls[i]? = some (.val (ka_cv G (ka_nth L i)))
def ka_vl (G : ka_G) (L : List Value) : List (Nat × Value) := (List.range L.length).filterMap fun i => if ka_vis (ka_nth L i) = true then some (i, ka_cv G (ka_nth L i)) else none
theorem ka_vl_mem {G : ka_G} {L : List Value} {i : Nat} (h : ka_vis (ka_nth L i) = true) : (i, ka_cv G (ka_nth L i)) ∈ ka_vl G L := by
  have hi : i < L.length := by
    refine Classical.byContradiction fun hn => ?_
    rw [ka_nth_out L i (by omega)] at h
    cases h
  exact List.mem_filterMap.mpr ⟨i, List.mem_range.mpr hi, by rw [if_pos h]⟩
theorem ka_L_has {G : ka_G} {ls : Array Slot} {L : List Value} (h : ka_L G ls L) : lv_has ls L.length (ka_vl G L) := by
  refine ⟨h.1, h.2.1, fun q hq => ?_⟩
  obtain ⟨i, -, hi⟩ := List.mem_filterMap.mp hq
  by_cases hv : ka_vis (ka_nth L i) = true
  · rw [if_pos hv] at hi
    cases hi
    exact h.2.2 i hv
  · rw [if_neg hv] at hi
    cases hi
theorem ka_cv_r (G : ka_G) (a : Nat) : ka_cv G (.ref a) = if a = 0 then .null else .ref (ka_ad G a) := rfl
theorem ka_cv_cat {G : ka_G} {w : Value} (h : ka_vis w = true) : (ka_cv G w).category = 1 := by
  cases w with
  | int v => rfl
  | ref a =>
    rw [ka_cv_r]
    by_cases e : a = 0
    · rw [if_pos e]; rfl
    · rw [if_neg e]; rfl
  | _ => cases h
theorem ka_L_set {G : ka_G} {ls : Array Slot} {L : List Value} {x : Nat} {w : Value} (hw : ka_vis w = true) (hx : x < L.length)
    (h : lv_has ls L.length ((x, ka_cv G w) :: (ka_vl G L).filter (fun q => !(q.1 == x) && !(q.1 + 1 == x && q.2.category == 2)))) : ka_L G ls (ka_set L x w) := by
  refine ⟨by rw [ka_len_set]; exact h.1, h.2.1, fun i hi => ?_⟩
  by_cases e : i = x
  · subst e
    rw [ka_nth_set_same L i w hx]
    exact h.2.2 (i, ka_cv G w) List.mem_cons_self
  · rw [ka_nth_set_ne L x i w e] at hi ⊢
    refine h.2.2 (i, ka_cv G (ka_nth L i)) (List.mem_cons_of_mem _ (List.mem_filter.mpr ⟨ka_vl_mem hi, ?_⟩))
    have h1 : (i == x) = false := by simpa using e
    have h2 : ((ka_cv G (ka_nth L i)).category == 2) = false := by rw [ka_cv_cat hi]; rfl
    simp [h1, h2]
theorem ka_cv_ref (G : ka_G) (a : Nat) : (a = 0 ∧ ka_cv G (.ref a) = .null) ∨ (a ≠ 0 ∧ ka_cv G (.ref a) = .ref (ka_ad G a)) := by
  by_cases e : a = 0
  · exact Or.inl ⟨e, by rw [ka_cv_r, if_pos e]⟩
  · exact Or.inr ⟨e, by rw [ka_cv_r, if_neg e]⟩
theorem ka_cv_nz {G : ka_G} {a : Nat} (h : a ≠ 0) : ka_cv G (.ref a) = .ref (ka_ad G a) := by rw [ka_cv_r, if_neg h]
theorem ka_cv_0 {G : ka_G} : ka_cv G (.ref 0) = .null := rfl
theorem ka_cv_int {G : ka_G} (x : Int32) : ka_cv G (.int x) = .int x := rfl
theorem ka_cv_long {G : ka_G} (x : Int64) : ka_cv G (.long x) = .long x := rfl
/-- words of the start hold at every state that is warmed from it -/
theorem ka_mv {s0 s : State} {A0 a : Array Value} {w : Cond} (hW : s0.WarmedH s.vm) (hg : (w.onTables && w.keepsFace) = true) (h : w.before A0 s0 = true) : w.before a s = true := by
  simp only [Bool.and_eq_true] at hg
  have h1 : w.before A0 (s0.setVm s.vm) = true := Cond.before_shiftedFace (State.Shifted.of_warmed hW) w hg.2 h
  exact va_tabs hg.1 (rfl : (s0.setVm s.vm).vm = s.vm) h1
theorem ka_mvA {s0 s : State} {A0 a : Array Value} {ty : FieldType} (hW : s0.WarmedH s.vm) (h : (Cond.arrayClass ty).before A0 s0 = true) : (Cond.arrayClass ty).before a s = true := word_at hW (Or.inr ⟨ty, rfl⟩) h
/-- the walk at pc with locals L and stack S, over the heap h -/
def ka_W (G : ka_G) (p : Program) (l : Launch) (e : Env) (R : Room) (s : State) (m : MethodId) (args : Array Value) (below : List Frame) (meth : Method) (c : Code) (Q : State → Prop) (n0 t0 pc : Nat) (L S : List Value) (h : ka_H) : Prop :=
  n0 ≤ h.1 → t0 ≤ h.2.1 → ∀ (H : Heap) (locs : List Loc) (ls : Array Slot), ka_rel G h H → (∀ z ∈ locs, ka_b G ≤ z.base) → ka_L G ls L → W p l e R s m args below meth c H locs (h.1 - n0) (h.2.1 - t0) Q (F0 m pc ls (S.map (ka_cv G)))
section KA
variable {p : Program} {l : Launch} {e : Env} {R : Room} {s : State} {m : MethodId} {args : Array Value} {below : List Frame} {meth : Method} {c : Code} {Q : State → Prop} {G : ka_G} {n0 t0 pc : Nat} {L S : List Value} {h : ka_H} {cc : ByteArray}
theorem kr_const {i : Instr} {len : Nat} {v : Int32} (hx : p.tables.exec = Jvm.exec) (hb : c.code = cc) (hd : decode cc pc = .ok (i, len)) (hi : (∃ n, i = .iconst n ∧ len = 1 ∧ Int32.ofInt n = v) ∨ (∃ n, i = .bipush n ∧ len = 2 ∧ (Int8.ofInt n).toInt32 = v) ∨ (∃ n, i = .sipush n ∧ len = 3 ∧ (Int16.ofInt n).toInt32 = v))
    (k : ka_W G p l e R s m args below meth c Q n0 t0 (pc + len) L (.int v :: S) h) : ka_W G p l e R s m args below meth c Q n0 t0 pc L S h := by
  intro q1 q2 H locs ls hr hz hl
  rcases hi with ⟨n, rfl, rfl, e⟩ | ⟨n, rfl, rfl, e⟩ | ⟨n, rfl, rfl, e⟩
  · exact lv_iconst hx hb hd e (k q1 q2 H locs ls hr hz hl)
  · exact lv_bipush hx hb hd e (k q1 q2 H locs ls hr hz hl)
  · exact lv_sipush hx hb hd e (k q1 q2 H locs ls hr hz hl)
theorem kr_null (hx : p.tables.exec = Jvm.exec) (hb : c.code = cc) (hd : decode cc pc = .ok (.aconst_null, 1)) (k : ka_W G p l e R s m args below meth c Q n0 t0 (pc + 1) L (.ref 0 :: S) h) : ka_W G p l e R s m args below meth c Q n0 t0 pc L S h :=
  fun q1 q2 H locs ls hr hz hl => lv_null hx hb hd (k q1 q2 H locs ls hr hz hl)
theorem kr_iload {x : Nat} {a : Int32} (hx : p.tables.exec = Jvm.exec) (hb : c.code = cc) (hd : decode cc pc = .ok (.iload x, 2)) (hn : ka_nth L x = .int a) (k : ka_W G p l e R s m args below meth c Q n0 t0 (pc + 2) L (.int a :: S) h) : ka_W G p l e R s m args below meth c Q n0 t0 pc L S h := by
  intro q1 q2 H locs ls hr hz hl
  have h1 := hl.2.2 x (by rw [hn]; rfl)
  rw [hn] at h1
  exact lv_iload hx hb hd h1 (k q1 q2 H locs ls hr hz hl)
theorem kr_iload_n {x : Fin 4} {a : Int32} (hx : p.tables.exec = Jvm.exec) (hb : c.code = cc) (hd : decode cc pc = .ok (.iload_n x, 1)) (hn : ka_nth L x.val = .int a) (k : ka_W G p l e R s m args below meth c Q n0 t0 (pc + 1) L (.int a :: S) h) : ka_W G p l e R s m args below meth c Q n0 t0 pc L S h := by
  intro q1 q2 H locs ls hr hz hl
  have h1 := hl.2.2 x.val (by rw [hn]; rfl)
  rw [hn] at h1
  exact lv_iload_n hx hb hd rfl h1 (k q1 q2 H locs ls hr hz hl)
theorem kr_aload {x a : Nat} (hx : p.tables.exec = Jvm.exec) (hb : c.code = cc) (hd : decode cc pc = .ok (.aload x, 2)) (hn : ka_nth L x = .ref a) (k : ka_W G p l e R s m args below meth c Q n0 t0 (pc + 2) L (.ref a :: S) h) : ka_W G p l e R s m args below meth c Q n0 t0 pc L S h := by
  intro q1 q2 H locs ls hr hz hl
  have h1 := hl.2.2 x (by rw [hn]; rfl)
  have k1 := k q1 q2 H locs ls hr hz hl
  rw [hn] at h1
  rw [List.map_cons] at k1
  rcases ka_cv_ref G a with ⟨-, e1⟩ | ⟨-, e1⟩
  · rw [e1] at h1 k1
    exact lv_aloadN hx hb hd h1 k1
  · rw [e1] at h1 k1
    exact lv_aload hx hb hd h1 k1
theorem kr_aload_n {x : Fin 4} {a : Nat} (hx : p.tables.exec = Jvm.exec) (hb : c.code = cc) (hd : decode cc pc = .ok (.aload_n x, 1)) (hn : ka_nth L x.val = .ref a) (k : ka_W G p l e R s m args below meth c Q n0 t0 (pc + 1) L (.ref a :: S) h) : ka_W G p l e R s m args below meth c Q n0 t0 pc L S h := by
  intro q1 q2 H locs ls hr hz hl
  have h1 := hl.2.2 x.val (by rw [hn]; rfl)
  have k1 := k q1 q2 H locs ls hr hz hl
  rw [hn] at h1
  rw [List.map_cons] at k1
  rcases ka_cv_ref G a with ⟨-, e1⟩ | ⟨-, e1⟩
  · rw [e1] at h1 k1
    exact lv_aload_nN hx hb hd rfl h1 k1
  · rw [e1] at h1 k1
    exact lv_aload_n hx hb hd rfl h1 k1
theorem kr_istore {x : Nat} {a : Int32} (hx : p.tables.exec = Jvm.exec) (hb : c.code = cc) (hd : decode cc pc = .ok (.istore x, 2)) (hn : x < L.length) (k : ka_W G p l e R s m args below meth c Q n0 t0 (pc + 2) (ka_set L x (.int a)) S h) : ka_W G p l e R s m args below meth c Q n0 t0 pc L (.int a :: S) h :=
  fun q1 q2 H locs _ hr hz hl => lv_istore hx hb hd (ka_L_has hl) hn rfl fun ls' hl' => k q1 q2 H locs ls' hr hz (ka_L_set (w := .int a) rfl hn hl')
theorem kr_istore_n {x : Fin 4} {a : Int32} (hx : p.tables.exec = Jvm.exec) (hb : c.code = cc) (hd : decode cc pc = .ok (.istore_n x, 1)) (hn : x.val < L.length) (k : ka_W G p l e R s m args below meth c Q n0 t0 (pc + 1) (ka_set L x.val (.int a)) S h) : ka_W G p l e R s m args below meth c Q n0 t0 pc L (.int a :: S) h :=
  fun q1 q2 H locs _ hr hz hl => lv_istore_n hx hb hd rfl (ka_L_has hl) hn rfl fun ls' hl' => k q1 q2 H locs ls' hr hz (ka_L_set (w := .int a) rfl hn hl')
theorem kr_astore {x a : Nat} (hx : p.tables.exec = Jvm.exec) (hb : c.code = cc) (hd : decode cc pc = .ok (.astore x, 2)) (hn : x < L.length) (k : ka_W G p l e R s m args below meth c Q n0 t0 (pc + 2) (ka_set L x (.ref a)) S h) : ka_W G p l e R s m args below meth c Q n0 t0 pc L (.ref a :: S) h := by
  intro q1 q2 H locs ls hr hz hl
  rw [List.map_cons]
  have k1 := fun ls' hl' => k q1 q2 H locs ls' hr hz (ka_L_set (w := .ref a) rfl hn hl')
  rcases ka_cv_ref G a with ⟨-, e1⟩ | ⟨-, e1⟩
  · rw [e1] at k1 ⊢
    exact lv_astoreN hx hb hd (ka_L_has hl) hn rfl k1
  · rw [e1] at k1 ⊢
    exact lv_astore hx hb hd (ka_L_has hl) hn rfl k1
theorem kr_astore_n {x : Fin 4} {a : Nat} (hx : p.tables.exec = Jvm.exec) (hb : c.code = cc) (hd : decode cc pc = .ok (.astore_n x, 1)) (hn : x.val < L.length) (k : ka_W G p l e R s m args below meth c Q n0 t0 (pc + 1) (ka_set L x.val (.ref a)) S h) : ka_W G p l e R s m args below meth c Q n0 t0 pc L (.ref a :: S) h := by
  intro q1 q2 H locs ls hr hz hl
  rw [List.map_cons]
  have k1 := fun ls' hl' => k q1 q2 H locs ls' hr hz (ka_L_set (w := .ref a) rfl hn hl')
  rcases ka_cv_ref G a with ⟨-, e1⟩ | ⟨-, e1⟩
  · rw [e1] at k1 ⊢
    exact lv_astore_nN hx hb hd rfl (ka_L_has hl) hn rfl k1
  · rw [e1] at k1 ⊢
    exact lv_astore_n hx hb hd rfl (ka_L_has hl) hn rfl k1
theorem kr_iinc {x : Nat} {n : Int} {a : Int32} (hx : p.tables.exec = Jvm.exec) (hb : c.code = cc) (hd : decode cc pc = .ok (.iinc x n, 3)) (hn : x < L.length) (ha : ka_nth L x = .int a) (k : ka_W G p l e R s m args below meth c Q n0 t0 (pc + 3) (ka_set L x (.int (a + Int32.ofInt n))) S h) : ka_W G p l e R s m args below meth c Q n0 t0 pc L S h := by
  intro q1 q2 H locs ls hr hz hl
  have hm : (x, ka_cv G (ka_nth L x)) ∈ ka_vl G L := ka_vl_mem (by rw [ha]; rfl)
  rw [ha] at hm
  obtain ⟨j, hj⟩ := List.getElem?_of_mem hm
  exact lv_iinc hx hb hd (ka_L_has hl) (k := j) hj rfl hn rfl fun ls' hl' => k q1 q2 H locs ls' hr hz (ka_L_set (w := .int (a + Int32.ofInt n)) rfl hn hl')
theorem kr_bin {i : Instr} {a b v : Int32} (hx : p.tables.exec = Jvm.exec) (hb : c.code = cc) (hd : decode cc pc = .ok (i, 1))
    (hi : (i = .iadd ∧ a + b = v) ∨ (i = .isub ∧ a - b = v) ∨ (i = .imul ∧ a * b = v) ∨ (i = .iand ∧ a &&& b = v) ∨ (i = .ior ∧ a ||| b = v) ∨ (i = .ixor ∧ a ^^^ b = v) ∨ (i = .idiv ∧ ¬ b = 0 ∧ a / b = v) ∨ (i = .irem ∧ ¬ b = 0 ∧ a - a / b * b = v) ∨ (i = .ishl ∧ a <<< (b &&& 31) = v) ∨ (i = .ishr ∧ a >>> (b &&& 31) = v) ∨ (i = .iushr ∧ (a.toUInt32 >>> (b.toUInt32 &&& Int32.toUInt32 31)).toInt32 = v))
    (k : ka_W G p l e R s m args below meth c Q n0 t0 (pc + 1) L (.int v :: S) h) : ka_W G p l e R s m args below meth c Q n0 t0 pc L (.int b :: .int a :: S) h := by
  intro q1 q2 H locs ls hr hz hl
  have k1 := k q1 q2 H locs ls hr hz hl
  rcases hi with ⟨rfl, rfl⟩ | ⟨rfl, rfl⟩ | ⟨rfl, rfl⟩ | ⟨rfl, rfl⟩ | ⟨rfl, rfl⟩ | ⟨rfl, rfl⟩ | ⟨rfl, h0, rfl⟩ | ⟨rfl, h0, rfl⟩ | ⟨rfl, rfl⟩ | ⟨rfl, rfl⟩ | ⟨rfl, e⟩
  · exact lv_iadd hx hb hd k1
  · exact lv_isub hx hb hd k1
  · exact lv_imul hx hb hd k1
  · exact lv_iand hx hb hd k1
  · exact lv_ior hx hb hd k1
  · exact lv_ixor hx hb hd k1
  · exact lv_idiv hx hb hd h0 k1
  · exact lv_irem hx hb hd h0 k1
  · exact lv_ishl hx hb hd k1
  · exact lv_ishr hx hb hd k1
  · exact lv_iushr hx hb hd e k1
theorem kr_i2l {a : Int32} (hx : p.tables.exec = Jvm.exec) (hb : c.code = cc) (hd : decode cc pc = .ok (.i2l, 1)) (k : ka_W G p l e R s m args below meth c Q n0 t0 (pc + 1) L (.long a.toInt64 :: S) h) : ka_W G p l e R s m args below meth c Q n0 t0 pc L (.int a :: S) h :=
  fun q1 q2 H locs ls hr hz hl => lv_i2l hx hb hd rfl (k q1 q2 H locs ls hr hz hl)
theorem kr_i2c {a : Int32} (hx : p.tables.exec = Jvm.exec) (hb : c.code = cc) (hd : decode cc pc = .ok (.i2c, 1)) (k : ka_W G p l e R s m args below meth c Q n0 t0 (pc + 1) L (.int (a.toUInt32 % 65536).toInt32 :: S) h) : ka_W G p l e R s m args below meth c Q n0 t0 pc L (.int a :: S) h :=
  fun q1 q2 H locs ls hr hz hl => lv_i2c hx hb hd rfl (k q1 q2 H locs ls hr hz hl)
theorem kr_lcmp {a b : Int64} (hx : p.tables.exec = Jvm.exec) (hb : c.code = cc) (hd : decode cc pc = .ok (.lcmp, 1)) (k : ka_W G p l e R s m args below meth c Q n0 t0 (pc + 1) L (.int (lg_cmp a b) :: S) h) : ka_W G p l e R s m args below meth c Q n0 t0 pc L (.long b :: .long a :: S) h :=
  fun q1 q2 H locs ls hr hz hl => W.lcmp hx hb hd (k q1 q2 H locs ls hr hz hl)
theorem kr_dup {w : Value} (hx : p.tables.exec = Jvm.exec) (hb : c.code = cc) (hd : decode cc pc = .ok (.dup, 1)) (hw : ka_vis w = true) (k : ka_W G p l e R s m args below meth c Q n0 t0 (pc + 1) L (w :: w :: S) h) : ka_W G p l e R s m args below meth c Q n0 t0 pc L (w :: S) h :=
  fun q1 q2 H locs ls hr hz hl => lv_dup hx hb hd (ka_cv_cat hw) (k q1 q2 H locs ls hr hz hl)
theorem kr_dup2 {v w : Value} (hx : p.tables.exec = Jvm.exec) (hb : c.code = cc) (hd : decode cc pc = .ok (.dup2, 1)) (hv : ka_vis v = true) (hw : ka_vis w = true) (k : ka_W G p l e R s m args below meth c Q n0 t0 (pc + 1) L (v :: w :: v :: w :: S) h) : ka_W G p l e R s m args below meth c Q n0 t0 pc L (v :: w :: S) h :=
  fun q1 q2 H locs ls hr hz hl => lv_dup2_11 hx hb hd (ka_cv_cat hv) (ka_cv_cat hw) (k q1 q2 H locs ls hr hz hl)
theorem kr_pop {w : Value} (hx : p.tables.exec = Jvm.exec) (hb : c.code = cc) (hd : decode cc pc = .ok (.pop, 1)) (hw : ka_vis w = true) (k : ka_W G p l e R s m args below meth c Q n0 t0 (pc + 1) L S h) : ka_W G p l e R s m args below meth c Q n0 t0 pc L (w :: S) h :=
  fun q1 q2 H locs ls hr hz hl => lv_pop hx hb hd (ka_cv_cat hw) (k q1 q2 H locs ls hr hz hl)
theorem kr_goto {off : Int} {t : Nat} (hx : p.tables.exec = Jvm.exec) (hb : c.code = cc) (hd : decode cc pc = .ok (.goto off, 3)) (ht : (pc : Int) + off = t) (k : ka_W G p l e R s m args below meth c Q n0 t0 t L S h) : ka_W G p l e R s m args below meth c Q n0 t0 pc L S h :=
  fun q1 q2 H locs ls hr hz hl => lv_goto hx hb hd ht (k q1 q2 H locs ls hr hz hl)
theorem kr_if {cd : ClassFile.Cond} {off : Int} {t : Nat} {a : Int32} {x y : Prop} (hx : p.tables.exec = Jvm.exec) (hb : c.code = cc) (hd : decode cc pc = .ok (.ifCond cd off, 3)) (ht : (pc : Int) + off = t) (hbr : ka_br cd a 0 x y)
    (k1 : x → ka_W G p l e R s m args below meth c Q n0 t0 t L S h) (k2 : y → ka_W G p l e R s m args below meth c Q n0 t0 (pc + 3) L S h) : ka_W G p l e R s m args below meth c Q n0 t0 pc L (.int a :: S) h := by
  intro q1 q2 H locs ls hr hz hl
  have g1 := fun z => k1 z q1 q2 H locs ls hr hz hl
  have g2 := fun z => k2 z q1 q2 H locs ls hr hz hl
  cases cd with
  | eq => exact lv_if_eq hx hb hd ht (fun z => g1 (hbr.1 z)) (fun z => g2 (hbr.2 z))
  | ne => exact lv_if_ne hx hb hd ht (fun z => g1 (hbr.1 z)) (fun z => g2 (hbr.2 z))
  | lt => exact lv_if_lt hx hb hd ht (fun z => g1 (hbr.1 z)) (fun z => g2 (hbr.2 z))
  | ge => exact lv_if_ge hx hb hd ht (fun z => g1 (hbr.1 (Int32.not_lt.mpr z))) (fun z => g2 (hbr.2 (Int32.not_le.mp z)))
  | gt => exact lv_if_gt hx hb hd ht (fun z => g1 (hbr.1 z)) (fun z => g2 (hbr.2 z))
  | le => exact lv_if_le hx hb hd ht (fun z => g1 (hbr.1 (Int32.not_lt.mpr z))) (fun z => g2 (hbr.2 (Int32.not_le.mp z)))
theorem kr_icmp {cd : ClassFile.Cond} {off : Int} {t : Nat} {a b : Int32} {x y : Prop} (hx : p.tables.exec = Jvm.exec) (hb : c.code = cc) (hd : decode cc pc = .ok (.if_icmp cd off, 3)) (ht : (pc : Int) + off = t) (hbr : ka_br cd a b x y)
    (k1 : x → ka_W G p l e R s m args below meth c Q n0 t0 t L S h) (k2 : y → ka_W G p l e R s m args below meth c Q n0 t0 (pc + 3) L S h) : ka_W G p l e R s m args below meth c Q n0 t0 pc L (.int b :: .int a :: S) h := by
  intro q1 q2 H locs ls hr hz hl
  have g1 := fun z => k1 z q1 q2 H locs ls hr hz hl
  have g2 := fun z => k2 z q1 q2 H locs ls hr hz hl
  cases cd with
  | eq => exact lv_icmp_eq hx hb hd ht (fun z => g1 (hbr.1 z)) (fun z => g2 (hbr.2 z))
  | ne => exact lv_icmp_ne hx hb hd ht (fun z => g1 (hbr.1 z)) (fun z => g2 (hbr.2 z))
  | lt => exact lv_icmp_lt hx hb hd ht (fun z => g1 (hbr.1 z)) (fun z => g2 (hbr.2 z))
  | ge => exact lv_icmp_ge hx hb hd ht (fun z => g1 (hbr.1 (Int32.not_lt.mpr z))) (fun z => g2 (hbr.2 (Int32.not_le.mp z)))
  | gt => exact lv_icmp_gt hx hb hd ht (fun z => g1 (hbr.1 z)) (fun z => g2 (hbr.2 z))
  | le => exact lv_icmp_le hx hb hd ht (fun z => g1 (hbr.1 (Int32.not_lt.mpr z))) (fun z => g2 (hbr.2 (Int32.not_le.mp z)))
theorem kr_null_br {i : Instr} {off : Int} {t a : Nat} (hx : p.tables.exec = Jvm.exec) (hb : c.code = cc) (hd : decode cc pc = .ok (i, 3)) (ht : (pc : Int) + off = t) (hi : i = .ifnull off ∨ i = .ifnonnull off)
    (k1 : (i = .ifnull off ∧ a = 0) ∨ (i = .ifnonnull off ∧ ¬ a = 0) → ka_W G p l e R s m args below meth c Q n0 t0 t L S h) (k2 : (i = .ifnull off ∧ ¬ a = 0) ∨ (i = .ifnonnull off ∧ a = 0) → ka_W G p l e R s m args below meth c Q n0 t0 (pc + 3) L S h) : ka_W G p l e R s m args below meth c Q n0 t0 pc L (.ref a :: S) h := by
  intro q1 q2 H locs ls hr hz hl
  have g1 := fun z => k1 z q1 q2 H locs ls hr hz hl
  have g2 := fun z => k2 z q1 q2 H locs ls hr hz hl
  rw [List.map_cons]
  rcases ka_cv_ref G a with ⟨e0, e1⟩ | ⟨e0, e1⟩ <;> rw [e1] <;> rcases hi with rfl | rfl
  · exact lv_ifnullN hx hb hd ht (g1 (Or.inl ⟨rfl, e0⟩))
  · exact lv_ifnonnullN hx hb hd (g2 (Or.inr ⟨rfl, e0⟩))
  · exact lv_ifnull hx hb hd (g2 (Or.inl ⟨rfl, e0⟩))
  · exact lv_ifnonnull hx hb hd ht (g1 (Or.inr ⟨rfl, e0⟩))
theorem ka_cv_inj {a b : Nat} (hr : ∀ i j, i < 14 → j < 14 → G.2.2.2.1 i = G.2.2.2.1 j → i = j) (hlt : ∀ i, i < 14 → G.2.2.2.1 i < ka_b G) (ha : a < 1000014) (hb : b < 1000014) : (ka_cv G (.ref a) = ka_cv G (.ref b)) ↔ a = b := by
  refine ⟨fun q => ?_, fun q => by rw [q]⟩
  rcases ka_cv_ref G a with ⟨a0, a1⟩ | ⟨a0, a1⟩ <;> rcases ka_cv_ref G b with ⟨b0, b1⟩ | ⟨b0, b1⟩ <;> rw [a1, b1] at q
  · omega
  · cases q
  · cases q
  · have q : (ka_ad G a : Nat) = ka_ad G b := Value.ref.inj q
    by_cases c1 : a < 1000000 <;> by_cases c2 : b < 1000000
    · rw [show ka_ad G a = ka_b G + (a - 1) from if_pos c1, show ka_ad G b = ka_b G + (b - 1) from if_pos c2] at q; omega
    · rw [show ka_ad G a = ka_b G + (a - 1) from if_pos c1, show ka_ad G b = G.2.2.2.1 (b - 1000000) from if_neg c2] at q
      have := hlt (b - 1000000) (by omega)
      omega
    · rw [show ka_ad G a = G.2.2.2.1 (a - 1000000) from if_neg c1, show ka_ad G b = ka_b G + (b - 1) from if_pos c2] at q
      have := hlt (a - 1000000) (by omega)
      omega
    · rw [show ka_ad G a = G.2.2.2.1 (a - 1000000) from if_neg c1, show ka_ad G b = G.2.2.2.1 (b - 1000000) from if_neg c2] at q
      have := hr _ _ (by omega) (by omega) q
      omega
theorem kr_acmp {i : Instr} {off : Int} {t a b : Nat} (hr9 : ∀ i j, i < 14 → j < 14 → G.2.2.2.1 i = G.2.2.2.1 j → i = j) (hlt : ∀ i, i < 14 → G.2.2.2.1 i < ka_b G) (ha : a < 1000014) (hb9 : b < 1000014) (hx : p.tables.exec = Jvm.exec) (hb : c.code = cc) (hd : decode cc pc = .ok (i, 3)) (ht : (pc : Int) + off = t) (hi : i = .if_acmp .eq off ∨ i = .if_acmp .ne off)
    (k1 : (i = .if_acmp .eq off ∧ a = b) ∨ (i = .if_acmp .ne off ∧ ¬ a = b) → ka_W G p l e R s m args below meth c Q n0 t0 t L S h) (k2 : (i = .if_acmp .eq off ∧ ¬ a = b) ∨ (i = .if_acmp .ne off ∧ a = b) → ka_W G p l e R s m args below meth c Q n0 t0 (pc + 3) L S h) : ka_W G p l e R s m args below meth c Q n0 t0 pc L (.ref b :: .ref a :: S) h := by
  intro q1 q2 H locs ls hr hz hl
  have g1 := fun z => k1 z q1 q2 H locs ls hr hz hl
  have g2 := fun z => k2 z q1 q2 H locs ls hr hz hl
  have key := ka_cv_inj (G := G) hr9 hlt ha hb9
  rw [List.map_cons, List.map_cons]
  have f : ∀ z : Nat, ∃ o : Option Nat, ka_cv G (.ref z) = va_rf o := fun z => by
    rcases ka_cv_ref G z with ⟨-, e1⟩ | ⟨-, e1⟩
    · exact ⟨none, e1⟩
    · exact ⟨some _, e1⟩
  obtain ⟨oa, ea⟩ := f a
  obtain ⟨ob, eb⟩ := f b
  have inj : oa = ob ↔ a = b := by
    rw [← key, ea, eb]
    refine ⟨fun q => by rw [q], fun q => ?_⟩
    cases oa <;> cases ob <;> simp [va_rf] at q ⊢
    exact q
  rw [ea, eb]
  rcases hi with rfl | rfl
  · exact lv_acmp_eq hx hb hd ht (fun z => g1 (Or.inl ⟨rfl, inj.mp z⟩)) (fun z => g2 (Or.inl ⟨rfl, fun q => z (inj.mpr q)⟩))
  · exact lv_acmp_ne hx hb hd ht (fun z => g1 (Or.inr ⟨rfl, fun q => z (inj.mpr q)⟩)) (fun z => g2 (Or.inr ⟨rfl, inj.mp z⟩))
end KA
