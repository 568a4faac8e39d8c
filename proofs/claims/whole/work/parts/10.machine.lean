/-! ===== MY OWN SMALL MACHINE: heap, one step as a weakest precondition, runs ===== -/
-- heap: next free reference (0 is null), slots used, (kind, size), ints, references, longs
abbrev ka_H : Type := Nat × Nat × (Nat → Nat × Nat) × (Nat → Nat → Int32) × (Nat → Nat → Nat) × (Nat → Nat → Int64)
abbrev ka_n (h : ka_H) : Nat := h.1
abbrev ka_sl (h : ka_H) : Nat := h.2.1
abbrev ka_K (h : ka_H) (a : Nat) : Nat × Nat := h.2.2.1 a
abbrev ka_I (h : ka_H) (a k : Nat) : Int32 := h.2.2.2.1 a k
abbrev ka_P (h : ka_H) (a k : Nat) : Nat := h.2.2.2.2.1 a k
abbrev ka_J (h : ka_H) (a k : Nat) : Int64 := h.2.2.2.2.2 a k
def ka_u {α : Type} (f : Nat → Nat → α) (a k : Nat) (v : α) : Nat → Nat → α := fun b j => if b = a then (if j = k then v else f b j) else f b j
def ka_sI (h : ka_H) (a k : Nat) (v : Int32) : ka_H := (h.1, h.2.1, h.2.2.1, ka_u h.2.2.2.1 a k v, h.2.2.2.2.1, h.2.2.2.2.2)
def ka_sP (h : ka_H) (a k : Nat) (v : Nat) : ka_H := (h.1, h.2.1, h.2.2.1, h.2.2.2.1, ka_u h.2.2.2.2.1 a k v, h.2.2.2.2.2)
def ka_sJ (h : ka_H) (a k : Nat) (v : Int64) : ka_H := (h.1, h.2.1, h.2.2.1, h.2.2.2.1, h.2.2.2.2.1, ka_u h.2.2.2.2.2 a k v)
/-- whole contents of a cell's ints -/
def ka_sF (h : ka_H) (a : Nat) (f : Nat → Int32) : ka_H := (h.1, h.2.1, h.2.2.1, fun b => if b = a then f else h.2.2.2.1 b, h.2.2.2.2.1, h.2.2.2.2.2)
def ka_new (h : ka_H) (kd sz sl : Nat) : ka_H := (h.1 + 1, h.2.1 + sl, fun b => if b = h.1 then (kd, sz) else h.2.2.1 b, fun b => if b = h.1 then fun _ => 0 else h.2.2.2.1 b, fun b => if b = h.1 then fun _ => 0 else h.2.2.2.2.1 b, fun b => if b = h.1 then fun _ => 0 else h.2.2.2.2.2 b)
/-- new int[n][m]: the outer array, then the inner ones -/
def ka_mul (h : ka_H) (n m : Nat) : ka_H := (h.1 + (n + 1), h.2.1 + (n + n * m), fun b => if b = h.1 then (37, n) else if h.1 < b ∧ b ≤ h.1 + n then (30, m) else h.2.2.1 b, fun b => if h.1 ≤ b ∧ b ≤ h.1 + n then fun _ => 0 else h.2.2.2.1 b, fun b => if b = h.1 then fun j => h.1 + 1 + j else if h.1 < b ∧ b ≤ h.1 + n then fun _ => 0 else h.2.2.2.2.1 b, fun b => if h.1 ≤ b ∧ b ≤ h.1 + n then fun _ => 0 else h.2.2.2.2.2 b)
def ka_nth : List Value → Nat → Value
  | [], _ => .retAddr 0
  | v :: _, 0 => v
  | _ :: l, n + 1 => ka_nth l n
def ka_set : List Value → Nat → Value → List Value
  | [], _, _ => []
  | _ :: l, 0, v => v :: l
  | w :: l, n + 1, v => w :: ka_set l n v
/-- how a method ends: with an answer, or a thrown thing (its kind's number, its reference) -/
abbrev ka_R : Type := Option Value ⊕ (Nat × Nat)
abbrev ka_C : Type := Nat → List Value → List Value → ka_H → Prop
def ka_cat (S : List Value) : Prop := (S.map fun v => v.category).sum ≤ 8
/-- at most b entries, all of one word -/
def ka_okc : Nat → List Value → Bool
  | _, [] => true
  | 0, _ :: _ => false
  | b + 1, .int _ :: l => ka_okc b l
  | b + 1, .ref _ :: l => ka_okc b l
  | b + 1, .float _ :: l => ka_okc b l
  | _ + 1, _ :: _ => false
/-- n entries, and at most eight below -/
def ka_okn : Nat → List Value → Bool
  | 0, l => ka_okc 8 l
  | _ + 1, [] => false
  | n + 1, _ :: l => ka_okn n l
-- a handler: from, to, its pc, what it takes; the local that the thrown thing is put into, the pc behind that
def ka_fh : List (Nat × Nat × Nat × Nat × Nat × Nat) → Nat → Nat → Option (Nat × Nat)
  | [], _, _ => none
  | (b, e, _, x, lc, t) :: r, pc, q => if b ≤ pc ∧ pc < e ∧ x = q then some (lc, t) else ka_fh r pc q
def ka_aft (hs : List (Nat × Nat × Nat × Nat × Nat × Nat)) (pc len : Nat) (L rest : List Value) (k : ka_C) (R : ka_R → ka_H → Prop) (r : ka_R) (h : ka_H) : Prop := match r with
  | .inl none => k (pc + len) L rest h
  | .inl (some v) => k (pc + len) L (v :: rest) h
  | .inr (e, a) => cond (Nat.blt e 4) (match ka_fh hs pc e with
    | some (lc, t) => k t (ka_set L lc (.retAddr 0)) [] h
    | none => R (.inr (e, a)) h) False
def ka_call (call : Nat → List Value → ka_H → ka_R → ka_H → Prop) (hs : List (Nat × Nat × Nat × Nat × Nat × Nat)) (pc len m na : Nat) (L S : List Value) (h : ka_H) (k : ka_C) (R : ka_R → ka_H → Prop) : Prop :=
  cond (ka_okn na S) (∃ (r : ka_R) (h' : ka_H), call m ((S.take na).reverse) h r h' ∧ ka_aft hs pc len L (S.drop na) k R r h') False
/-- a call that doesn't throw -/
def ka_calln (call : Nat → List Value → ka_H → ka_R → ka_H → Prop) (pc len m na : Nat) (L S : List Value) (h : ka_H) (k : ka_C) : Prop :=
  cond (ka_okn na S) (∃ (v : Option Value) (h' : ka_H), call m ((S.take na).reverse) h (.inl v) h' ∧ (match v with | none => k (pc + len) L (S.drop na) h' | some w => k (pc + len) L (w :: S.drop na) h')) False
def ka_sw (a : Int32) (k : Nat → Prop) (d : Nat) : Int32 → List Nat → Prop
  | _, [] => k d
  | lo, t :: ts => (a = lo → k t) ∧ (¬ a = lo → ka_sw a k d (lo + 1) ts)
def ka_okr (rt : Nat) (w : Int32) : Prop := match rt with
  | 0 => True
  | 1 => w = 0 ∨ w = 1
  | 2 => narrow .char (.int w) = .int w
  | _ => narrow .byte (.int w) = .int w
def ka_at : ArrayType → Nat
  | .int => 30
  | .boolean => 31
  | .long => 32
  | _ => 99
def ka_cpy (f g : Nat → Int32) (sp dp n : Nat) : Nat → Int32 := fun k => if dp ≤ k ∧ k < dp + n then f (sp + (k - dp)) else g k
/-- calls by the pool's entry -/
def ka_inv (call : Nat → List Value → ka_H → ka_R → ka_H → Prop) (hs : List (Nat × Nat × Nat × Nat × Nat × Nat)) (pc len : Nat) (q : List Nat) (L S : List Value) (h : ka_H) (k : ka_C) (R : ka_R → ka_H → Prop) : Prop :=
  match q with
  | [6, m, na, ci] => (match ka_nth S na with
    | .ref a => (ka_K h a).1 = ci ∧ ka_call call hs pc len m (na + 1) L S h k R
    | _ => False)
  | [7, m, na] => ka_call call hs pc len m na L S h k R
  | [8, m, na] => (match ka_nth S na with
    | .ref a => ¬ a = 0 ∧ ka_calln call pc len m (na + 1) L S h k
    | _ => False)
  | [22, m, na, ci] => (match ka_nth S na with
    | .ref a => (ka_K h a).1 = ci ∧ ka_calln call pc len m (na + 1) L S h k
    | _ => False)
  | [23, m, na] => ka_calln call pc len m na L S h k
  | [9] => (match S with
    | .ref a :: S' => cond (ka_okc 8 S') (¬ a = 0 ∧ k (pc + len) L S' h) False
    | _ => False)
  | [16] => (match S with
    | .int n :: .int dp :: .ref d :: .int sp :: .ref s :: S' => cond (ka_okc 8 S') ((((ka_K h s).1 = 30 ∧ (ka_K h d).1 = 30) ∧ 0 ≤ sp.toInt ∧ 0 ≤ dp.toInt ∧ 0 ≤ n.toInt ∧ sp.toInt + n.toInt ≤ (ka_K h s).2 ∧ dp.toInt + n.toInt ≤ (ka_K h d).2) ∧
        k (pc + len) L S' (ka_sF h d (ka_cpy (ka_I h s) (ka_I h d) sp.toNatClampNeg dp.toNatClampNeg n.toNatClampNeg))) False
    | _ => False)
  | [17] => (match S with
    | .ref a :: S' => cond (ka_okc 8 S') ((((ka_K h a).1 = 30 ∧ (ka_K h a).2 ≤ 100000) ∧ ka_n h < 1000000) ∧ k (pc + len) L (.ref (ka_n h) :: S') (ka_sF (ka_new h 30 (ka_K h a).2 (ka_K h a).2) (ka_n h) (ka_I h a))) False
    | _ => False)
  | _ => False
/-- the two ways of a branch on ints -/
def ka_br (c : ClassFile.Cond) (a b : Int32) (x y : Prop) : Prop := match c with
  | .eq => (a = b → x) ∧ (¬ a = b → y)
  | .ne => (¬ a = b → x) ∧ (a = b → y)
  | .lt => (a < b → x) ∧ (¬ a < b → y)
  | .ge => (¬ a < b → x) ∧ (a < b → y)
  | .gt => (b < a → x) ∧ (¬ b < a → y)
  | .le => (¬ b < a → x) ∧ (b < a → y)
/-- one instruction: what must hold so that the machine goes on with k, or ends with R -/
def ka_step (lk : Nat → List Nat) (call : Nat → List Value → ka_H → ka_R → ka_H → Prop) (hs : List (Nat × Nat × Nat × Nat × Nat × Nat)) (rt : Nat) (i : Instr) (pc len : Nat) (ts : List Nat) (L S : List Value) (h : ka_H) (k : ka_C) (R : ka_R → ka_H → Prop) : Prop :=
  match i with
  | .iconst n => k (pc + len) L (.int (Int32.ofInt n) :: S) h
  | .bipush n => k (pc + len) L (.int (Int32.ofInt n) :: S) h
  | .sipush n => k (pc + len) L (.int (Int32.ofInt n) :: S) h
  | .aconst_null => k (pc + len) L (.ref 0 :: S) h
  | .iload x => (match ka_nth L x with | .int a => k (pc + len) L (.int a :: S) h | _ => False)
  | .iload_n x => (match ka_nth L x.val with | .int a => k (pc + len) L (.int a :: S) h | _ => False)
  | .aload x => (match ka_nth L x with | .ref a => k (pc + len) L (.ref a :: S) h | _ => False)
  | .aload_n x => (match ka_nth L x.val with | .ref a => k (pc + len) L (.ref a :: S) h | _ => False)
  | .istore x => (match S with | .int a :: S' => k (pc + len) (ka_set L x (.int a)) S' h | _ => False)
  | .istore_n x => (match S with | .int a :: S' => k (pc + len) (ka_set L x.val (.int a)) S' h | _ => False)
  | .astore x => (match S with | .ref a :: S' => k (pc + len) (ka_set L x (.ref a)) S' h | _ => False)
  | .astore_n x => (match S with | .ref a :: S' => k (pc + len) (ka_set L x.val (.ref a)) S' h | _ => False)
  | .iinc x n => (match ka_nth L x with | .int a => k (pc + len) (ka_set L x (.int (a + Int32.ofInt n))) S h | _ => False)
  | .iadd => (match S with | .int b :: .int a :: S' => k (pc + len) L (.int (a + b) :: S') h | _ => False)
  | .isub => (match S with | .int b :: .int a :: S' => k (pc + len) L (.int (a - b) :: S') h | _ => False)
  | .imul => (match S with | .int b :: .int a :: S' => k (pc + len) L (.int (a * b) :: S') h | _ => False)
  | .iand => (match S with | .int b :: .int a :: S' => k (pc + len) L (.int (a &&& b) :: S') h | _ => False)
  | .ior => (match S with | .int b :: .int a :: S' => k (pc + len) L (.int (a ||| b) :: S') h | _ => False)
  | .ixor => (match S with | .int b :: .int a :: S' => k (pc + len) L (.int (a ^^^ b) :: S') h | _ => False)
  | .idiv => (match S with | .int b :: .int a :: S' => ¬ b = 0 ∧ k (pc + len) L (.int (a / b) :: S') h | _ => False)
  | .irem => (match S with | .int b :: .int a :: S' => ¬ b = 0 ∧ k (pc + len) L (.int (a - a / b * b) :: S') h | _ => False)
  | .ishl => (match S with | .int b :: .int a :: S' => k (pc + len) L (.int (a <<< (b &&& 31)) :: S') h | _ => False)
  | .ishr => (match S with | .int b :: .int a :: S' => k (pc + len) L (.int (a >>> (b &&& 31)) :: S') h | _ => False)
  | .iushr => (match S with | .int b :: .int a :: S' => k (pc + len) L (.int (a.toUInt32 >>> (b.toUInt32 &&& Int32.toUInt32 31)).toInt32 :: S') h | _ => False)
  | .i2l => (match S with | .int a :: S' => k (pc + len) L (.long a.toInt64 :: S') h | _ => False)
  | .i2c => (match S with | .int a :: S' => k (pc + len) L (.int (a.toUInt32 % 65536).toInt32 :: S') h | _ => False)
  | .lcmp => (match S with | .long b :: .long a :: S' => k (pc + len) L (.int (lg_cmp a b) :: S') h | _ => False)
  | .dup => (match S with | .int a :: S' => k (pc + len) L (.int a :: .int a :: S') h | .ref a :: S' => k (pc + len) L (.ref a :: .ref a :: S') h | _ => False)
  | .dup2 => (match S with | .int b :: .ref a :: S' => k (pc + len) L (.int b :: .ref a :: .int b :: .ref a :: S') h | _ => False)
  | .pop => (match S with | .int _ :: S' => k (pc + len) L S' h | .ref _ :: S' => k (pc + len) L S' h | _ => False)
  | .goto _ => (match ts with | [t] => k t L S h | _ => False)
  | .ifCond c _ => (match ts, S with | [t], .int a :: S' => ka_br c a 0 (k t L S' h) (k (pc + len) L S' h) | _, _ => False)
  | .if_icmp c _ => (match ts, S with | [t], .int b :: .int a :: S' => ka_br c a b (k t L S' h) (k (pc + len) L S' h) | _, _ => False)
  | .if_acmp c _ => (match ts, S with | [t], .ref b :: .ref a :: S' => (a < 1000014 ∧ b < 1000014) ∧ (match c with
      | .eq => (a = b → k t L S' h) ∧ (¬ a = b → k (pc + len) L S' h)
      | .ne => (¬ a = b → k t L S' h) ∧ (a = b → k (pc + len) L S' h)) | _, _ => False)
  | .ifnull _ => (match ts, S with | [t], .ref a :: S' => (a = 0 → k t L S' h) ∧ (¬ a = 0 → k (pc + len) L S' h) | _, _ => False)
  | .ifnonnull _ => (match ts, S with | [t], .ref a :: S' => (¬ a = 0 → k t L S' h) ∧ (a = 0 → k (pc + len) L S' h) | _, _ => False)
  | .tableswitch _ lo _ _ => (match ts, S with | d :: tl, .int a :: S' => ka_sw a (fun t => k t L S' h) d (Int32.ofInt lo) tl | _, _ => False)
  | .getfield x => (match lk x, S with
    | [1, ci, f], .ref a :: S' => (ka_K h a).1 = ci ∧ k (pc + len) L (.int (ka_I h a f) :: S') h
    | [2, ci, f], .ref a :: S' => (ka_K h a).1 = ci ∧ k (pc + len) L (.ref (ka_P h a f) :: S') h
    | [3, ci, f], .ref a :: S' => (ka_K h a).1 = ci ∧ k (pc + len) L (.int (ka_I h a f) :: S') h
    | _, _ => False)
  | .putfield x => (match lk x, S with
    | [1, ci, f], .int w :: .ref a :: S' => (ka_K h a).1 = ci ∧ k (pc + len) L S' (ka_sI h a f w)
    | [3, ci, f], .int w :: .ref a :: S' => ((ka_K h a).1 = ci ∧ (w = 0 ∨ w = 1)) ∧ k (pc + len) L S' (ka_sI h a f w)
    | [2, ci, f], .ref w :: .ref a :: S' => (ka_K h a).1 = ci ∧ k (pc + len) L S' (ka_sP h a f w)
    | _, _ => False)
  | .iaload => (match S with | .int j :: .ref a :: S' => (((ka_K h a).1 = 30 ∨ (ka_K h a).1 = 40) ∧ vp_in j (ka_K h a).2) ∧ k (pc + len) L (.int (ka_I h a j.toNatClampNeg) :: S') h | _ => False)
  | .iastore => (match S with | .int w :: .int j :: .ref a :: S' => ((ka_K h a).1 = 30 ∧ vp_in j (ka_K h a).2) ∧ k (pc + len) L S' (ka_sI h a j.toNatClampNeg w) | _ => False)
  | .baload => (match S with | .int j :: .ref a :: S' => (((ka_K h a).1 = 31 ∨ (ka_K h a).1 = 33) ∧ vp_in j (ka_K h a).2) ∧ k (pc + len) L (.int (ka_I h a j.toNatClampNeg) :: S') h | _ => False)
  | .bastore => (match S with | .int w :: .int j :: .ref a :: S' => ((ka_K h a).1 = 31 ∧ vp_in j (ka_K h a).2 ∧ (w = 0 ∨ w = 1)) ∧ k (pc + len) L S' (ka_sI h a j.toNatClampNeg w) | _ => False)
  | .laload => (match S with | .int j :: .ref a :: S' => ((ka_K h a).1 = 32 ∧ vp_in j (ka_K h a).2) ∧ k (pc + len) L (.long (ka_J h a j.toNatClampNeg) :: S') h | _ => False)
  | .lastore => (match S with | .long w :: .int j :: .ref a :: S' => ((ka_K h a).1 = 32 ∧ vp_in j (ka_K h a).2) ∧ k (pc + len) L S' (ka_sJ h a j.toNatClampNeg w) | _ => False)
  | .aaload => (match S with | .int j :: .ref a :: S' => (34 ≤ (ka_K h a).1 ∧ (ka_K h a).1 ≤ 38 ∧ vp_in j (ka_K h a).2) ∧ k (pc + len) L (.ref (ka_P h a j.toNatClampNeg) :: S') h | _ => False)
  | .aastore => (match S with | .ref w :: .int j :: .ref a :: S' => (((ka_K h a).1 = 34 ∧ (ka_K h w).1 = 5 ∨ (ka_K h a).1 = 35 ∧ (ka_K h w).1 = 4 ∨ (ka_K h a).1 = 36 ∧ (ka_K h w).1 = 3) ∧ vp_in j (ka_K h a).2) ∧ k (pc + len) L S' (ka_sP h a j.toNatClampNeg w) | _ => False)
  | .arraylength => (match S with | .ref a :: S' => (30 ≤ (ka_K h a).1 ∧ (ka_K h a).1 ≤ 40) ∧ k (pc + len) L (.int (Int32.ofNat (ka_K h a).2) :: S') h | _ => False)
  | .new x => (match lk x with
    | [4, ci, sz] => ka_n h < 1000000 ∧ k (pc + len) L (.ref (ka_n h) :: S) (ka_new h ci sz sz)
    | [5, e] => cond (ka_okc 8 S) (ka_n h < 1000000 ∧ R (.inr (e, ka_n h)) (ka_new h (50 + e) 6 6)) False
    | _ => False)
  | .newarray t => (match S with | .int n :: S' => (¬ n < 0 ∧ n.toNatClampNeg ≤ 100000 ∧ ka_n h < 1000000) ∧ k (pc + len) L (.ref (ka_n h) :: S') (ka_new h (ka_at t) n.toNatClampNeg n.toNatClampNeg) | _ => False)
  | .anewarray x => (match lk x, S with | [4, ci, _], .int n :: S' => (3 ≤ ci ∧ ci ≤ 5 ∧ ¬ n < 0 ∧ n.toNatClampNeg ≤ 100000 ∧ ka_n h < 1000000) ∧ k (pc + len) L (.ref (ka_n h) :: S') (ka_new h (39 - ci) n.toNatClampNeg n.toNatClampNeg) | _, _ => False)
  | .multianewarray x 2 => (match lk x, S with | [15], .int m :: .int n :: S' => ((¬ n < 0 ∧ n.toNatClampNeg ≤ 100) ∧ (¬ m < 0 ∧ m.toNatClampNeg ≤ 100) ∧ ka_n h + 200 < 1000000) ∧ k (pc + len) L (.ref (ka_n h) :: S') (ka_mul h n.toNatClampNeg m.toNatClampNeg) | _, _ => False)
  | .invokevirtual x => ka_inv call hs pc len (lk x) L S h k R
  | .invokestatic x => ka_inv call hs pc len (lk x) L S h k R
  | .invokespecial x => ka_inv call hs pc len (lk x) L S h k R
  | .ldc x => (match lk x with | [10, n] => k (pc + len) L (.int (Int32.ofNat n) :: S) h | [11, r] => k (pc + len) L (.ref r :: S) h | _ => False)
  | .ldc_w x => (match lk x with | [10, n] => k (pc + len) L (.int (Int32.ofNat n) :: S) h | [11, r] => k (pc + len) L (.ref r :: S) h | _ => False)
  | .getstatic x => (match lk x with | [12, r] => k (pc + len) L (.ref r :: S) h | [13, n] => k (pc + len) L (.int (Int32.ofNat n) :: S) h | [21] => k (pc + len) L (.float 0 :: S) h | _ => False)
  | .checkcast x => (match lk x, S with | [18], .ref a :: S' => (ka_K h a).1 = 30 ∧ k (pc + len) L (.ref a :: S') h | _, _ => False)
  | .ireturn => (match S with | [.int w] => ka_okr rt w ∧ R (.inl (some (.int w))) h | _ => False)
  | .areturn => (match S with | [.ref w] => R (.inl (some (.ref w))) h | _ => False)
  | .return_ => (match S with | [] => R (.inl none) h | _ => False)
  | _ => False
/-- at most n instructions, up to a pc where 'stop' holds -/
def ka_wp (lk : Nat → List Nat) (call : Nat → List Value → ka_H → ka_R → ka_H → Prop) (hs : List (Nat × Nat × Nat × Nat × Nat × Nat)) (rt : Nat) (cd : Nat → Option (Instr × Nat × List Nat)) (stop : Nat → Bool) (K : ka_C) (R : ka_R → ka_H → Prop) : Nat → ka_C
  | 0 => K
  | n + 1 => fun pc L S h => match cd pc with
    | none => False
    | some (i, len, ts) => ka_step lk call hs rt i pc len ts L S h (fun pc' L' S' h' => match stop pc' with | true => K pc' L' S' h' | false => ka_wp lk call hs rt cd stop K R n pc' L' S' h') R
/-- a run of method m at most d deep -/
def ka_run : Nat → Nat → List Value → ka_H → ka_R → ka_H → Prop
  | 0 => fun _ _ _ _ _ => False
  | d + 1 => fun m as h r h' => (ka_okc 30 as = true ∧ as.length ≤ ka_mx m) ∧ ∃ n, ka_wp (ka_lk (ka_own m)) (ka_run d) (ka_hs m) (ka_rt m) (ka_cd m) (fun _ => false) (fun _ _ _ _ => False) (fun r1 h1 => r1 = r ∧ h1 = h') n 0 (as ++ List.replicate (ka_mx m - as.length) (.retAddr 0)) [] h
