/-! ===== the class's worker: marks, lines worked ===== -/
def kv_mark (op : Nat) (l : Nat → Int32) : Int32 :=
  if op = 3 then (if 0 < kp_sum l 16 then (if kp_sum l 16 < 16 then kp_sum l 16 else 15) else -1)
  else if op = 4 then (if kp_sum (fun b => kp_b (0 < l b)) 16 = 0 then -1 else kp_sum (fun b => nI b * l b) 16 &&& 15)
  else if op = 5 then kv_nth (fun b => decide (0 < l b)) 0 16 0 0
  else if op = 6 then kv_nth (fun b => decide (0 < l b)) ((kp_sum (fun b => kp_b (0 < l b)) 16 - 1) / 2) 16 0 0
  else kv_nth (fun b => decide (0 < l b)) (kp_sum (fun b => kp_b (0 < l b)) 16 - 1) 16 0 0
theorem kv_nth_cg {p q : Nat → Bool} (k : Int32) : ∀ (j : Nat) (bf : Int32) (b : Nat), (∀ i, b ≤ i → i < b + j → p i = q i) → kv_nth p k j bf b = kv_nth q k j bf b
  | 0, _, _, _ => rfl
  | j + 1, bf, b, h => by
    unfold kv_nth
    rw [h b (Nat.le_refl _) (by omega), kv_nth_cg k j (bf + 1) (b + 1) (fun i h1 h2 => h i (by omega) (by omega)), kv_nth_cg k j bf (b + 1) (fun i h1 h2 => h i (by omega) (by omega))]
theorem kv_nth_rg (p : Nat → Bool) (k : Int32) : ∀ (j : Nat) (bf : Int32) (b : Nat), kv_nth p k j bf b = -1 ∨ ∃ i, b ≤ i ∧ i < b + j ∧ kv_nth p k j bf b = nI i
  | 0, _, _ => Or.inl rfl
  | j + 1, bf, b => by
    unfold kv_nth
    split
    · split
      · exact Or.inr ⟨b, Nat.le_refl _, by omega, rfl⟩
      · rcases kv_nth_rg p k j (bf + 1) (b + 1) with e | ⟨i, h1, h2, e⟩
        · exact Or.inl e
        · exact Or.inr ⟨i, by omega, by omega, e⟩
    · rcases kv_nth_rg p k j bf (b + 1) with e | ⟨i, h1, h2, e⟩
      · exact Or.inl e
      · exact Or.inr ⟨i, by omega, by omega, e⟩
theorem kv_and15 (x : Int32) : ∃ i, i < 16 ∧ x &&& 15 = nI i := by
  have hx : x &&& 15 = nI (x &&& 15).toBitVec.toNat := by
    refine Int32.toBitVec_inj.1 ?_
    show _ = BitVec.ofNat 32 _
    rw [BitVec.ofNat_toNat, BitVec.setWidth_eq]
  refine ⟨_, ?_, hx⟩
  rw [Int32.toBitVec_and, BitVec.toNat_and]
  exact Nat.lt_of_le_of_lt Nat.and_le_right (by decide)
theorem kv_mark_rg (op : Nat) (l : Nat → Int32) : kv_mark op l = -1 ∨ ∃ i, i < 16 ∧ kv_mark op l = nI i := by
  have hn : ∀ k, kv_nth (fun b => decide (0 < l b)) k 16 0 0 = -1 ∨ ∃ i, i < 16 ∧ kv_nth (fun b => decide (0 < l b)) k 16 0 0 = nI i := fun k => by
    rcases kv_nth_rg (fun b => decide (0 < l b)) k 16 0 0 with e | ⟨i, h1, h2, e⟩
    · exact Or.inl e
    · exact Or.inr ⟨i, by omega, e⟩
  unfold kv_mark
  split
  · split
    · rename_i c
      split
      · rename_i c2
        rw [Int32.lt_iff_toInt_lt] at c c2
        have c3 : (0 : Int) < (kp_sum l 16).toInt := c
        have c4 : (kp_sum l 16).toInt < 16 := c2
        refine Or.inr ⟨(kp_sum l 16).toInt.toNat, by omega, ?_⟩
        refine Int32.toInt_inj.mp ?_
        rw [nI_toInt (by omega)]
        omega
      · exact Or.inr ⟨15, by omega, rfl⟩
    · exact Or.inl rfl
  · split
    · split
      · exact Or.inl rfl
      · exact Or.inr (kv_and15 _)
    · split
      · exact hn _
      · split
        · exact hn _
        · exact hn _
/-- the set with one member, or none -/
theorem kv_mark_b {m : Int32} (hm : m = -1 ∨ ∃ i, i < 16 ∧ m = nI i) {b : Nat} (hb : b < 16) : (if m = -1 then (0 : Int32) else 1 <<< (m &&& 31)) >>> (nI b &&& 31) &&& 1 = if m = nI b then 1 else 0 := by
  rw [b_bit _ (by omega : b < 32)]
  rcases hm with rfl | ⟨i, hi, rfl⟩
  · rw [if_pos rfl, b_0, if_neg (by decide), if_neg]
    intro z
    have := congrArg Int32.toInt z
    rw [nI_toInt (by omega)] at this
    have h1 : (-1 : Int32).toInt = -1 := by decide
    omega
  · have h1 : ¬ nI i = -1 := fun z => by
      have := congrArg Int32.toInt z
      rw [nI_toInt (by omega)] at this
      have h1 : (-1 : Int32).toInt = -1 := by decide
      omega
    rw [if_neg h1, b_one (by omega) (by omega)]
    by_cases e : b = i
    · subst e; simp
    · rw [decide_eq_false e, if_neg (by decide), if_neg]
      intro z
      exact e ((nI_eq (by omega) (by omega)).mp z).symm
def kx_0 (A : Nat → Int32) : Nat → Int32 := fun a => kb_s (fun b => decide (0 < A (16 * a + b))) 16
/-- what an operator has at (a, b), out of what its operands have -/
def kv_op (op : Nat) (H A B : Nat → Int32) (a b : Nat) : Int32 :=
  if op = 1 ∨ op = 2 ∨ op = 13 then kv_take op (H a) A a b
  else if op = 8 then (if bt (kx_ext (kx_0 A) 16 a) b = true then 1 else 0)
  else if op = 9 then kv_join A B a b
  else if op = 10 ∨ op = 11 ∨ op = 12 then kv_put op A B a b
  else (if kv_mark op (fun y => A (16 * a + y)) = nI b then 1 else 0)
/-- a call that doesn't throw, in a walk -/
theorem kq_cn {g : Nat × (Nat → Int32)} {d m' : Nat} {as : List Value} {h h1 : ka_H} {v : Value} {P : Option Value → ka_H → Prop} (hT : kp_T d m' as h (kp_is v h1)) (hf : kf g h1) (hk : P (some v) h1) : ∃ (v' : Option Value) (h' : ka_H), ka_run d m' as h (.inl v') h' ∧ kf g h' ∧ P v' h' := by
  obtain ⟨r, h', q, rfl, rfl⟩ := hT
  exact ⟨_, _, q, hf, hk⟩
theorem kv_mark5 {op : Nat} (h : op = 5) (l : Nat → Int32) : kv_mark op l = kv_nth (fun b => decide (0 < l b)) 0 16 0 0 := by
  unfold kv_mark
  rw [if_neg (by omega), if_neg (by omega), if_pos h]
theorem kv_mark6 {op : Nat} (h : op = 6) (l : Nat → Int32) : kv_mark op l = kv_nth (fun b => decide (0 < l b)) ((kp_sum (fun b => kp_b (0 < l b)) 16 - 1) / 2) 16 0 0 := by
  unfold kv_mark
  rw [if_neg (by omega), if_neg (by omega), if_neg (by omega), if_pos h]
theorem kv_mark7 {op : Nat} (h : op = 7) (l : Nat → Int32) : kv_mark op l = kv_nth (fun b => decide (0 < l b)) (kp_sum (fun b => kp_b (0 < l b)) 16 - 1) 16 0 0 := by
  unfold kv_mark
  rw [if_neg (by omega), if_neg (by omega), if_neg (by omega), if_neg (by omega)]
theorem oi0 : Int32.ofInt 0 = 0 := rfl
theorem oi1 : Int32.ofInt 1 = 1 := rfl
theorem oi2 : Int32.ofInt 2 = 2 := rfl
theorem oim : Int32.ofInt (-1) = -1 := rfl
section W4
variable {g : Nat × (Nat → Int32)} {d : Nat} {h : ka_H} {R : ka_R → ka_H → Prop}
theorem kc_bitCount (hf : kf g h) {x : Int32} : kp_T (d + 1) 275 [.int x] h (kp_is (.int (kv_bc x)) h) :=
  kq_in hf rfl rfl rfl (kq_seg kp_no 60 ⟨trivial, rfl, rfl⟩)
theorem ko_op (hf : kf g h) {op : Nat} (ho : op < 14) : ka_K h (1000000 + op) = (20, 3) ∧ ka_I h (1000000 + op) 0 = nI op ∧ ka_I h (1000000 + op) 2 = ka_opnd.getD op 0 := by
  have h1 := hf.2.2.2 op
  refine ⟨?_, ?_, ?_⟩
  · rw [h1.1]; unfold kp_sK; rw [if_pos ho]
  · rw [(h1.2 0).1]; unfold kp_sI; rw [if_pos ho, if_pos rfl]; rfl
  · rw [(h1.2 2).1]; unfold kp_sI; rw [if_pos ho, if_neg (by decide), if_pos rfl]
theorem ko_sw (hf : kf g h) (j : Nat) : ka_K h 1000091 = (40, 14) ∧ ka_I h 1000091 j = ka_swm.getD j 0 := by
  have h1 := hf.2.2.2 91
  exact ⟨h1.1, (h1.2 j).1⟩
theorem kc_ordinal (hf : kf g h) {op : Nat} (ho : op < 14) : kp_T (d + 1) 282 [.ref (1000000 + op)] h (kp_is (.int (nI op)) h) := by
  refine kd_in hf rfl rfl rfl (kd_seg kp_no 4 ⟨by rw [(ko_op hf ho).1], ?_⟩)
  rw [(ko_op hf ho).2.1]
  exact ⟨trivial, rfl, rfl⟩
theorem ko_ld (hf : kf g h) {op : Nat} (ho : op < 14) : ((ka_K h 1000091).1 = 30 ∨ (ka_K h 1000091).1 = 40) ∧ vp_in (nI op) (ka_K h 1000091).2 := by
  rw [(ko_sw hf 0).1]
  exact ⟨Or.inr rfl, nI_in (N := 14) ho (by omega)⟩
theorem kv_ps (h : ka_H) (r a : Nat) (b : Nat) (hb : b < 16) : bt (kb_s (kv_pos h r a) 16) b = decide (0 < ka_I h r (16 * a + b)) := by
  rw [kb_bt _ 16 (by omega) b (by omega), decide_eq_true hb, Bool.true_and]; rfl
theorem kv_many (h : ka_H) (r a : Nat) : kv_bc (kb_s (kv_pos h r a) 16) = kp_sum (fun b => kp_b (0 < ka_I h r (16 * a + b))) 16 := by
  rw [kv_bc_s]
  congr 1
  funext b
  unfold kv_pos kp_b
  by_cases e : 0 < ka_I h r (16 * a + b)
  · rw [if_pos (by simpa using e), if_pos e]
  · rw [if_neg (by simpa using e), if_neg e]
theorem kp_opq {d m : Nat} {as : List Value} {h h1 : ka_H} {v : Int32} {Q : ka_R → ka_H → Prop} (hT : kp_T d m as h (kp_is (.int v) h1)) (e : ∀ w, w = v → Q (kp_ri w) h1) : kp_T d m as h Q := by
  obtain ⟨r, h', q, rfl, rfl⟩ := hT
  exact ⟨_, _, q, e _ rfl⟩
theorem kc_markOf (hf : kf g h) {op r a : Nat} (ho : 3 ≤ op ∧ op ≤ 7) (hr : kr h r 256) (ha : a < 16) : kp_T (d + 2) 69 [.ref (1000000 + op), .ref r, .int (nI a)] h (kp_is (.int (kv_mark op (fun y => ka_I h r (16 * a + y)))) h) := by
  refine kd_in hf rfl rfl rfl (kd_seg kp_no 40 ?_)
  refine kq_ci (kc_positives hf hr ha) hf ?_
  refine kq_ci (kc_bitCount hf) hf ⟨by rw [(ko_op hf (by omega)).1], ?_⟩
  refine kq_cn (kc_ordinal hf (op := op) (by omega)) hf ⟨ko_ld hf (by omega), ?_⟩
  rw [nI_clamp (by omega), (ko_sw hf op).2, kv_many]
  have hpk : ∀ k, kv_nth (bt (kb_s (kv_pos h r a) 16)) k 16 0 0 = kv_nth (fun b => decide (0 < ka_I h r (16 * a + b))) k 16 0 0 := fun k => kv_nth_cg k 16 0 0 (fun i _ hi => kv_ps h r a i (by omega))
  rcases (by omega : op = 3 ∨ op = 4 ∨ op = 5 ∨ op = 6 ∨ op = 7) with h3 | h3 | h3 | h3 | h3
  · rw [show ka_swm.getD op 0 = 9 by rw [h3]; rfl, show kv_mark op (fun y => ka_I h r (16 * a + y)) = kv_mark 3 (fun y => ka_I h r (16 * a + y)) by rw [h3]]
    refine ⟨fun _ => ?_, fun c => absurd rfl c⟩
    refine kq_ci (kc_countMark hf hr ha) hf ?_
    exact ⟨trivial, rfl, rfl⟩
  · rw [show ka_swm.getD op 0 = 10 by rw [h3]; rfl]
    refine ⟨fun c => absurd c (by decide), fun _ => ⟨fun _ => ?_, fun c => absurd rfl c⟩⟩
    have e : kv_mark op (fun y => ka_I h r (16 * a + y)) = if kp_sum (fun b => kp_b (0 < ka_I h r (16 * a + b))) 16 = 0 then -1 else kp_sum (fun b => nI b * ka_I h r (16 * a + b)) 16 &&& 15 := by rw [h3]; rfl
    refine ⟨fun c => ?_, fun c => ?_⟩
    · rw [e, if_neg c]
      refine kq_ci (kc_sumMark hf hr ha) hf ?_
      exact ⟨trivial, rfl, rfl⟩
    · rw [e, if_pos c]
      exact ⟨trivial, rfl, rfl⟩
  · rw [show ka_swm.getD op 0 = 11 by rw [h3]; rfl, kv_mark5 h3]
    refine ⟨fun c => absurd c (by decide), fun _ => ⟨fun c => absurd c (by decide), fun _ => ⟨fun _ => ?_, fun c => absurd rfl c⟩⟩⟩
    refine kp_opq (kc_pick hf) (fun w hw => ⟨hf, ?_⟩)
    exact ⟨trivial, by rw [hw, hpk, oi0], rfl⟩
  · rw [show ka_swm.getD op 0 = 12 by rw [h3]; rfl, kv_mark6 h3]
    refine ⟨fun c => absurd c (by decide), fun _ => ⟨fun c => absurd c (by decide), fun _ => ⟨fun c => absurd c (by decide), fun _ => ⟨fun _ => ⟨by decide, ?_⟩, fun c => absurd rfl c⟩⟩⟩⟩
    refine kp_opq (kc_pick hf) (fun w hw => ⟨hf, ?_⟩)
    exact ⟨trivial, by rw [hw, hpk, oi1, oi2], rfl⟩
  · rw [show ka_swm.getD op 0 = 0 by rw [h3]; rfl, kv_mark7 h3]
    refine ⟨fun c => absurd c (by decide), fun _ => ⟨fun c => absurd c (by decide), fun _ => ⟨fun c => absurd c (by decide), fun _ => ⟨fun c => absurd c (by decide), fun _ => ?_⟩⟩⟩⟩
    refine kp_opq (kc_pick hf) (fun w hw => ⟨hf, ?_⟩)
    exact ⟨trivial, by rw [hw, hpk, oi1], rfl⟩
end W4
