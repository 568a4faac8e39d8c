/-! ===== the class's worker: lines ===== -/
theorem kh_st (h : ka_H) (a : Nat) (old v : Nat → Int32) (k : Nat) {x : Int32} (e : v k = x) : ka_sI (ka_sF h a (kh_o old v k)) a k x = ka_sF h a (kh_o old v (k + 1)) := by
  rw [ka_sI_F, ← e, kh_o_s]
def kv_take (op : Nat) (H : Int32) (A : Nat → Int32) (a b : Nat) : Int32 := if op = 1 then A (16 * b + a) else if op = 2 then (if 0 < A (16 * a + b) then 1 else 0) else (if bt H b = true then A (16 * a + b) else 0)
def kv_put (op : Nat) (A B : Nat → Int32) (a b : Nat) : Int32 := if op = 10 then A (16 * a + b) + B (16 * a + b) else if op = 11 then A (16 * a + b) - B (16 * a + b) else (if B (16 * a + b) < A (16 * a + b) then B (16 * a + b) else A (16 * a + b))
section W2
variable {g : Nat × (Nat → Int32)} {d : Nat} {h : ka_H} {R : ka_R → ka_H → Prop}
theorem kc_takeOver (hf : kf g h) {s r q op a : Nat} (hs : (ka_K h s).1 = 5) (ho : ka_P h s 1 = 1000000 + op) (hop : op < 14) (hq : ka_P h s 4 = q) (hQ : kr h q 16) (hr : kr h r 256) (hne : r ≠ 65) (hqe : q ≠ 65) (ha : a < 16)
    (e : R (.inl none) (ka_sF h 65 (kh_o (ka_I h 65) (kv_take op (ka_I h q a) (ka_I h r) a) 16))) : kp_T (d + 1) 66 [.ref 63, .ref s, .ref r, .int (nI a)] h R := by
  have h65 : kr h 65 16 := ⟨kK hf rfl rfl, kZ hf rfl rfl⟩
  have hp : kq_p h s 1 = 1000000 + op := (kq_p_s hf s 1).trans ho
  have hp4 : kq_p h s 4 = q := (kq_p_s hf s 4).trans hq
  refine kd_in hf rfl rfl rfl (kd_seg (fun p => Nat.beq p 3) 4 ?_)
  have hd := kq_for (P := fun k => ∀ z : Value, kd_ex g d 66 R 3 [.ref 63, .ref s, .ref r, .int (nI a), .int (nI k), z] [] (ka_sF h 65 (kh_o (ka_I h 65) (kv_take op (ka_I h q a) (ka_I h r) a) k))) 16 ?_ (fun k hk ih z => ?_)
  · rw [kh_o_0, ka_sF_eta] at hd
    exact hd _
  · intro z
    exact kd_seg (fun p => Nat.beq p 3) 60 ⟨fun _ => e, fun c => absurd c (nI_nlt (b := 16) (by omega) (by omega))⟩
  · refine kd_seg (fun p => Nat.beq p 3) 60 ⟨fun c => absurd (nI_lt (b := 16) hk (by omega)) c, fun _ => ⟨kr_inE hr (nI_cI a k) (by omega) (by omega), ?_⟩⟩
    rw [nI_cI, nI_clamp (by omega), ka_I_Fn h _ hne]
    rw [nI_succ] at ih
    refine ⟨hs, ⟨(show kq_p h s 1 < 1000014 by omega), by decide⟩, fun c => ?_, fun c => ?_⟩
    · have c1 : ¬ op = 1 := fun z => c (by show kq_p h s 1 = 1000001; omega)
      refine ⟨hs, ⟨(show kq_p h s 1 < 1000014 by omega), by decide⟩, fun c2 => ?_, fun c2 => ?_⟩
      · have c3 : ¬ op = 2 := fun z => c2 (by show kq_p h s 1 = 1000002; omega)
        refine ⟨kK hf rfl rfl, hs, ?_⟩
        rw [show kq_p (ka_sF h 65 (kh_o (ka_I h 65) (kv_take op (ka_I h q a) (ka_I h r) a) k)) s 4 = q from hp4]
        refine ⟨kr_in hQ ha (by omega), ?_⟩
        rw [nI_clamp (by omega), ka_I_Fn h _ hqe]
        have hbit := b_bit (ka_I h q a) (n := k) (by omega)
        refine ⟨fun c4 => ⟨kK hf rfl rfl, kr_st h65 hk (by omega), ?_⟩, fun c4 => ⟨kK hf rfl rfl, kr_st h65 hk (by omega), ?_⟩⟩
        · have ev : kv_take op (ka_I h q a) (ka_I h r) a k = 0 := by
            unfold kv_take
            rw [if_neg c1, if_neg c3, if_neg]
            intro z
            rw [if_pos z] at hbit
            exact absurd (hbit.symm.trans c4) (by decide)
          rw [nI_clamp (by omega)]
          rw [← kh_st _ _ _ _ k ev] at ih
          exact ih _
        · have ev : kv_take op (ka_I h q a) (ka_I h r) a k = ka_I h r (16 * a + k) := by
            unfold kv_take
            rw [if_neg c1, if_neg c3, if_pos]
            refine Classical.byContradiction fun z => c4 ?_
            rw [if_neg z] at hbit
            exact hbit
          rw [nI_clamp (by omega)]
          rw [← kh_st _ _ _ _ k ev] at ih
          exact ih _
      · have c3 : op = 2 := by
          have : kq_p h s 1 = 1000002 := c2
          omega
        refine ⟨kK hf rfl rfl, ?_⟩
        refine ⟨fun c4 => ⟨kK hf rfl rfl, kr_st h65 hk (by omega), ?_⟩, fun c4 => ⟨kK hf rfl rfl, kr_st h65 hk (by omega), ?_⟩⟩
        · have ev : kv_take op (ka_I h q a) (ka_I h r) a k = 0 := by
            unfold kv_take
            rw [if_neg c1, if_pos c3, if_neg c4]
          rw [nI_clamp (by omega)]
          rw [← kh_st _ _ _ _ k ev] at ih
          exact ih _
        · have ev : kv_take op (ka_I h q a) (ka_I h r) a k = 1 := by
            unfold kv_take
            rw [if_neg c1, if_pos c3, if_pos c4]
          rw [nI_clamp (by omega)]
          rw [← kh_st _ _ _ _ k ev] at ih
          exact ih _
    · have c1 : op = 1 := by
        have : kq_p h s 1 = 1000001 := c
        omega
      refine ⟨kK hf rfl rfl, ⟨kr_inE hr (nI_cI k a) (by omega) (by omega), ?_⟩⟩
      rw [nI_cI k a, nI_clamp (n := 16 * k + a) (by omega), ka_I_Fn h _ hne]
      refine ⟨kK hf rfl rfl, kr_st h65 hk (by omega), ?_⟩
      have ev : kv_take op (ka_I h q a) (ka_I h r) a k = ka_I h r (16 * k + a) := by
        unfold kv_take
        rw [if_pos c1]
      rw [nI_clamp (by omega)]
      rw [← kh_st _ _ _ _ k ev] at ih
      exact ih _
theorem kc_putTogether (hf : kf g h) {r q op a : Nat} (hop : op < 14) (hr : kr h r 256) (hQ : kr h q 256) (hne : r ≠ 65) (hqe : q ≠ 65) (ha : a < 16)
    (e : R (.inl none) (ka_sF h 65 (kh_o (ka_I h 65) (kv_put op (ka_I h r) (ka_I h q) a) 16))) : kp_T (d + 2) 67 [.ref 63, .ref (1000000 + op), .ref r, .ref q, .int (nI a)] h R := by
  have h65 : kr h 65 16 := ⟨kK hf rfl rfl, kZ hf rfl rfl⟩
  refine kd_in hf rfl rfl rfl (kd_seg (fun p => Nat.beq p 3) 4 ?_)
  have hd := kq_for (P := fun k => ∀ z z' : Value, kd_ex g (d + 1) 67 R 3 [.ref 63, .ref (1000000 + op), .ref r, .ref q, .int (nI a), .int (nI k), z, z'] [] (ka_sF h 65 (kh_o (ka_I h 65) (kv_put op (ka_I h r) (ka_I h q) a) k))) 16 ?_ (fun k hk ih z z' => ?_)
  · rw [kh_o_0, ka_sF_eta] at hd
    exact hd _ _
  · intro z z'
    exact kd_seg (fun p => Nat.beq p 3) 60 ⟨fun _ => e, fun c => absurd c (nI_nlt (b := 16) (by omega) (by omega))⟩
  · refine kd_seg (fun p => Nat.beq p 3) 60 ⟨fun c => absurd (nI_lt (b := 16) hk (by omega)) c, fun _ => ⟨kr_inE hr (nI_cI a k) (by omega) (by omega), ?_⟩⟩
    rw [nI_cI, nI_clamp (by omega), ka_I_Fn h _ hne]
    refine ⟨kr_inE hQ (nI_cI a k) (by omega) (by omega), ?_⟩
    rw [nI_cI, nI_clamp (by omega), ka_I_Fn h _ hqe]
    rw [nI_succ] at ih
    refine ⟨kK hf rfl rfl, ⟨(show 1000000 + op < 1000014 by omega), by decide⟩, fun c => ?_, fun c => ?_⟩
    · have c1 : ¬ op = 10 := fun z => c (by show 1000000 + op = 1000010; omega)
      refine ⟨⟨(show 1000000 + op < 1000014 by omega), by decide⟩, fun c2 => ?_, fun c2 => ?_⟩
      · have c3 : ¬ op = 11 := fun z => c2 (by show 1000000 + op = 1000011; omega)
        refine kq_ci (kc_min (kf_F hf 65 rfl rfl)) (kf_F hf 65 rfl rfl) ?_
        refine ⟨kK hf rfl rfl, kr_st h65 hk (by omega), ?_⟩
        have ev : kv_put op (ka_I h r) (ka_I h q) a k = if ka_I h q (16 * a + k) < ka_I h r (16 * a + k) then ka_I h q (16 * a + k) else ka_I h r (16 * a + k) := by
          unfold kv_put
          rw [if_neg c1, if_neg c3]
        rw [nI_clamp (by omega)]
        rw [← kh_st _ _ _ _ k ev] at ih
        exact ih _ _
      · have c3 : op = 11 := by
          have : 1000000 + op = 1000011 := c2
          omega
        refine ⟨kK hf rfl rfl, kr_st h65 hk (by omega), ?_⟩
        have ev : kv_put op (ka_I h r) (ka_I h q) a k = ka_I h r (16 * a + k) - ka_I h q (16 * a + k) := by
          unfold kv_put
          rw [if_neg c1, if_pos c3]
        rw [nI_clamp (by omega)]
        rw [← kh_st _ _ _ _ k ev] at ih
        exact ih _ _
    · have c1 : op = 10 := by
        have : 1000000 + op = 1000010 := c
        omega
      refine ⟨kK hf rfl rfl, kr_st h65 hk (by omega), ?_⟩
      have ev : kv_put op (ka_I h r) (ka_I h q) a k = ka_I h r (16 * a + k) + ka_I h q (16 * a + k) := by
        unfold kv_put
        rw [if_pos c1]
      rw [nI_clamp (by omega)]
      rw [← kh_st _ _ _ _ k ev] at ih
      exact ih _ _
end W2
