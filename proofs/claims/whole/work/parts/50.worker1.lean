/-! ===== the class's worker: small methods ===== -/
section W1
variable {g : Nat × (Nat → Int32)} {d : Nat} {h : ka_H} {R : ka_R → ka_H → Prop}
theorem kc_max (hf : kf g h) {a b : Int32} : kp_T (d + 1) 276 [.int a, .int b] h (kp_is (.int (if a < b then b else a)) h) := by
  refine kq_in hf rfl rfl rfl (kq_seg kp_no 12 ⟨fun c => ?_, fun c => ?_⟩)
  · rw [if_pos c]; exact ⟨trivial, rfl, rfl⟩
  · rw [if_neg c]; exact ⟨trivial, rfl, rfl⟩
theorem kc_min (hf : kf g h) {a b : Int32} : kp_T (d + 1) 277 [.int a, .int b] h (kp_is (.int (if b < a then b else a)) h) := by
  refine kq_in hf rfl rfl rfl (kq_seg kp_no 12 ⟨fun c => ?_, fun c => ?_⟩)
  · rw [if_pos c]; exact ⟨trivial, rfl, rfl⟩
  · rw [if_neg c]; exact ⟨trivial, rfl, rfl⟩
theorem kc_fill (hf : kf g h) {r n : Nat} (hr : kr h r n) (hn : n < 2 ^ 31) {v : Int32} : kp_T (d + 1) 278 [.ref r, .int v] h (kp_vo (ka_sF h r (kh_o (ka_I h r) (fun _ => v) n))) := by
  refine kd_in hf rfl rfl rfl (kd_seg (fun p => Nat.beq p 5) 8 ⟨⟨by rw [hr.1]; decide, by rw [hr.1]; decide⟩, ?_⟩)
  rw [hr.2]
  have hd := kq_for (P := fun k => kd_ex g d 278 (kp_vo (ka_sF h r (kh_o (ka_I h r) (fun _ => v) n))) 5 [.ref r, .int v, .int (nI k), .int (nI n)] [] (ka_sF h r (kh_o (ka_I h r) (fun _ => v) k))) n ?_ (fun k hk ih => ?_)
  · rw [kh_o_0, ka_sF_eta] at hd
    exact hd
  · exact kd_seg (fun p => Nat.beq p 5) 12 ⟨fun _ => ⟨rfl, rfl⟩, fun c => absurd c (nI_nlt (by omega) (by omega))⟩
  · refine kd_seg (fun p => Nat.beq p 5) 12 ⟨fun c => absurd (nI_lt hk (by omega)) c, fun _ => ⟨hr.1, kr_st hr hk hn, ?_⟩⟩
    rw [nI_clamp (by omega), ka_sI_F, kh_o_s (ka_I h r) (fun _ => v)]
    rw [nI_succ] at ih
    exact ih
theorem kc_spread (hf : kf g h) {s : Int32} : kp_T (d + 1) 65 [.ref 63, .int s] h (kp_vo (ka_sF h 65 (kh_o (ka_I h 65) (fun b => s >>> (nI b &&& 31) &&& 1) 16))) := by
  refine kq_in hf rfl rfl rfl (kq_seg (fun p => Nat.beq p 2) 8 ?_)
  have hd := kq_for (P := fun k => kq_ex g d 65 (kp_vo (ka_sF h 65 (kh_o (ka_I h 65) (fun b => s >>> (nI b &&& 31) &&& 1) 16))) 2 [.ref 63, .int s, .int (nI k)] [] (ka_sF h 65 (kh_o (ka_I h 65) (fun b => s >>> (nI b &&& 31) &&& 1) k))) 16 ?_ (fun k hk ih => ?_)
  · rw [kh_o_0, ka_sF_eta] at hd
    exact hd
  · exact kq_seg (fun p => Nat.beq p 2) 16 ⟨fun _ => ⟨rfl, rfl⟩, fun c => absurd c (nI_nlt (b := 16) (by omega) (by omega))⟩
  · refine kq_seg (fun p => Nat.beq p 2) 16 ⟨fun c => absurd (nI_lt (b := 16) hk (by omega)) c, fun _ => ⟨nI_in (N := 16) hk (by omega), ?_⟩⟩
    rw [nI_clamp (by omega)]
    rw [nI_succ, ← kh_o_s _ _ k, ← ka_sI_F] at ih
    exact ih
def kv_pos (h : ka_H) (r a : Nat) : Nat → Bool := fun b => decide (0 < ka_I h r (16 * a + b))
theorem kb_sT {p : Nat → Bool} {k : Nat} (e : p k = true) : kb_s p (k + 1) = kb_s p k ||| (1 : Int32) <<< (nI k &&& 31) := by
  show _ ||| _ = _; rw [if_pos e]
theorem kb_sE {p : Nat → Bool} {k : Nat} (e : ¬ p k = true) : kb_s p (k + 1) = kb_s p k ||| 0 := by
  show _ ||| _ = _; rw [if_neg e]
theorem kc_positives (hf : kf g h) {r a : Nat} (hr : kr h r 256) (ha : a < 16) : kp_T (d + 1) 72 [.ref r, .int (nI a)] h (kp_is (.int (kb_s (kv_pos h r a) 16)) h) := by
  refine kd_in hf rfl rfl rfl (kd_seg (fun p => Nat.beq p 4) 6 ?_)
  refine kq_for (P := fun k => kd_ex g d 72 (kp_is (.int (kb_s (kv_pos h r a) 16)) h) 4 [.ref r, .int (nI a), .int (kb_s (kv_pos h r a) k), .int (nI k)] [] h) 16 ?_ (fun k hk ih => ?_)
  · exact kd_seg (fun p => Nat.beq p 4) 30 ⟨fun _ => ⟨trivial, rfl, rfl⟩, fun c => absurd c (nI_nlt (b := 16) (by omega) (by omega))⟩
  · refine kd_seg (fun p => Nat.beq p 4) 30 ⟨fun c => absurd (nI_lt (b := 16) hk (by omega)) c, fun _ => ⟨kr_inE hr (nI_cI a k) (by omega) (by omega), ?_⟩⟩
    rw [nI_cI, nI_clamp (by omega)]
    rw [nI_succ] at ih
    refine ⟨fun c => ?_, fun c => ?_⟩
    · rw [kb_sE (show ¬ kv_pos h r a k = true by unfold kv_pos; simpa using c)] at ih
      exact ih
    · rw [kb_sT (show kv_pos h r a k = true by unfold kv_pos; simpa using c)] at ih
      exact ih
/-- the k-th b from here on for which p holds -/
def kv_nth (p : Nat → Bool) (k : Int32) : Nat → Int32 → Nat → Int32
  | 0, _, _ => -1
  | j + 1, bf, b => if p b = true then (if bf = k then nI b else kv_nth p k j (bf + 1) (b + 1)) else kv_nth p k j bf (b + 1)
theorem kc_pick (hf : kf g h) {s k : Int32} : kp_T (d + 1) 73 [.int s, .int k] h (kp_is (.int (kv_nth (bt s) k 16 0 0)) h) := by
  refine kq_in hf rfl rfl rfl (kq_seg (fun p => Nat.beq p 4) 6 ?_)
  have head : ∀ j b bf, b + j = 16 → kq_ex g d 73 (kp_is (.int (kv_nth (bt s) k j bf b)) h) 4 [.int s, .int k, .int bf, .int (nI b)] [] h := by
    intro j
    induction j with
    | zero =>
      intro b bf hb
      exact kq_seg (fun p => Nat.beq p 4) 30 ⟨fun _ => ⟨trivial, rfl, rfl⟩, fun c => absurd c (nI_nlt (b := 16) (by omega) (by omega))⟩
    | succ j ih =>
      intro b bf hb
      refine kq_seg (fun p => Nat.beq p 4) 30 ⟨fun c => absurd (nI_lt (b := 16) (by omega) (by omega)) c, fun _ => ?_⟩
      have hbit := b_bit s (n := b) (by omega)
      unfold kv_nth
      refine ⟨fun c => ?_, fun c => ?_⟩
      · have hp : ¬ bt s b = true := fun e => by
          rw [if_pos e] at hbit
          exact absurd (hbit.symm.trans c) (by decide)
        rw [if_neg hp]
        have := ih (b + 1) bf (by omega)
        rw [nI_succ] at this
        exact this
      · have hp : bt s b = true := by
          refine Classical.byContradiction fun e => c ?_
          rw [if_neg e] at hbit
          exact hbit
        rw [if_pos hp]
        refine ⟨fun c2 => ?_, fun c2 => ?_⟩
        · rw [if_neg c2]
          have := ih (b + 1) (bf + 1) (by omega)
          rw [nI_succ] at this
          exact this
        · rw [if_pos c2]
          exact ⟨trivial, rfl, rfl⟩
  exact head 16 0 0 (by omega)
/-- a line's numbers -/
def kv_ln (h : ka_H) (r a : Nat) : Nat → Int32 := fun b => ka_I h r (16 * a + b)
theorem kc_countMark (hf : kf g h) {r a : Nat} (hr : kr h r 256) (ha : a < 16) : kp_T (d + 1) 70 [.ref r, .int (nI a)] h (kp_is (.int (if 0 < kp_sum (kv_ln h r a) 16 then (if kp_sum (kv_ln h r a) 16 < 16 then kp_sum (kv_ln h r a) 16 else 15) else -1)) h) := by
  refine kd_in hf rfl rfl rfl (kd_seg (fun p => Nat.beq p 4) 6 ?_)
  refine kq_for (P := fun k => kd_ex g d 70 _ 4 [.ref r, .int (nI a), .int (kp_sum (kv_ln h r a) k), .int (nI k)] [] h) 16 ?_ (fun k hk ih => ?_)
  · refine kd_seg (fun p => Nat.beq p 4) 30 ⟨fun _ => ⟨fun c => ?_, fun c => ?_⟩, fun c => absurd c (nI_nlt (b := 16) (by omega) (by omega))⟩
    · rw [if_pos c]
      refine ⟨fun c2 => ?_, fun c2 => ?_⟩
      · rw [if_neg (c := kp_sum (kv_ln h r a) 16 < 16) c2]; exact ⟨trivial, rfl, rfl⟩
      · rw [if_pos (c := kp_sum (kv_ln h r a) 16 < 16) c2]; exact ⟨trivial, rfl, rfl⟩
    · rw [if_neg c]; exact ⟨trivial, rfl, rfl⟩
  · refine kd_seg (fun p => Nat.beq p 4) 30 ⟨fun c => absurd (nI_lt (b := 16) hk (by omega)) c, fun _ => ⟨kr_inE hr (nI_cI a k) (by omega) (by omega), ?_⟩⟩
    rw [nI_cI, nI_clamp (by omega)]
    rw [nI_succ] at ih
    exact ih
def kv_lm (h : ka_H) (r a : Nat) : Nat → Int32 := fun b => nI b * ka_I h r (16 * a + b)
theorem kc_sumMark (hf : kf g h) {r a : Nat} (hr : kr h r 256) (ha : a < 16) : kp_T (d + 1) 71 [.ref r, .int (nI a)] h (kp_is (.int (kp_sum (kv_lm h r a) 16 &&& 15)) h) := by
  refine kd_in hf rfl rfl rfl (kd_seg (fun p => Nat.beq p 4) 6 ?_)
  refine kq_for (P := fun k => kd_ex g d 71 _ 4 [.ref r, .int (nI a), .int (kp_sum (kv_lm h r a) k), .int (nI k)] [] h) 16 ?_ (fun k hk ih => ?_)
  · exact kd_seg (fun p => Nat.beq p 4) 30 ⟨fun _ => ⟨trivial, rfl, rfl⟩, fun c => absurd c (nI_nlt (b := 16) (by omega) (by omega))⟩
  · refine kd_seg (fun p => Nat.beq p 4) 30 ⟨fun c => absurd (nI_lt (b := 16) hk (by omega)) c, fun _ => ⟨kr_inE hr (nI_cI a k) (by omega) (by omega), ?_⟩⟩
    rw [nI_cI, nI_clamp (by omega)]
    rw [nI_succ] at ih
    exact ih
theorem kc_link (hf : kf g h) {r : Nat} (hr : kr h r 256) (hne : r ≠ 66) : kp_T (d + 2) 74 [.ref 63, .ref r] h (kp_vo (ka_sF h 66 (kh_o (ka_I h 66) (fun a => kb_s (kv_pos h r a) 16) 16))) := by
  refine kd_in hf rfl rfl rfl (kd_seg (fun p => Nat.beq p 2) 4 ?_)
  have hd := kq_for (P := fun k => kd_ex g (d + 1) 74 (kp_vo (ka_sF h 66 (kh_o (ka_I h 66) (fun a => kb_s (kv_pos h r a) 16) 16))) 2 [.ref 63, .ref r, .int (nI k)] [] (ka_sF h 66 (kh_o (ka_I h 66) (fun a => kb_s (kv_pos h r a) 16) k))) 16 ?_ (fun k hk ih => ?_)
  · rw [kh_o_0, ka_sF_eta] at hd
    exact hd
  · exact kd_seg (fun p => Nat.beq p 2) 16 ⟨fun _ => ⟨rfl, rfl⟩, fun c => absurd c (nI_nlt (b := 16) (by omega) (by omega))⟩
  · have hf' : kf g (ka_sF h 66 (kh_o (ka_I h 66) (fun a => kb_s (kv_pos h r a) 16) k)) := kf_F hf 66 rfl rfl
    refine kd_seg (fun p => Nat.beq p 2) 16 ⟨fun c => absurd (nI_lt (b := 16) hk (by omega)) c, fun _ => ⟨kK hf rfl rfl, ?_⟩⟩
    have hp := kc_positives (d := d) (h := ka_sF h 66 (kh_o (ka_I h 66) (fun a => kb_s (kv_pos h r a) 16) k)) hf' (r := r) hr hk
    rw [show kv_pos (ka_sF h 66 (kh_o (ka_I h 66) (fun a => kb_s (kv_pos h r a) 16) k)) r k = kv_pos h r k by unfold kv_pos; rw [ka_I_Fn h _ hne]] at hp
    refine kq_ci hp hf' ⟨kK hf rfl rfl, kr_st (⟨kK hf rfl rfl, kZ hf rfl rfl⟩ : kr h 66 16) hk (by omega), ?_⟩
    rw [nI_clamp (by omega)]
    rw [nI_succ, ← kh_o_s _ _ k, ← ka_sI_F] at ih
    exact ih
end W1
