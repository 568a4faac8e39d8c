/-! ===== the class's worker: joins, loops' links, kept lines ===== -/
theorem kh_o_cg {old v v' : Nat → Int32} {n : Nat} (e : ∀ j, j < n → v j = v' j) : kh_o old v n = kh_o old v' n := by
  funext j
  unfold kh_o
  by_cases c : j < n
  · rw [if_pos c, if_pos c, e j c]
  · rw [if_neg c, if_neg c]
def kv_jn (A B : Nat → Int32) (a n c : Nat) : Int32 := kp_sum (fun y => A (16 * a + y) * B (16 * y + c)) n
def kv_join (A B : Nat → Int32) (a c : Nat) : Int32 := kv_jn A B a 16 c
def kx_in (y : Nat) (L : Nat → Int32) : Nat → Nat → Int32
  | 0 => L
  | k + 1 => kh_u (kx_in y L k) k (kx_in y L k k ||| (if bt (kx_in y L k k) y = true then kx_in y L k y else 0))
def kx_ext (L : Nat → Int32) : Nat → Nat → Int32
  | 0 => L
  | j + 1 => kx_in j (kx_ext L j) 16
/-- the line a of an array, its first k numbers replaced -/
def kh_l (old v : Nat → Int32) (a k : Nat) : Nat → Int32 := fun j => if 16 * a ≤ j ∧ j < 16 * a + k then v (j - 16 * a) else old j
theorem kh_l_0 (old v : Nat → Int32) (a : Nat) : kh_l old v a 0 = old := funext fun _ => if_neg (by omega)
theorem kh_l_s (h : ka_H) (r : Nat) (old v : Nat → Int32) (a k : Nat) : ka_sI (ka_sF h r (kh_l old v a k)) r (16 * a + k) (v k) = ka_sF h r (kh_l old v a (k + 1)) := by
  rw [ka_sI_F]
  congr 1
  funext j
  unfold kh_u kh_l
  by_cases e : j = 16 * a + k
  · rw [if_pos e, if_pos (by omega), show j - 16 * a = k by omega]
  · rw [if_neg e]
    by_cases c : 16 * a ≤ j ∧ j < 16 * a + k
    · rw [if_pos c, if_pos (by omega)]
    · rw [if_neg c, if_neg (by omega)]
def kv_alt (f v : Nat → Int32) : Nat → Int32
  | 0 => 0
  | k + 1 => kv_alt f v k ||| (if f k = v k then 0 else 1)
theorem kv_alt_01 (f v : Nat → Int32) : ∀ n, kv_alt f v n = 0 ∨ kv_alt f v n = 1
  | 0 => Or.inl rfl
  | n + 1 => by
    have ih := kv_alt_01 f v n
    unfold kv_alt
    split <;> rcases ih with e | e <;> rw [e] <;> decide
theorem kv_alt_0 (f v : Nat → Int32) : ∀ n, kv_alt f v n = 0 ↔ ∀ b, b < n → f b = v b
  | 0 => ⟨fun _ b hb => absurd hb (Nat.not_lt_zero b), fun _ => rfl⟩
  | n + 1 => by
    have ih := kv_alt_0 f v n
    have h01 := kv_alt_01 f v n
    unfold kv_alt
    by_cases c : f n = v n
    · rw [if_pos c, show kv_alt f v n ||| 0 = kv_alt f v n by rcases h01 with e | e <;> rw [e] <;> decide, ih]
      exact ⟨fun q b hb => by rcases Nat.lt_or_ge b n with z | z; exact q b z; rw [show b = n by omega]; exact c, fun q b hb => q b (by omega)⟩
    · rw [if_neg c]
      refine ⟨fun q => ?_, fun q => absurd (q n (by omega)) c⟩
      rcases h01 with e | e <;> rw [e] at q <;> exact absurd q (by decide)
def kv_meet (A : Nat → Int32) (s : Int32) : Nat → Int32
  | 0 => 0
  | k + 1 => kv_meet A s k ||| (if ¬ A k = 0 ∧ bt s (k % 16) = true then (1 : Int32) <<< (nI (k / 16) &&& 31) else 0)
theorem kv_meet_z (A : Nat → Int32) : ∀ n, kv_meet A 0 n = 0
  | 0 => rfl
  | n + 1 => by
    unfold kv_meet
    rw [kv_meet_z A n, if_neg (by rw [b_0]; simp)]
    rfl
theorem nI_16 {k : Nat} (hk : k < 2 ^ 31) : nI k / Int32.ofInt 16 = nI (k / 16) := nI_div (b := 16) hk (by omega)
theorem nI_r16 {k : Nat} (hk : k < 2 ^ 31) : nI k - nI k / Int32.ofInt 16 * Int32.ofInt 16 = nI (k % 16) := nI_rem (b := 16) hk (by omega)
section W3
variable {g : Nat × (Nat → Int32)} {d : Nat} {h : ka_H} {R : ka_R → ka_H → Prop}
theorem kc_joinLine (hf : kf g h) {r q a : Nat} (hr : kr h r 256) (hQ : kr h q 256) (hne : r ≠ 65) (hqe : q ≠ 65) (ha : a < 16)
    (e : R (.inl none) (ka_sF h 65 (kh_o (ka_I h 65) (kv_join (ka_I h r) (ka_I h q) a) 16))) : kp_T (d + 2) 68 [.ref 63, .ref r, .ref q, .int (nI a)] h R := by
  have h65 : kr h 65 16 := ⟨kK hf rfl rfl, kZ hf rfl rfl⟩
  have inner : ∀ b, b < 16 → (∀ z z', kd_ex g (d + 1) 68 R 11 [.ref 63, .ref r, .ref q, .int (nI a), .int (nI (b + 1)), z, z'] [] (ka_sF h 65 (kh_o (ka_I h 65) (kv_jn (ka_I h r) (ka_I h q) a (b + 1)) 16))) →
      kd_ex g (d + 1) 68 R 32 [.ref 63, .ref r, .ref q, .int (nI a), .int (nI b), .int (ka_I h r (16 * a + b)), .int (nI 0)] [] (ka_sF h 65 (kh_o (ka_I h 65) (kv_jn (ka_I h r) (ka_I h q) a b) 16)) := by
    intro b hb out
    by_cases c0 : ka_I h r (16 * a + b) = 0
    · refine kd_seg (fun p => Nat.beq p 11) 30 ⟨fun _ => ?_, fun c => absurd c0 c⟩
      have ej : kv_jn (ka_I h r) (ka_I h q) a (b + 1) = kv_jn (ka_I h r) (ka_I h q) a b := by
        funext c
        show kp_sum _ b + ka_I h r (16 * a + b) * _ = kp_sum _ b
        rw [c0, Int32.zero_mul, Int32.add_zero]
      rw [ej, nI_succ] at out
      exact out _ _
    · have hd := kq_for (P := fun c => kd_ex g (d + 1) 68 R 32 [.ref 63, .ref r, .ref q, .int (nI a), .int (nI b), .int (ka_I h r (16 * a + b)), .int (nI c)] [] (ka_sF h 65 (kh_o (ka_I h 65) (kh_o (kv_jn (ka_I h r) (ka_I h q) a b) (kv_jn (ka_I h r) (ka_I h q) a (b + 1)) c) 16))) 16 ?_ (fun c hc ih => ?_)
      · rw [kh_o_0] at hd
        exact hd
      · refine kd_seg (fun p => Nat.beq p 11) 40 ⟨fun c => absurd c c0, fun _ => ⟨fun _ => ?_, fun c => absurd c (nI_nlt (b := 16) (by omega) (by omega))⟩⟩
        rw [kh_o_cg (fun j hj => kh_o_T (kv_jn (ka_I h r) (ka_I h q) a b) (kv_jn (ka_I h r) (ka_I h q) a (b + 1)) hj)]
        rw [nI_succ] at out
        exact out _ _
      · refine kd_seg (fun p => Nat.beq p 32) 40 ⟨fun c => absurd c c0, fun _ => ⟨fun c => absurd (nI_lt (b := 16) hc (by omega)) c, fun _ => ⟨kK hf rfl rfl, kr_in h65 hc (by omega), ⟨kr_inE hQ (nI_cI b c) (by omega) (by omega), ?_⟩⟩⟩⟩
        refine ⟨kK hf rfl rfl, kr_st h65 hc (by omega), ?_⟩
        rw [nI_cI, nI_clamp (n := c) (by omega), nI_clamp (n := 16 * b + c) (by omega), ka_I_Fn h _ hqe]
        have e1 : ka_I (ka_sF h 65 (kh_o (ka_I h 65) (kh_o (kv_jn (ka_I h r) (ka_I h q) a b) (kv_jn (ka_I h r) (ka_I h q) a (b + 1)) c) 16)) (kq_p (ka_sF h 65 (kh_o (ka_I h 65) (kh_o (kv_jn (ka_I h r) (ka_I h q) a b) (kv_jn (ka_I h r) (ka_I h q) a (b + 1)) c) 16)) 63 1) c = kv_jn (ka_I h r) (ka_I h q) a b c := by
          show ka_I (ka_sF h 65 _) 65 c = _
          rw [ka_I_F, kh_o_T _ _ hc, kh_o_F _ _ (Nat.lt_irrefl c)]
        rw [e1]
        have e2 : ka_sI (ka_sF h 65 (kh_o (ka_I h 65) (kh_o (kv_jn (ka_I h r) (ka_I h q) a b) (kv_jn (ka_I h r) (ka_I h q) a (b + 1)) c) 16)) 65 c (kv_jn (ka_I h r) (ka_I h q) a b c + ka_I h r (16 * a + b) * ka_I h q (16 * b + c)) = ka_sF h 65 (kh_o (ka_I h 65) (kh_o (kv_jn (ka_I h r) (ka_I h q) a b) (kv_jn (ka_I h r) (ka_I h q) a (b + 1)) (c + 1)) 16) := by
          rw [ka_sI_F]
          congr 1
          funext j
          unfold kh_u
          by_cases e3 : j = c
          · subst e3
            rw [if_pos rfl, kh_o_T _ _ hc, kh_o_T _ _ (Nat.lt_succ_self j)]
            rfl
          · rw [if_neg e3]
            by_cases e4 : j < 16
            · rw [kh_o_T _ _ e4, kh_o_T _ _ e4]
              by_cases e5 : j < c
              · rw [kh_o_T _ _ e5, kh_o_T _ _ (by omega)]
              · rw [kh_o_F _ _ e5, kh_o_F _ _ (by omega)]
            · rw [kh_o_F _ _ e4, kh_o_F _ _ e4]
        rw [nI_succ, ← e2] at ih
        exact ih
  refine kd_in hf rfl rfl rfl (kd_seg (fun p => Nat.beq p 11) 8 ⟨kK hf rfl rfl, ?_⟩)
  have hfl := kc_fill (d := d) hf h65 (by omega) (v := 0)
  refine kq_cv hfl (kf_F hf 65 rfl rfl) ?_
  refine kq_for (P := fun b => ∀ z z', kd_ex g (d + 1) 68 R 11 [.ref 63, .ref r, .ref q, .int (nI a), .int (nI b), z, z'] [] (ka_sF h 65 (kh_o (ka_I h 65) (kv_jn (ka_I h r) (ka_I h q) a b) 16))) 16 ?_ (fun b hb ih z z' => ?_) _ _
  · intro z z'
    exact kd_seg (fun p => Nat.beq p 11) 40 ⟨fun _ => e, fun c => absurd c (nI_nlt (b := 16) (by omega) (by omega))⟩
  · refine kd_seg (fun p => Nat.beq p 32) 40 ⟨fun c => absurd (nI_lt (b := 16) hb (by omega)) c, fun _ => ⟨kr_inE hr (nI_cI a b) (by omega) (by omega), ?_⟩⟩
    rw [nI_cI, nI_clamp (by omega), ka_I_Fn h _ hne]
    exact inner b hb ih
theorem kc_extendLinks (hf : kf g h) (e : R (.inl none) (ka_sF h 66 (kx_ext (ka_I h 66) 16))) : kp_T (d + 1) 75 [.ref 63] h R := by
  have inner : ∀ y L, y < 16 → (∀ z, kq_ex g d 75 R 2 [.ref 63, .int (nI (y + 1)), z] [] (ka_sF h 66 (kx_in y L 16))) → kq_ex g d 75 R 10 [.ref 63, .int (nI y), .int (nI 0)] [] (ka_sF h 66 L) := by
    intro y L hy out
    refine kq_for (P := fun k => kq_ex g d 75 R 10 [.ref 63, .int (nI y), .int (nI k)] [] (ka_sF h 66 (kx_in y L k))) 16 ?_ (fun k hk ih => ?_)
    · refine kq_seg (fun p => Nat.beq p 2) 40 ⟨fun _ => ?_, fun c => absurd c (nI_nlt (b := 16) (by omega) (by omega))⟩
      rw [nI_succ] at out
      exact out _
    · refine kq_seg (fun p => Nat.beq p 10) 40 ⟨fun c => absurd (nI_lt (b := 16) hk (by omega)) c, fun _ => ⟨nI_in (N := 16) hk (by omega), ⟨nI_in (N := 16) hk (by omega), ?_⟩⟩⟩
      rw [nI_clamp (by omega)]
      have e1 : ∀ j, ka_I (ka_sF h 66 (kx_in y L k)) (kq_p (ka_sF h 66 (kx_in y L k)) 63 2) j = kx_in y L k j := fun j => by
        show ka_I (ka_sF h 66 _) 66 j = _
        rw [ka_I_F]
      rw [e1]
      have hbit := b_bit (kx_in y L k k) (n := y) (by omega)
      have e2 : ∀ x, (if bt (kx_in y L k k) y = true then kx_in y L k y else 0) = x → ka_sI (ka_sF h 66 (kx_in y L k)) 66 k (kx_in y L k k ||| x) = ka_sF h 66 (kx_in y L (k + 1)) := fun x ex => by
        rw [ka_sI_F, ← ex]; rfl
      rw [nI_succ] at ih
      refine ⟨fun c => ⟨nI_in (N := 16) hk (by omega), ?_⟩, fun c => ⟨nI_in (N := 16) hy (by omega), ⟨nI_in (N := 16) hk (by omega), ?_⟩⟩⟩
      · have hp : ¬ bt (kx_in y L k k) y = true := fun z => by
          rw [if_pos z] at hbit
          exact absurd (hbit.symm.trans c) (by decide)
        rw [nI_clamp (by omega)]
        rw [← e2 0 (if_neg hp)] at ih
        exact ih
      · have hp : bt (kx_in y L k k) y = true := by
          refine Classical.byContradiction fun z => c ?_
          rw [if_neg z] at hbit
          exact hbit
        rw [nI_clamp (n := y) (by omega), nI_clamp (n := k) (by omega), e1]
        rw [← e2 (kx_in y L k y) (if_pos hp)] at ih
        exact ih
  refine kq_in hf rfl rfl rfl (kq_seg (fun p => Nat.beq p 2) 4 ?_)
  have hd := kq_for (P := fun y => ∀ z, kq_ex g d 75 R 2 [.ref 63, .int (nI y), z] [] (ka_sF h 66 (kx_ext (ka_I h 66) y))) 16 ?_ (fun y hy ih z => ?_)
  · have := hd (.retAddr 0)
    rw [show kx_ext (ka_I h 66) 0 = ka_I h 66 from rfl, ka_sF_eta] at this
    exact this
  · intro z
    exact kq_seg (fun p => Nat.beq p 2) 40 ⟨fun _ => e, fun c => absurd c (nI_nlt (b := 16) (by omega) (by omega))⟩
  · refine kq_seg (fun p => Nat.beq p 10) 40 ⟨fun c => absurd (nI_lt (b := 16) hy (by omega)) c, fun _ => ?_⟩
    exact inner y _ hy ih
theorem kc_keepLine (hf : kf g h) {r a : Nat} (hr : kr h r 256) (hne : r ≠ 65) (ha : a < 16)
    (e : R (kp_ri (kv_alt (fun b => ka_I h r (16 * a + b)) (ka_I h 65) 16)) (ka_sF h r (kh_l (ka_I h r) (ka_I h 65) a 16))) : kp_T (d + 1) 63 [.ref 63, .ref r, .int (nI a)] h R := by
  have h65 : kr h 65 16 := ⟨kK hf rfl rfl, kZ hf rfl rfl⟩
  refine kd_in hf rfl rfl rfl (kd_seg (fun p => Nat.beq p 5) 6 ?_)
  have hd := kq_for (P := fun k => kd_ex g d 63 R 5 [.ref 63, .ref r, .int (nI a), .int (kv_alt (fun b => ka_I h r (16 * a + b)) (ka_I h 65) k), .int (nI k)] [] (ka_sF h r (kh_l (ka_I h r) (ka_I h 65) a k))) 16 ?_ (fun k hk ih => ?_)
  · rw [kh_l_0, ka_sF_eta] at hd
    exact hd
  · exact kd_seg (fun p => Nat.beq p 5) 40 ⟨fun _ => ⟨kv_alt_01 _ _ _, e⟩, fun c => absurd c (nI_nlt (b := 16) (by omega) (by omega))⟩
  · have hfk : kf g (ka_sF h r (kh_l (ka_I h r) (ka_I h 65) a k)) := kf_sF hf hr.1
    refine kd_seg (fun p => Nat.beq p 5) 50 ⟨fun c => absurd (nI_lt (b := 16) hk (by omega)) c, fun _ => ⟨kr_inE hr (nI_cI a k) (by omega) (by omega), ?_⟩⟩
    rw [nI_cI, nI_clamp (by omega), ka_I_F, show kh_l (ka_I h r) (ka_I h 65) a k (16 * a + k) = ka_I h r (16 * a + k) from if_neg (by omega)]
    refine ⟨kK hf rfl rfl, ⟨kr_in h65 hk (by omega), ?_⟩⟩
    have e1 : ka_I (ka_sF h r (kh_l (ka_I h r) (ka_I h 65) a k)) (kq_p (ka_sF h r (kh_l (ka_I h r) (ka_I h 65) a k)) 63 1) k = ka_I h 65 k := by
      show ka_I (ka_sF h r _) 65 k = _
      rw [ka_I_Fn h _ (Ne.symm hne)]
    rw [nI_clamp (by omega), e1]
    have e2 := kh_l_s h r (ka_I h r) (ka_I h 65) a k
    rw [nI_succ, ← e2] at ih
    refine ⟨fun c => ⟨kK hf rfl rfl, ⟨kr_in h65 hk (by omega), hr.1, (by rw [nI_cI]; exact kr_st hr (by omega) (by omega)), ?_⟩⟩, fun c => ⟨kK hf rfl rfl, ⟨kr_in h65 hk (by omega), hr.1, (by rw [nI_cI]; exact kr_st hr (by omega) (by omega)), ?_⟩⟩⟩
    · rw [nI_cI, nI_clamp (n := 16 * a + k) (by omega), nI_clamp (by omega), e1]
      rw [show kv_alt (fun b => ka_I h r (16 * a + b)) (ka_I h 65) (k + 1) = kv_alt (fun b => ka_I h r (16 * a + b)) (ka_I h 65) k ||| 0 by show _ ||| _ = _; rw [if_pos c]] at ih
      exact ih
    · rw [nI_cI, nI_clamp (n := 16 * a + k) (by omega), nI_clamp (by omega), e1]
      rw [show kv_alt (fun b => ka_I h r (16 * a + b)) (ka_I h 65) (k + 1) = kv_alt (fun b => ka_I h r (16 * a + b)) (ka_I h 65) k ||| 1 by show _ ||| _ = _; rw [if_neg c]] at ih
      exact ih
theorem kc_meet (hf : kf g h) {r : Nat} (hr : kr h r 256) {s : Int32} : kp_T (d + 1) 62 [.ref r, .int s] h (kp_is (.int (kv_meet (ka_I h r) s 256)) h) := by
  refine kd_in hf rfl rfl rfl (kd_seg (fun p => Nat.beq p 4) 6 ?_)
  by_cases c0 : s = 0
  · refine kd_seg (fun p => Nat.beq p 4) 20 ⟨fun _ => ?_, fun c => absurd c0 c⟩
    rw [c0, kv_meet_z]
    exact ⟨trivial, rfl, rfl⟩
  · refine kq_for (P := fun k => kd_ex g d 62 (kp_is (.int (kv_meet (ka_I h r) s 256)) h) 4 [.ref r, .int s, .int (kv_meet (ka_I h r) s k), .int (nI k)] [] h) 256 ?_ (fun k hk ih => ?_)
    · exact kd_seg (fun p => Nat.beq p 4) 40 ⟨fun c => absurd c c0, fun _ => ⟨fun _ => ⟨trivial, rfl, rfl⟩, fun c => absurd c (nI_nlt (b := 256) (by omega) (by omega))⟩⟩
    · refine kd_seg (fun p => Nat.beq p 4) 40 ⟨fun c => absurd c c0, fun _ => ⟨fun c => absurd (nI_lt (b := 256) hk (by omega)) c, fun _ => ⟨kr_in hr hk (by omega), ?_⟩⟩⟩
      rw [nI_clamp (by omega)]
      rw [nI_succ] at ih
      have hn : ¬ (¬ ka_I h r k = 0 ∧ bt s (k % 16) = true) → kv_meet (ka_I h r) s (k + 1) = kv_meet (ka_I h r) s k := fun z => by
        show _ ||| _ = _
        rw [if_neg z]
        refine b_ext fun i _ => ?_
        rw [b_or, b_0, Bool.or_false]
      have hbit := b_bit s (n := k % 16) (by omega)
      refine ⟨fun c => ?_, fun c => ⟨by decide, ?_⟩⟩
      · rw [hn (fun z => z.1 c)] at ih
        exact ih
      · rw [nI_r16 (by omega)]
        refine ⟨fun c2 => ?_, fun c2 => ⟨by decide, ?_⟩⟩
        · rw [hn (fun z => by rw [if_pos z.2] at hbit; exact absurd (hbit.symm.trans c2) (by decide))] at ih
          exact ih
        · rw [nI_16 (by omega)]
          have hp : bt s (k % 16) = true := by
            refine Classical.byContradiction fun z => c2 ?_
            rw [if_neg z] at hbit
            exact hbit
          rw [show kv_meet (ka_I h r) s (k + 1) = kv_meet (ka_I h r) s k ||| (1 : Int32) <<< (nI (k / 16) &&& 31) by show _ ||| _ = _; rw [if_pos ⟨c, hp⟩]] at ih
          exact ih
theorem kc_countsOf (hf : kf g h) {s : Nat} {t : Int32} (hs : s = 0 ∨ (ka_K h s).1 = 5) : kp_T (d + 1) 61 [.ref 63, .ref s, .int t] h (kp_is (.ref (if s = 0 then 64 else if t = 0 then ka_P h s 8 else ka_P h s 9)) h) := by
  refine kd_in hf rfl rfl rfl (kd_seg kp_no 20 ⟨fun c => ?_, fun c => ?_⟩)
  · rw [if_neg c]
    have hs5 := hs.resolve_left c
    refine ⟨fun c2 => ⟨hs5, ?_⟩, fun c2 => ⟨hs5, ?_⟩⟩
    · rw [if_pos c2, kq_p_s hf]; exact ⟨rfl, rfl⟩
    · rw [if_neg c2, kq_p_s hf]; exact ⟨rfl, rfl⟩
  · rw [if_pos c]
    exact ⟨kK hf rfl rfl, rfl, rfl⟩
end W3
