/-! ===== feed, fault, back, told ===== -/
/-- byte j of a number, from its left -/
def lB (x : Int32) (j : Nat) : Int32 := (x >>> ((nI 24 - nI (8 * j)) &&& 31)) &&& 255
theorem b_255 (i : Nat) : bt 255 i = decide (i < 8) := by
  rcases Nat.lt_or_ge i 32 with h | h
  · exact (by decide +kernel : ∀ i, i < 32 → bt 255 i = decide (i < 8)) i h
  · rw [b_big h, decide_eq_false (by omega)]
theorem b_ush {x s : Int32} {n : Nat} (hs : ((s.toUInt32 &&& Int32.toUInt32 31).toBitVec % 32).toNat = n) (hn : n < 32) {i : Nat} (hi : n + i < 32) : bt (kv_ush x s) i = bt x (n + i) := by
  unfold bt kv_ush
  show ((x.toUInt32 >>> (s.toUInt32 &&& Int32.toUInt32 31)).toBitVec).getLsbD i = _
  rw [UInt32.toBitVec_shiftRight]
  show (x.toBitVec >>> ((s.toUInt32 &&& Int32.toUInt32 31).toBitVec % 32).toNat).getLsbD i = _
  rw [hs, BitVec.getLsbD_ushiftRight]
theorem lB_ush (x : Int32) {j : Nat} (hj : j < 4) : kv_ush x (nI 24 - nI (8 * j)) &&& 255 = lB x j := by
  have h1 : ∀ j, j < 4 → (((nI 24 - nI (8 * j)).toUInt32 &&& Int32.toUInt32 31).toBitVec % 32).toNat = 24 - 8 * j := by decide +kernel
  have h2 : ∀ j, j < 4 → (nI 24 - nI (8 * j)) = nI (24 - 8 * j) := by decide +kernel
  unfold lB
  refine b_ext fun i hi => ?_
  rw [b_and, b_and, b_255]
  by_cases c : i < 8
  · rw [b_ush (h1 j hj) (by omega) (by omega), h2 j hj, b_sshr _ (by omega) _ (by omega), if_pos (by omega)]
  · rw [decide_eq_false c, Bool.and_false, Bool.and_false]
theorem kv_and255 (x : Int32) : ∃ i, i < 256 ∧ x &&& 255 = nI i := by
  have h : (x &&& 255).toBitVec = BitVec.ofNat 32 ((x &&& 255).toBitVec.toNat) := by simp
  have hlt : (x &&& 255).toBitVec.toNat < 256 := by
    rw [Int32.toBitVec_and, BitVec.toNat_and]
    exact Nat.and_lt_two_pow (n := 8) _ (by decide)
  exact ⟨_, hlt, Int32.toBitVec_inj.mp h⟩
/-- the tape of the class after four more bytes -/
def kPt (h h' : ka_H) (F : Nat) (x : Int32) : Prop := h'.1 = h.1 ∧ h'.2.1 = h.2.1 ∧ (∀ a, ka_K h' a = ka_K h a) ∧ (∀ a, ka_P h' a = ka_P h a) ∧ (∀ a, a ≠ 9 → a ≠ 10 → ka_I h' a = ka_I h a) ∧ (∀ k, k ≠ 1 → ka_I h' 9 k = ka_I h 9 k) ∧ ka_I h' 9 1 = nI (F + 4) ∧ ka_I h' 10 = kh_b (ka_I h 10) F (lB x) 4
section FE
variable {g : Nat × (Nat → Int32)} {d : Nat} {h : ka_H} {R : ka_R → ka_H → Prop}
theorem kc_tput {F : Nat} {x : Int32} (hf : kf g h) (hF : ka_I h 9 1 = nI F) (hF4 : F + 4 ≤ 200) (e : ∀ h', kf g h' → kPt h h' F x → R (.inl none) h') : kp_T (d + 1) 47 [.ref 9, .int x] h R := by
  have s1 : ∀ j, j < 4 → ¬ (nI 24 - nI (8 * j)) < 0 := by decide +kernel
  have s2 : ∀ j, j < 4 → (nI 24 - nI (8 * j)) + Int32.ofInt (-8) = nI 24 - nI (8 * (j + 1)) := by decide +kernel
  have fk : ∀ j, kf g (ka_sI (ka_sF h 10 (kh_b (ka_I h 10) F (lB x) j)) 9 1 (nI (F + j))) := fun j => kf_w (kf_F hf 10 rfl rfl) 9 rfl rfl
  have main := kq_for (P := fun j => kq_ex g d 47 R 3 [.ref 9, .int x, .int (nI 24 - nI (8 * j))] [] (ka_sI (ka_sF h 10 (kh_b (ka_I h 10) F (lB x) j)) 9 1 (nI (F + j)))) 4 ?_ (fun j hj ih => ?_)
  · refine kq_in hf rfl rfl rfl (kq_seg (fun p => Nat.beq p 3) 10 ?_)
    rw [kh_b_0, ka_sF_eta, show ka_sI h 9 1 (nI (F + 0)) = h from by rw [Nat.add_zero, ← hF]; unfold ka_sI; rw [ka_u_id rfl]] at main
    exact main
  · refine kq_seg (fun p => Nat.beq p 3) 40 ⟨fun _ => ?_, fun c => absurd (by decide) c⟩
    refine e _ (fk 4) ⟨rfl, rfl, fun _ => rfl, fun _ => rfl, fun a a1 a2 => ?_, fun k hk => ?_, rfl, ?_⟩
    · rw [kI_o _ _ _ a1]; exact ka_I_Fn _ _ a2
    · rw [ka_IJ _ _ _ _ hk]; exact congrFun (ka_I_Fn _ _ (by decide)) k
    · rw [kI_o _ _ _ (by decide)]; exact ka_I_F _ _ _
  · generalize hH : ka_sI (ka_sF h 10 (kh_b (ka_I h 10) F (lB x) j)) 9 1 (nI (F + j)) = H
    have i91 : ka_I H 9 1 = nI (F + j) := by rw [← hH]; exact ka_IS _ _ _ _
    have i10 : ka_I H 10 = kh_b (ka_I h 10) F (lB x) j := by rw [← hH, kI_o _ _ _ (by decide)]; exact ka_I_F _ _ _
    refine kq_seg (fun p => Nat.beq p 3) 40 ⟨fun c => absurd c (s1 j hj), fun _ => ⟨fun c => absurd (show ka_I H 9 1 < nI 200 by rw [i91]; exact nI_lt (by omega) (by omega)) c, fun _ => ⟨(show vp_in (ka_I H 9 1) 200 by rw [i91]; exact nI_in (by omega) (by omega)), ?_⟩⟩⟩
    rw [i91]
    rw [nI_clamp (by omega)]
    have e1 : ka_I (ka_sI H (kq_p H 9 0) (F + j) (kv_ush x (nI 24 - nI (8 * j)) &&& 255)) 9 1 + 1 = nI (F + (j + 1)) := by
      rw [show ka_I (ka_sI H (kq_p H 9 0) (F + j) (kv_ush x (nI 24 - nI (8 * j)) &&& 255)) 9 1 = nI (F + j) from i91, ← nI_succ]
      rfl
    have e2 : ka_sI (ka_sI H (kq_p H 9 0) (F + j) (kv_ush x (nI 24 - nI (8 * j)) &&& 255)) 9 1 (nI (F + (j + 1))) = ka_sI (ka_sF h 10 (kh_b (ka_I h 10) F (lB x) (j + 1))) 9 1 (nI (F + (j + 1))) := by
      rw [lB_ush x hj, show kq_p H 9 0 = 10 from rfl, ← hH]
      rw [← kh_b_s (ka_I h 10) F (lB x) j rfl, ← ka_sI_F]
      generalize ka_sF h 10 (kh_b (ka_I h 10) F (lB x) j) = H0
      unfold ka_sI
      refine Prod.ext rfl (Prod.ext rfl (Prod.ext rfl (Prod.ext ?_ rfl)))
      funext a k
      show ka_u (ka_u (ka_u H0.2.2.2.1 9 1 (nI (F + j))) 10 (F + j) (lB x j)) 9 1 (nI (F + (j + 1))) a k = ka_u (ka_u H0.2.2.2.1 10 (F + j) (lB x j)) 9 1 (nI (F + (j + 1))) a k
      unfold ka_u
      by_cases c1 : a = 9
      · subst c1
        by_cases c2 : k = 1
        · simp [c2]
        · simp [c2]
      · by_cases c2 : a = 10
        · subst c2; simp
        · simp [c1, c2]
    rw [← e2, ← e1, ← s2 j hj] at ih
    exact ih
end FE
