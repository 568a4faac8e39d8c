/-! ===== the law: its loop ===== -/
theorem ks_63 (x : Int32) : ∃ j, j < 64 ∧ x &&& Int32.ofInt 63 = nI j := by
  refine ⟨(x &&& Int32.ofInt 63).toBitVec.toNat, ?_, ?_⟩
  · rw [Int32.toBitVec_and, BitVec.toNat_and]
    exact Nat.lt_of_le_of_lt Nat.and_le_right (by decide)
  · refine Int32.toBitVec_inj.mp ?_
    show _ = BitVec.ofNat 32 (x &&& Int32.ofInt 63).toBitVec.toNat
    rw [BitVec.ofNat_toNat, BitVec.setWidth_eq]
theorem ks_sub8 {L i : Nat} (hL : L ≤ 4096) (hi : i ≤ 5000) : nI L - Int32.ofInt 8 < nI i ↔ L < i + 8 := by
  rcases Nat.lt_or_ge L 8 with c | c
  · have h1 : ∀ L, L < 8 → nI L - Int32.ofInt 8 < 0 := by decide
    refine ⟨fun _ => by omega, fun _ => ?_⟩
    exact Int32.lt_of_lt_of_le (h1 L c) (Int32.not_lt.mp (nI_n0 (by omega)))
  · rw [show nI L - Int32.ofInt 8 = nI (L - 8) from nI_sub (b := 8) c, nI_ltI (by omega) (by omega)]
    omega
theorem ks_ar1 {a b i : Nat} (h1 : a ≤ b + 64) (h2 : b ≤ 103 + 8 * i) : a ≤ 103 + 8 * (i + 8) := by omega
theorem ks_ar2 {a b i : Nat} (h1 : a ≤ b + 9000) (h2 : b ≤ 1000000 + 1125 * i) : a ≤ 1000000 + 1125 * (i + 8) := by
  have e : 1125 * (i + 8) = 1125 * i + 9000 := Nat.mul_add 1125 i 8
  rw [e, ← Nat.add_assoc]
  exact Nat.le_trans h1 (Nat.add_le_add_right h2 9000)
/-- how the law ends -/
def kLR : ka_R → ka_H → Prop := fun r h' => r = kp_ri 1 ∧ h'.1 ≤ 601025 ∧ h'.2.1 ≤ 7293034
theorem kl_head {g : Nat × (Nat → Int32)} (hL : g.1 ≤ 4096) : ∀ (m i : Nat) (A : kA) (h : ka_H) (z5 z6 : Value), g.1 ≤ i + 8 * m → i ≤ g.1 + 8 → kf g h → kWA A → kcA A h → kmA A h → h.1 ≤ 103 + 8 * i → h.2.1 ≤ 1000000 + 1125 * i → kq_ex g 201 0 kLR 23 [.ref 1000092, .ref 1, .ref 72, .ref 102, .int (nI i), z5, z6] [] h := by
  intro m
  induction m with
  | zero =>
    intro i A h z5 z6 hm hi hf w hC hM b1 b2
    refine kq_seg (fun p => Nat.beq p 23 || Nat.beq p 40) 40 ⟨by rw [ks_K hf]; exact ⟨(by decide : 30 ≤ 40), Nat.le_refl _⟩, ?_⟩
    rw [ks_K hf]
    exact ⟨fun _ => ⟨Or.inr rfl, rfl, by omega, by omega⟩, fun c => absurd ((ks_sub8 hL (by omega)).mpr (by omega)) c⟩
  | succ m ih =>
    intro i A h z5 z6 hm hi hf w hC hM b1 b2
    refine kq_seg (fun p => Nat.beq p 23 || Nat.beq p 40) 40 ⟨by rw [ks_K hf]; exact ⟨(by decide : 30 ≤ 40), Nat.le_refl _⟩, ?_⟩
    rw [ks_K hf]
    refine ⟨fun _ => ⟨Or.inr rfl, rfl, by omega, by omega⟩, fun c => ?_⟩
    have hi8 : i + 8 ≤ g.1 := by
      rcases Nat.lt_or_ge g.1 (i + 8) with z | z
      · exact absurd ((ks_sub8 hL (by omega)).mpr z) c
      · exact z
    refine ⟨⟨Or.inr (by rw [ks_K hf]), by rw [ks_K hf]; exact nI_in (by omega) (by omega)⟩, ?_⟩
    rw [nI_clamp (by omega), ks_sc hf]
    obtain ⟨j, hj, ej⟩ := ks_63 (g.2 i)
    have I : kLI g h A i := ⟨hf, hi8, hL, by omega, w, hC, hM⟩
    have fin : ∀ (A' : kA) (h' : ka_H) (z5 z6 : Value), kWA A' → kf g h' → kcA A' h' → kmA A' h' → h'.1 ≤ h.1 + 64 → h'.2.1 ≤ h.2.1 + 9000 → kq_ex g 201 0 kLR 2873 [.ref 1000092, .ref 1, .ref 72, .ref 102, .int (nI i), z5, z6] [] h' := fun A' h' z5 z6 w' f' c' m' n1 n2 => by
      have := ih (i + 8) A' h' z5 z6 (by omega) (by omega) f' w' c' m' (ks_ar1 n1 b1) (ks_ar2 n2 b2)
      rw [show nI (i + 8) = nI i + Int32.ofInt 8 from (nI_add i 8).symm] at this
      exact kq_seg (fun p => Nat.beq p 23) 10 this
    have nx : kLN g kLR h i := fin
    refine (?_ : kq_ex g 201 0 kLR 40 [.ref 1000092, .ref 1, .ref 72, .ref 102, .int (nI i), z5, z6] [.int (g.2 i &&& Int32.ofInt 63)] h)
    rw [ej]
    rcases (by omega : j = 0 ∨ j = 1 ∨ j = 2 ∨ j = 3 ∨ j = 4 ∨ j = 5 ∨ j = 6 ∨ j = 7 ∨ j = 8 ∨ j = 9 ∨ j = 10 ∨ j = 11 ∨ j = 12 ∨ j = 13 ∨ j = 14 ∨ j = 15 ∨ j = 16 ∨ j = 17 ∨ j = 18 ∨ j = 19 ∨ j = 20 ∨ j = 21 ∨ j = 22 ∨ j = 23 ∨ j = 24 ∨ j = 25 ∨ j = 26 ∨ j = 27 ∨ j = 28 ∨ j = 29 ∨ j = 30 ∨ j = 31 ∨ j = 32 ∨ j = 33 ∨ j = 34 ∨ j = 35 ∨ j = 36 ∨ 36 < j) with rfl | rfl | rfl | rfl | rfl | rfl | rfl | rfl | rfl | rfl | rfl | rfl | rfl | rfl | rfl | rfl | rfl | rfl | rfl | rfl | rfl | rfl | rfl | rfl | rfl | rfl | rfl | rfl | rfl | rfl | rfl | rfl | rfl | rfl | rfl | rfl | rfl | z
    · exact kq_tsw (lo := 0) rfl rfl (Nat.zero_le _) (by decide) (by decide) (kl_change I nx z5 z6)
    · exact kq_tsw (lo := 0) rfl rfl (Nat.zero_le _) (by decide) (by decide) (kl_late I nx z5 z6)
    · exact kq_tsw (lo := 0) rfl rfl (Nat.zero_le _) (by decide) (by decide) (kl_room I nx z5 z6)
    · exact kq_tsw (lo := 0) rfl rfl (Nat.zero_le _) (by decide) (by decide) (kl_drop I nx z5 z6)
    · exact kq_tsw (lo := 0) rfl rfl (Nat.zero_le _) (by decide) (by decide) (kl_close I nx z5 z6)
    · exact kq_tsw (lo := 0) rfl rfl (Nat.zero_le _) (by decide) (by decide) (kl_rows I nx z5 z6)
    · exact kq_tsw (lo := 0) rfl rfl (Nat.zero_le _) (by decide) (by decide) (kl_feed I nx z5 z6)
    · exact kq_tsw (lo := 0) rfl rfl (Nat.zero_le _) (by decide) (by decide) (kl_question I nx z5 z6)
    · exact kq_tsw (lo := 0) rfl rfl (Nat.zero_le _) (by decide) (by decide) (kl_fault I nx z5 z6)
    · exact kq_tsw (lo := 0) rfl rfl (Nat.zero_le _) (by decide) (by decide) (kl_leave I nx z5 z6)
    · exact kq_tsw (lo := 0) rfl rfl (Nat.zero_le _) (by decide) (by decide) (kl_nodes I nx z5 z6)
    · exact kq_tsw (lo := 0) rfl rfl (Nat.zero_le _) (by decide) (by decide) (kl_shelf I nx z5 z6)
    · exact kq_tsw (lo := 0) rfl rfl (Nat.zero_le _) (by decide) (by decide) (kl_front I nx z5 z6)
    · exact kq_tsw (lo := 0) rfl rfl (Nat.zero_le _) (by decide) (by decide) (kl_work I nx z5 z6)
    · exact kq_tsw (lo := 0) rfl rfl (Nat.zero_le _) (by decide) (by decide) (kl_finish I nx z5 z6)
    · exact kq_tsw (lo := 0) rfl rfl (Nat.zero_le _) (by decide) (by decide) (kl_weight I nx z5 z6)
    · exact kq_tsw (lo := 0) rfl rfl (Nat.zero_le _) (by decide) (by decide) (kl_answer I nx z5 z6)
    · exact kq_tsw (lo := 0) rfl rfl (Nat.zero_le _) (by decide) (by decide) (kl_size I nx z5 z6)
    · exact kq_tsw (lo := 0) rfl rfl (Nat.zero_le _) (by decide) (by decide) (kl_row I nx z5 z6)
    · exact kq_tsw (lo := 0) rfl rfl (Nat.zero_le _) (by decide) (by decide) (kl_changed I nx z5 z6)
    · exact kq_tsw (lo := 0) rfl rfl (Nat.zero_le _) (by decide) (by decide) (kl_since I nx z5 z6)
    · exact kq_tsw (lo := 0) rfl rfl (Nat.zero_le _) (by decide) (by decide) (kl_fold I nx z5 z6)
    · exact kq_tsw (lo := 0) rfl rfl (Nat.zero_le _) (by decide) (by decide) (kl_reader I nx z5 z6)
    · exact kq_tsw (lo := 0) rfl rfl (Nat.zero_le _) (by decide) (by decide) (kl_gone I nx z5 z6)
    · exact kq_tsw (lo := 0) rfl rfl (Nat.zero_le _) (by decide) (by decide) (kl_way I nx z5 z6)
    · exact kq_tsw (lo := 0) rfl rfl (Nat.zero_le _) (by decide) (by decide) (kl_without I nx z5 z6)
    · exact kq_tsw (lo := 0) rfl rfl (Nat.zero_le _) (by decide) (by decide) (kl_needed I nx z5 z6)
    · exact kq_tsw (lo := 0) rfl rfl (Nat.zero_le _) (by decide) (by decide) (kl_kern I nx z5 z6)
    · exact kq_tsw (lo := 0) rfl rfl (Nat.zero_le _) (by decide) (by decide) (kl_wanted I nx z5 z6)
    · exact kq_tsw (lo := 0) rfl rfl (Nat.zero_le _) (by decide) (by decide) (kl_when I nx z5 z6)
    · exact kq_tsw (lo := 0) rfl rfl (Nat.zero_le _) (by decide) (by decide) (kl_unlike I nx z5 z6)
    · exact kq_tsw (lo := 0) rfl rfl (Nat.zero_le _) (by decide) (by decide) (kl_digest I nx z5 z6)
    · exact kq_tsw (lo := 0) rfl rfl (Nat.zero_le _) (by decide) (by decide) (kl_ready I nx z5 z6)
    · exact kq_tsw (lo := 0) rfl rfl (Nat.zero_le _) (by decide) (by decide) (kl_lacks I nx z5 z6)
    · exact kq_tsw (lo := 0) rfl rfl (Nat.zero_le _) (by decide) (by decide) (kl_told I nx z5 z6)
    · exact kq_tsw (lo := 0) rfl rfl (Nat.zero_le _) (by decide) (by decide) (kl_back I nx z5 z6)
    · exact kq_tsw (lo := 0) rfl rfl (Nat.zero_le _) (by decide) (by decide) (kl_count I nx z5 z6)
    · exact kq_tswN (lo := 0) rfl rfl (fun i hi y => by
        have hi' : i < 37 := hi
        have := (nI_eq (by omega) (by omega)).mp y
        omega) (fin A h z5 z6 w hf hC hM (by omega) (by omega))
