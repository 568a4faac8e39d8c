/-! ===== shelves: a question's node is put ===== -/
/-- stands s ahead of k? -/
def kRp (sp : Nat → Nat) (s : Nat) : Nat → Bool
  | 0 => false
  | k + 1 => kRp sp s k || decide (sp k = s)
def bI (b : Bool) : Int32 := if b = true then 1 else 0
theorem bI_01 (b : Bool) : bI b = 0 ∨ bI b = 1 := by cases b; exact Or.inl rfl; exact Or.inr rfl
theorem kRp_iff {sp : Nat → Nat} {s : Nat} : ∀ k, kRp sp s k = true ↔ ∃ j, j < k ∧ sp j = s
  | 0 => ⟨fun z => (by cases z), fun z => (by obtain ⟨j, hj, _⟩ := z; exact absurd hj (Nat.not_lt_zero j))⟩
  | k + 1 => by
    show (kRp sp s k || decide (sp k = s)) = true ↔ _
    rw [Bool.or_eq_true, kRp_iff k, decide_eq_true_eq]
    constructor
    · intro z
      rcases z with ⟨j, hj, e⟩ | z
      · exact ⟨j, by omega, e⟩
      · exact ⟨k, by omega, z⟩
    · intro ⟨j, hj, e⟩
      rcases Nat.lt_or_ge j k with y | y
      · exact Or.inl ⟨j, y, e⟩
      · exact Or.inr (by rw [show k = j by omega]; exact e)
def kPu (h : ka_H) (b i s : Nat) (be : Int32) (r : Bool) : ka_H := ka_sI (ka_sI (ka_sP (ka_sI h (b + 3) i (bI r)) (b + 1) i s) (b + 2) i be) s 11 (ka_I h s 11 + (if r = true then 0 else 1))
section S9
variable {g : Nat × (Nat → Int32)} {d : Nat} {h : ka_H} {R : ka_R → ka_H → Prop} {b n i s : Nat} {be : Int32} {sp : Nat → Nat}
theorem kc_put (hf : kf g h) (hQ : kQc h b n) (hi : i < 12) (hs : ka_K h s = (5, 14)) (hs1 : 103 ≤ s ∧ s < 1000000) (hsb : s < b ∨ b + 4 ≤ s) (hsp : ∀ k, k < i → ka_P h (b + 1) k = sp k ∧ sp k < 1000000) (h0 : ka_I h (b + 3) i = 0) (hbn : b + 4 ≤ 1000000)
    (e : kf g (kPu h b i s be (kRp sp s i)) → R (.inl none) (kPu h b i s be (kRp sp s i))) : kp_T (d + 1) 38 [.ref b, .int (nI i), .ref s, .int be] h R := by
  obtain ⟨q1, q2, q3, q4, q5, q6, q7, q8, q9, q10, q11⟩ := hQ
  have hpt : ∀ a k, 103 ≤ a → Nat.blt a 103 = true → Nat.beq (pt a k) 0 = true := fun a k ha z => by
    have : a < 103 := Nat.le_of_ble_eq_true z
    omega
  -- the heap while the loop runs
  have fv : ∀ v, kf g (ka_sI h (b + 3) i v) := fun v => kf_sI hf (by rw [q6]; decide)
  have p1 : ∀ v, kq_p (ka_sI h (b + 3) i v) b 1 = b + 1 := fun v => (kq_p_s (fv v) _ _).trans q7
  have p2 : ∀ v, kq_p (ka_sI h (b + 3) i v) b 2 = b + 2 := fun v => (kq_p_s (fv v) _ _).trans q8
  have p3 : ∀ v, kq_p (ka_sI h (b + 3) i v) b 3 = b + 3 := fun v => (kq_p_s (fv v) _ _).trans q9
  have kb : ∀ v, (ka_K (ka_sI h (b + 3) i v) b).1 = 4 := fun v => by show (ka_K h b).1 = 4; rw [q3]
  have k1 : ∀ v, ka_K (ka_sI h (b + 3) i v) (b + 1) = (34, 12) := fun v => q4
  have k2 : ∀ v, ka_K (ka_sI h (b + 3) i v) (b + 2) = (30, 12) := fun v => q5
  have k3 : ∀ v, ka_K (ka_sI h (b + 3) i v) (b + 3) = (31, 12) := fun v => q6
  have main : ∀ m k, k + m = i → kd_ex g d 38 R 17 [.ref b, .int (nI i), .ref s, .int be, .int (nI k)] [] (ka_sI h (b + 3) i (bI (kRp sp s k))) := by
    intro m
    induction m with
    | zero =>
      intro k hk
      have hki : k = i := by omega
      subst hki
      refine kd_seg (fun p => Nat.beq p 17 || Nat.beq p 54) 60 ⟨fun _ => ?_, fun z => absurd z (nI_nlt (by omega) (by omega))⟩
      generalize hr : kRp sp s k = r at e
      have ks : ka_K (ka_sI h (b + 3) k (bI r)) s = (5, 14) := hs
      refine (kd_seg (fun p => Nat.beq p 87) 40 ⟨kb _, ?_⟩ : kd_ex g d 38 R 54 [.ref b, .int (nI k), .ref s, .int be, .int (nI k)] [] (ka_sI h (b + 3) k (bI r)))
      rw [p1]
      refine ⟨⟨Or.inl ⟨by rw [k1], by rw [ks]⟩, by rw [k1]; exact nI_in (N := 12) hi (by omega)⟩, ⟨hpt _ _ (by omega), ?_⟩⟩
      rw [nI_clamp (by omega)]
      have f1 : kf g (ka_sP (ka_sI h (b + 3) k (bI r)) (b + 1) k s) := kf_sP (fv _) (by rw [k1]; decide) (hpt _ _ (by omega))
      have kb1 : (ka_K (ka_sP (ka_sI h (b + 3) k (bI r)) (b + 1) k s) b).1 = 4 := kb 0
      have p21 : kq_p (ka_sP (ka_sI h (b + 3) k (bI r)) (b + 1) k s) b 2 = b + 2 := (kq_p_s f1 _ _).trans ((ka_uN _ _ _ _ (by omega) 2).trans q8)
      refine ⟨kb1, ?_⟩
      rw [p21]
      have k21 : ka_K (ka_sP (ka_sI h (b + 3) k (bI r)) (b + 1) k s) (b + 2) = (30, 12) := q5
      refine ⟨by rw [k21], ⟨by unfold kd_z; rw [k21]; exact nI_in (N := 12) hi (by omega), ?_⟩⟩
      rw [nI_clamp (by omega)]
      have f2 : kf g (ka_sI (ka_sP (ka_sI h (b + 3) k (bI r)) (b + 1) k s) (b + 2) k be) := kf_sI f1 (by rw [k21]; decide)
      unfold kPu at e
      have i11 : ka_I (ka_sI (ka_sP (ka_sI h (b + 3) k (bI r)) (b + 1) k s) (b + 2) k be) s 11 = ka_I h s 11 := (ka_uN _ _ _ _ (by omega) 11).trans (ka_uN _ _ _ _ (by omega) 11)
      have i3 : ka_I (ka_sI (ka_sP (ka_sI h (b + 3) k (bI r)) (b + 1) k s) (b + 2) k be) (b + 3) k = bI r := (ka_uN _ _ _ _ (by omega) k).trans (ka_uS _ _ _ _)
      generalize hH : ka_sI (ka_sP (ka_sI h (b + 3) k (bI r)) (b + 1) k s) (b + 2) k be = H2 at e f2 i11 i3
      have kS2 : (ka_K H2 s).1 = 5 := by rw [← hH]; show (ka_K h s).1 = 5; rw [hs]
      have kB2 : (ka_K H2 b).1 = 4 := by rw [← hH]; exact kb 0
      have k32 : ka_K H2 (b + 3) = (31, 12) := by rw [← hH]; exact q6
      have p32 : kq_p H2 b 3 = b + 3 := (kq_p_s f2 _ _).trans (by rw [← hH]; exact (ka_uN _ _ _ _ (by omega) 3).trans q9)
      have j87 : ∀ v : Int32, v = (if r = true then 0 else 1) → kd_ex g d 38 R 87 [.ref b, .int (nI k), .ref s, .int be, .int (nI k)] [.int v, .int (ka_I h s 11), .ref s] H2 := by
        intro v hv
        refine kd_seg kp_no 10 ⟨kS2, ?_⟩
        rw [hv]
        exact e (kf_sI f2 (by rw [kS2]; decide))
      refine ⟨kS2, ?_⟩
      rw [i11]
      refine ⟨kB2, ?_⟩
      rw [p32]
      refine ⟨⟨Or.inl (by rw [k32]), by rw [k32]; exact nI_in (N := 12) hi (by omega)⟩, ?_⟩
      rw [nI_clamp (by omega), i3]
      cases r with
      | true => exact ⟨fun z => absurd z (by decide), fun _ => j87 0 rfl⟩
      | false => exact ⟨fun _ => j87 1 rfl, fun z => absurd rfl z⟩
    | succ m ih =>
      intro k hk
      refine kd_seg (fun p => Nat.beq p 17 || Nat.beq p 46) 60 ⟨fun z => absurd (nI_lt (by omega) (by omega)) z, fun _ => ⟨kb _, ?_⟩⟩
      rw [p3]
      refine ⟨⟨Or.inl (by rw [k3]), by rw [k3]; exact nI_in (N := 12) hi (by omega)⟩, ⟨kb _, ?_⟩⟩
      rw [p1, nI_clamp (by omega), show ka_I (ka_sI h (b + 3) i (bI (kRp sp s k))) (b + 3) i = bI (kRp sp s k) from ka_uS _ _ _ _]
      refine ⟨⟨by rw [k1]; decide, by rw [k1]; decide, by rw [k1]; exact nI_in (N := 12) (by omega) (by omega)⟩, ?_⟩
      rw [nI_clamp (by omega), show ka_P (ka_sI h (b + 3) i (bI (kRp sp s k))) (b + 1) k = sp k from (hsp k (by omega)).1]
      have hsk := (hsp k (by omega)).2
      have j46 : ∀ v : Int32, bI (kRp sp s k) ||| v = bI (kRp sp s (k + 1)) → kd_ex g d 38 R 46 [.ref b, .int (nI i), .ref s, .int be, .int (nI k)] [.int v, .int (bI (kRp sp s k)), .int (nI i), .ref (b + 3)] (ka_sI h (b + 3) i (bI (kRp sp s k))) := by
        intro v hv
        refine kd_seg (fun p => Nat.beq p 17) 20 ⟨by rw [k3], ?_⟩
        rw [hv]
        refine ⟨⟨by unfold kd_z; rw [k3]; exact nI_in (N := 12) hi (by omega), bI_01 _⟩, ?_⟩
        rw [nI_clamp (by omega), show ka_sI (ka_sI h (b + 3) i (bI (kRp sp s k))) (b + 3) i (bI (kRp sp s (k + 1))) = ka_sI h (b + 3) i (bI (kRp sp s (k + 1))) from by unfold ka_sI; simp only [ka_u_u]]
        have := ih (k + 1) (by omega)
        rw [nI_succ] at this
        exact this
      refine ⟨⟨Nat.lt_trans hsk (by decide), Nat.lt_trans hs1.2 (by decide)⟩, fun z => ?_, fun z => ?_⟩
      · refine j46 0 ?_
        have : decide (sp k = s) = false := decide_eq_false z
        show bI (kRp sp s k) ||| 0 = bI (kRp sp s k || decide (sp k = s))
        rw [this]
        cases kRp sp s k <;> rfl
      · refine j46 1 ?_
        have : decide (sp k = s) = true := decide_eq_true z
        show bI (kRp sp s k) ||| 1 = bI (kRp sp s k || decide (sp k = s))
        rw [this]
        cases kRp sp s k <;> rfl
  have kb0 : (ka_K h b).1 = 4 := by rw [q3]
  refine kd_in hf rfl rfl rfl (kd_seg (fun p => Nat.beq p 17) 30 ⟨fun z => absurd z (nI_n0 (by omega)), fun _ => ⟨kb0, ?_⟩⟩)
  rw [show kq_p h b 1 = b + 1 from (kq_p_s hf _ _).trans q7]
  refine ⟨by rw [q4]; decide, ?_⟩
  rw [q4]
  refine ⟨fun _ => ?_, fun z => absurd (nI_lt (b := 12) hi (by omega)) z⟩
  have hm := main i 0 (Nat.zero_add _)
  rw [show ka_sI h (b + 3) i (bI (kRp sp s 0)) = h from by unfold ka_sI; rw [show ka_u h.2.2.2.1 (b + 3) i (bI (kRp sp s 0)) = h.2.2.2.1 from ka_u_id h0]] at hm
  exact hm
end S9
