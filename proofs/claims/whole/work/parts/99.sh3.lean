/-! ===== shelves: the class compares ===== -/
theorem nI_n0 {k : Nat} (h : k < 2 ^ 31) : ¬ nI k < 0 := nI_nlt (b := 0) (Nat.zero_le _) h
/-- a question of the class, its four cells from b on -/
def kQc (h : ka_H) (b n : Nat) : Prop := 103 ≤ b ∧ b + 4 ≤ h.1 ∧ ka_K h b = (4, 5) ∧ ka_K h (b + 1) = (34, 12) ∧ ka_K h (b + 2) = (30, 12) ∧ ka_K h (b + 3) = (31, 12) ∧ ka_P h b 1 = b + 1 ∧ ka_P h b 2 = b + 2 ∧ ka_P h b 3 = b + 3 ∧ ka_I h b 0 = nI n ∧ n ≤ 12
section S3
variable {g : Nat × (Nat → Int32)} {d : Nat} {h : ka_H} {R : ka_R → ka_H → Prop} {k en SC b n : Nat} {x : kN}
theorem kc_dat (hf : kf g h) (hen : ka_I h 11 4 = nI en) (hk : k < en) (h12 : en ≤ 12) (e : R (.inl (some (.ref (39 + 2 * k)))) h) : kp_T (d + 1) 16 [.ref 11, .int (nI k)] h R := by
  have hK11 : (ka_K h 11).1 = 1 := kK hf rfl rfl
  have hK12 : (ka_K h (kq_p h 11 2)).1 = 36 := kK hf (a := 12) rfl rfl
  have hZ12 : (ka_K h (kq_p h 11 2)).2 = 12 := kZ hf (a := 12) rfl rfl
  refine kd_in hf rfl rfl rfl (kd_seg kp_no 30 ⟨fun c => absurd c (nI_n0 (by omega)), fun _ => ⟨hK11, ?_⟩⟩)
  rw [hen]
  refine ⟨fun c => absurd (nI_lt hk (by omega)) c, fun _ => ⟨hK11, ⟨by rw [hK12]; decide, ?_⟩⟩⟩
  rw [hZ12]
  refine ⟨fun _ => ⟨hK11, ⟨⟨by rw [hK12]; decide, by rw [hK12]; decide, by rw [hZ12]; exact nI_in (N := 12) (by omega) (by omega)⟩, ?_⟩⟩, fun c => absurd (nI_lt (b := 12) (by omega) (by omega)) c⟩
  rw [nI_clamp (by omega), show ka_P h (kq_p h 11 2) k = 39 + 2 * k from (kE hf (by omega)).1]
  exact e
theorem kc_qat0 (hf : kf g h) (e : R (.inl (some (.ref 0))) h) : kp_T (d + 1) 39 [.ref b, .int (-1)] h R := by
  refine kd_in hf rfl rfl rfl (kd_seg kp_no 30 ⟨fun _ => e, fun c => absurd (by decide) c⟩)
theorem kc_qat1 (hf : kf g h) (hQ : kQc h b n) (hk : k < n) (e : R (.inl (some (.ref (ka_P h (b + 1) k)))) h) : kp_T (d + 1) 39 [.ref b, .int (nI k)] h R := by
  obtain ⟨q1, q2, q3, q4, q5, q6, q7, q8, q9, q10, q11⟩ := hQ
  have hKb : (ka_K h b).1 = 4 := by rw [q3]
  have hp1 : kq_p h b 1 = b + 1 := (kq_p_s hf _ _).trans q7
  refine kd_in hf rfl rfl rfl (kd_seg kp_no 30 ⟨fun c => absurd c (nI_n0 (by omega)), fun _ => ⟨hKb, ?_⟩⟩)
  rw [q10]
  refine ⟨fun c => absurd (nI_lt hk (by omega)) c, fun _ => ⟨hKb, ?_⟩⟩
  rw [hp1]
  refine ⟨by rw [q4]; decide, ?_⟩
  rw [q4]
  refine ⟨fun _ => ⟨hKb, ?_⟩, fun c => absurd (nI_lt (b := 12) (by omega) (by omega)) c⟩
  rw [hp1]
  refine ⟨⟨by rw [q4]; decide, by rw [q4]; decide, by rw [q4]; exact nI_in (N := 12) (by omega) (by omega)⟩, ?_⟩
  rw [nI_clamp (by omega)]
  exact e
theorem kc_hasSigns {c : Nat} {L : List Nat} (hf : kf g h) (hc : kCn (ka_I h) (fun a => ka_P h a 0) k x SC) (hk : k < 12) (hSC : SC ≤ 200) (hK : kr h c L.length) (hL200 : L.length ≤ 200) (hL : ∀ j, j < L.length → ka_I h c j = nI (L.getD j 0)) (v1 : ∀ c, c ∈ x.2.2.2.2.2.1 → kt_vc c) (v2 : ∀ c, c ∈ L → kt_vc c)
    (e1 : x.2.2.2.2.2.1 = L → R (kp_ri 1) h) (e0 : x.2.2.2.2.2.1 ≠ L → R (kp_ri 0) h) : kp_T (d + 1) 18 [.ref 11, .ref (39 + 2 * k), .ref c] h R := by
  obtain ⟨-, -, -, -, -, ⟨sb, s5, s6, s7, s8⟩, -⟩ := hc
  have hKe : (ka_K h (39 + 2 * k)).1 = 3 := (kE hf hk).2.1
  have hK11 : (ka_K h 11).1 = 1 := kK hf rfl rfl
  have hK13 : (ka_K h (kq_p h 11 1)).1 = 0 := kK hf (a := 13) rfl rfl
  refine kd_in hf rfl rfl rfl (kd_seg (fun p => Nat.beq p 18) 40 ⟨hKe, ⟨hKe, ⟨by rw [hK.1]; decide, ?_⟩⟩⟩)
  rw [hK.2, s5, s6, nI_sub (by omega), show sb + x.2.2.2.2.2.1.length - sb = x.2.2.2.2.2.1.length by omega]
  refine ⟨fun cc => ?_, fun cc => ⟨Or.inl rfl, e0 (fun z => cc (by rw [z]; rfl))⟩⟩
  have hl : x.2.2.2.2.2.1.length = L.length := (nI_eq (by omega) (by omega)).mp cc
  have main : ∀ m j, j + m = L.length → (∀ j', j' < j → x.2.2.2.2.2.1.getD j' 0 = L.getD j' 0) → kd_ex g d 18 R 18 [.ref 11, .ref (39 + 2 * k), .ref c, .int (nI j)] [] h := by
    intro m
    induction m with
    | zero =>
      intro j hj hd
      refine kd_seg (fun p => Nat.beq p 18) 40 ⟨by rw [hK.1]; decide, ?_⟩
      rw [hK.2]
      refine ⟨fun _ => ⟨Or.inr rfl, e1 ?_⟩, fun c => absurd c (nI_nlt (b := L.length) (by omega) (by omega))⟩
      exact tM_lst v1 v2 hl (fun j' h' => by rw [hd j' (by omega)])
    | succ m ih =>
      intro j hj hd
      refine kd_seg (fun p => Nat.beq p 18) 40 ⟨by rw [hK.1]; decide, ?_⟩
      rw [hK.2]
      refine ⟨fun c => absurd (nI_lt (b := L.length) (by omega) (by omega)) c, fun _ => ⟨hK11, ⟨hK13, ⟨hKe, ?_⟩⟩⟩⟩
      rw [s5]
      have h38 : kr h (kq_p h (kq_p h 11 1) 4) 200 := ⟨kK hf (a := 38) rfl rfl, kZ hf (a := 38) rfl rfl⟩
      refine ⟨kr_inE h38 (nI_add sb j) (by omega) (by omega), ⟨kr_in hK (by omega) (by omega), ?_⟩⟩
      rw [nI_add, nI_clamp (by omega), nI_clamp (by omega), show ka_I h (kq_p h (kq_p h 11 1) 4) (sb + j) = _ from s8 j (by omega), hL j (by omega)]
      have vj : ∀ (l : List Nat), (∀ c, c ∈ l → kt_vc c) → j < l.length → l.getD j 0 < 2 ^ 31 := fun l hl' hj' => by
        have := hl' _ (List.getElem_mem hj')
        rw [List.getD_eq_getElem?_getD, List.getElem?_eq_getElem hj']
        show l[j] < 2 ^ 31
        unfold kt_vc at this
        omega
      have b1 := vj _ v1 (by omega)
      have b2 := vj _ v2 (by omega)
      refine ⟨fun c => ?_, fun c => ⟨Or.inl rfl, e0 (fun z => c (by rw [z]))⟩⟩
      have ej : x.2.2.2.2.2.1.getD j 0 = L.getD j 0 := (nI_eq b1 b2).mp c
      have := ih (j + 1) (by omega) (fun j' h' => by
        rcases Nat.lt_or_ge j' j with z | z
        · exact hd j' z
        · rw [show j' = j by omega]; exact ej)
      rw [nI_succ] at this
      exact this
  exact main L.length 0 (Nat.zero_add _) (fun j' h' => absurd h' (Nat.not_lt_zero _))
end S3
