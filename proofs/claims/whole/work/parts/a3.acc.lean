/-! ===== the class: what a call asks of questions and shelves ===== -/
theorem i32_nat {v : Int32} {N : Nat} (h0 : ¬ v < 0) (h1 : v < nI N) (hN : N < 2 ^ 31) : ∃ k, k < N ∧ v = nI k := by
  have a1 : (0 : Int) ≤ v.toInt := Int32.le_iff_toInt_le.mp (Int32.not_lt.mp h0)
  have a2 := Int32.lt_iff_toInt_lt.mp h1
  rw [nI_toInt hN] at a2
  exact ⟨v.toInt.toNat, by omega, Int32.toInt_inj.mp (by rw [nI_toInt (by omega)]; omega)⟩
abbrev kIsQ (Q : kAq) (v : Int32) : Prop := ∃ q, v = nI q ∧ q < qQ Q ∧ qLf Q q = false
abbrev kIsN (n : Nat) (v : Int32) : Prop := ∃ k, v = nI k ∧ k < n
/-- how far a shelf is done -/
def qF (L : kAl) (Q : kAq) (s : Nat) : Nat := if (qKy Q s).1 = 0 then lC L else qFr Q s
/-- is an edition told of a shelf -/
abbrev kTd1 (L : kAl) (Q : kAq) (s : Nat) (e : Int32) : Prop := ∃ n, e = nI n ∧ n < qF L Q s ∧ qFo Q ≤ n + 1
theorem bI_0 {b : Bool} : bI b = 0 ↔ b = false := by cases b; exact ⟨fun _ => rfl, fun _ => rfl⟩; exact ⟨fun z => absurd z (by decide), fun z => by cases z⟩
section AC
variable {g : Nat × (Nat → Int32)} {d : Nat} {h : ka_H} {R : ka_R → ka_H → Prop} {L : kAl} {Q : kAq} {sb qb st : Nat → Nat} {v : Int32} {b n : Nat}
theorem kc_qat (hf : kf g h) (hQ : kQc h b n) (e0 : ¬ kIsN n v → R (.inl (some (.ref 0))) h) (e1 : ∀ k, v = nI k → k < n → R (.inl (some (.ref (ka_P h (b + 1) k)))) h) : kp_T (d + 1) 39 [.ref b, .int v] h R := by
  have hQ' := hQ
  obtain ⟨q1, q2, q3, q4, q5, q6, q7, q8, q9, q10, q11⟩ := hQ'
  by_cases c : kIsN n v
  · obtain ⟨k, rfl, hk⟩ := c
    exact kc_qat1 hf hQ hk (e1 k rfl hk)
  · have hKb : (ka_K h b).1 = 4 := by rw [q3]
    refine kd_in hf rfl rfl rfl (kd_seg kp_no 30 ⟨fun _ => e0 c, fun c1 => ⟨hKb, ?_⟩⟩)
    rw [q10]
    refine ⟨fun _ => e0 c, fun c2 => ?_⟩
    obtain ⟨k, hk, e⟩ := i32_nat c1 c2 (by omega)
    exact absurd ⟨k, e, hk⟩ c
theorem kc_askedFor (hf : kf g h) (hb : h.1 < 1000000) (w : kcq L Q sb qb st h) (w6 : qQ Q ≤ 6) (e0 : ¬ kIsQ Q v → R (.inr (2, h.1)) (kx h 2)) (e1 : ∀ q, v = nI q → q < qQ Q → qLf Q q = false → R (.inl (some (.ref (qb q)))) h) : kp_T (d + 1) 121 [.ref 1, .int v] h R := by
  obtain ⟨-, -, -, -, -, p69, cq, -⟩ := w
  have hK1 : (ka_K h 1).1 = 8 := kK hf rfl rfl
  have hK69 : (ka_K h (kq_p h 1 5)).1 = 35 := kK hf (a := 69) rfl rfl
  have hZ69 : (ka_K h (kq_p h 1 5)).2 = 6 := kZ hf (a := 69) rfl rfl
  have bad : ¬ kIsQ Q v → kd_ex g d 121 R 35 [.ref 1, .int v, .ref 0] [] h := fun c => kd_seg kp_no 10 ⟨hb, e0 c⟩
  have j23 : ∀ r, (r = 0 ∧ ¬ kIsQ Q v) ∨ (∃ q, v = nI q ∧ q < qQ Q ∧ r = qb q) → kd_ex g d 121 R 23 [.ref 1, .int v, .retAddr 0] [.ref r] h := by
    intro r hr
    refine kd_seg kp_no 20 ⟨fun z => ?_, fun z => ?_⟩
    · rcases hr with ⟨_, c⟩ | ⟨q, -, hq, e⟩
      · exact ⟨hb, e0 c⟩
      · have := (cq q hq).1.1
        have z' : r = 0 := z
        omega
    · rcases hr with ⟨c, _⟩ | ⟨q, ev, hq, e⟩
      · exact absurd c z
      · obtain ⟨⟨q1, q2, q3, -⟩, q4, -⟩ := cq q hq
        rw [e]
        refine ⟨by rw [q3], ?_⟩
        rw [q4]
        refine ⟨fun y => e1 q ev hq (bI_0.mp y), fun y => ⟨hb, e0 (fun ⟨q', z1, z2, z3⟩ => ?_)⟩⟩
        have : q = q' := (nI_eq (by omega) (by omega)).mp (ev.symm.trans z1)
        rw [← this] at z3
        exact y (bI_0.mpr z3)
  have no6 : ¬ (∃ k, v = nI k ∧ k < 6) → ¬ kIsQ Q v := fun z ⟨q, y1, y2, _⟩ => z ⟨q, y1, by omega⟩
  refine kd_in hf rfl rfl rfl (kd_seg (fun p => Nat.beq p 23) 20 ⟨fun c => ?_, fun c => ⟨hK1, ⟨by rw [hK69]; decide, ?_⟩⟩⟩)
  · exact j23 0 (Or.inl ⟨rfl, no6 (fun ⟨k, y1, y2⟩ => absurd c (by rw [y1]; exact nI_n0 (by omega)))⟩)
  · rw [hZ69]
    refine ⟨fun c2 => ⟨hK1, ?_⟩, fun c2 => j23 0 (Or.inl ⟨rfl, no6 (fun ⟨k, y1, y2⟩ => c2 (by rw [y1]; exact nI_lt (b := 6) y2 (by omega)))⟩)⟩
    obtain ⟨k, hk, rfl⟩ := i32_nat (N := 6) c c2 (by omega)
    refine ⟨⟨by rw [hK69]; decide, by rw [hK69]; decide, by rw [hZ69]; exact nI_in (N := 6) hk (by omega)⟩, ?_⟩
    rw [nI_clamp (by omega)]
    have hp : ka_P h (kq_p h 1 5) k = if k < qQ Q then qb k else 0 := p69 k hk
    by_cases c3 : k < qQ Q
    · rw [if_pos c3] at hp
      exact j23 _ (Or.inr ⟨k, rfl, c3, hp⟩)
    · rw [if_neg c3] at hp
      exact j23 _ (Or.inl ⟨hp, fun ⟨q, y1, y2, _⟩ => c3 (by rw [(nI_eq (by omega) (by omega)).mp y1]; exact y2)⟩)
theorem kc_shelfOf (hf : kf g h) (hb : h.1 < 1000000) (hQ : kQc h b n) (hp : ∀ k, k < n → ka_P h (b + 1) k ≠ 0) (e0 : ¬ kIsN n v → R (.inr (1, h.1)) (kx h 1)) (e1 : ∀ k, v = nI k → k < n → R (.inl (some (.ref (ka_P h (b + 1) k)))) h) : kp_T (d + 2) 122 [.ref b, .int v] h R := by
  have hKb : (ka_K h b).1 = 4 := by rw [hQ.2.2.1]
  refine kd_in hf rfl rfl rfl (kd_seg kp_no 20 ⟨hKb, ?_⟩)
  refine kc_qat hf hQ (fun c => ⟨hf, ⟨fun z => absurd rfl z, fun _ => ⟨hb, e0 c⟩⟩⟩) (fun k ek hk => ⟨hf, ⟨fun _ => e1 k ek hk, fun z => absurd z (hp k hk)⟩⟩)
theorem kc_last (hf : kf g h) (hQ : kQc h b n) : kp_T (d + 1) 42 [.ref b] h (kp_is (.int (nI n - 1)) h) := by
  have hKb : (ka_K h b).1 = 4 := by rw [hQ.2.2.1]
  refine kd_in hf rfl rfl rfl (kd_seg kp_no 20 ⟨hKb, ⟨trivial, ?_, rfl⟩⟩)
  rw [hQ.2.2.2.2.2.2.2.2.2.1]
  rfl
theorem kc_whole (hf : kf g h) (hQ : kQc h b n) (h1 : 1 ≤ n) (e : R (.inl (some (.ref (ka_P h (b + 1) (n - 1))))) h) : kp_T (d + 2) 43 [.ref b] h R := by
  have hKb : (ka_K h b).1 = 4 := by rw [hQ.2.2.1]
  have h12 := hQ.2.2.2.2.2.2.2.2.2.2
  refine kd_in hf rfl rfl rfl (kd_seg kp_no 20 ⟨hKb, ?_⟩)
  refine kq_ci (kc_last hf hQ) hf ⟨hKb, ?_⟩
  rw [show nI n - 1 = nI (n - 1) from nI_sub (b := 1) h1]
  exact kc_qat1 hf hQ (by omega) ⟨hf, e⟩
theorem kc_firstAt {rp : Nat → Bool} {k : Nat} (hf : kf g h) (hQ : kQc h b n) (hk : k < n) (hp : ka_P h (b + 1) k ≠ 0) (h3 : ka_I h (b + 3) k = bI (rp k)) (e0 : rp k = true → R (.inl (some (.ref 0))) h) (e1 : rp k = false → R (.inl (some (.ref (ka_P h (b + 1) k)))) h) : kp_T (d + 2) 40 [.ref b, .int (nI k)] h R := by
  have hQ' := hQ
  obtain ⟨q1, q2, q3, q4, q5, q6, q7, q8, q9, q10, q11⟩ := hQ'
  have hKb : (ka_K h b).1 = 4 := by rw [q3]
  refine kd_in hf rfl rfl rfl (kd_seg kp_no 20 ⟨hKb, ?_⟩)
  refine kc_qat1 hf hQ hk ⟨hf, ⟨fun z => absurd z hp, fun _ => ⟨hKb, ?_⟩⟩⟩
  rw [show kq_p h b 3 = b + 3 from (kq_p_s hf _ _).trans q9]
  refine ⟨⟨Or.inl (by rw [q6]), by rw [q6]; exact nI_in (N := 12) (by omega) (by omega)⟩, ?_⟩
  rw [nI_clamp (by omega), h3]
  refine ⟨fun z => e1 (bI_0.mp z), fun z => e0 ?_⟩
  cases hr : rp k with
  | true => rfl
  | false => exact absurd (bI_0.mpr hr) z
theorem kc_beginOf {k : Nat} {x : Int32} (hf : kf g h) (hQ : kQc h b n) (hk : k < n) (h2 : ka_I h (b + 2) k = x) : kp_T (d + 1) 41 [.ref b, .int (nI k)] h (kp_is (.int x) h) := by
  obtain ⟨q1, q2, q3, q4, q5, q6, q7, q8, q9, q10, q11⟩ := hQ
  have hKb : (ka_K h b).1 = 4 := by rw [q3]
  have hp2 : kq_p h b 2 = b + 2 := (kq_p_s hf _ _).trans q8
  refine kd_in hf rfl rfl rfl (kd_seg kp_no 20 ⟨fun z => absurd z (nI_n0 (by omega)), fun _ => ⟨hKb, ?_⟩⟩)
  rw [hp2]
  refine ⟨by rw [q5]; decide, ?_⟩
  rw [q5]
  refine ⟨fun _ => ⟨hKb, ?_⟩, fun z => absurd (nI_lt (b := 12) (by omega) (by omega)) z⟩
  rw [hp2]
  refine ⟨⟨Or.inl (by rw [q5]), by rw [q5]; exact nI_in (N := 12) (by omega) (by omega)⟩, ?_⟩
  rw [nI_clamp (by omega), h2]
  exact ⟨trivial, rfl, rfl⟩
/-- the shelf of a table -/
theorem kc_ofTable {op : Nat → Nat} {tb : Nat → Int32} {t : Int32} (hf : kf g h) (hQ : kQc h b n) (hs : ∀ k, k < n → ka_P h (b + 1) k ≠ 0 ∧ (ka_K h (ka_P h (b + 1) k)).1 = 5 ∧ ka_P h (ka_P h (b + 1) k) 1 = 1000000 + op k ∧ op k ≤ 13 ∧ ka_I h (ka_P h (b + 1) k) 2 = tb k) (e0 : (∀ k, k < n → ¬ (op k = 0 ∧ tb k = t)) → R (.inl (some (.ref 0))) h) (e1 : ∀ k, k < n → op k = 0 → tb k = t → R (.inl (some (.ref (ka_P h (b + 1) k)))) h) : kp_T (d + 2) 44 [.ref b, .int t] h R := by
  have hQ' := hQ
  obtain ⟨q1, q2, q3, q4, q5, q6, q7, q8, q9, q10, q11⟩ := hQ'
  have hKb : (ka_K h b).1 = 4 := by rw [q3]
  have main : ∀ m k, k + m = n → (∀ k', k' < k → ¬ (op k' = 0 ∧ tb k' = t)) → ∀ z, kd_ex g (d + 1) 44 R 2 [.ref b, .int t, .int (nI k), z] [] h := by
    intro m
    induction m with
    | zero =>
      intro k hk hno z
      refine kd_seg (fun p => Nat.beq p 2) 40 ⟨hKb, ?_⟩
      rw [q10]
      exact ⟨fun _ => e0 (fun k' h' => hno k' (by omega)), fun c => absurd c (nI_nlt (by omega) (by omega))⟩
    | succ m ih =>
      intro k hk hno z
      have nx : ¬ (op k = 0 ∧ tb k = t) → ∀ z, kd_ex g (d + 1) 44 R 2 [.ref b, .int t, .int (nI k + 1), z] [] h := fun y z => by
        have := ih (k + 1) (by omega) (fun k' h' => by
          rcases Nat.lt_or_ge k' k with u | u
          · exact hno k' u
          · rw [show k' = k by omega]; exact y) z
        rw [nI_succ] at this
        exact this
      obtain ⟨s1, s2, s3, s4, s5⟩ := hs k (by omega)
      refine kd_seg (fun p => Nat.beq p 2) 40 ⟨hKb, ?_⟩
      rw [q10]
      refine ⟨fun c => absurd (nI_lt (by omega) (by omega)) c, fun _ => ⟨hKb, ?_⟩⟩
      refine kc_qat1 hf hQ (by omega) ⟨hf, ⟨fun c => absurd c s1, fun _ => ⟨s2, ?_⟩⟩⟩
      rw [show kq_p h (ka_P h (b + 1) k) 1 = _ from (kq_p_s hf _ _).trans s3]
      refine ⟨⟨(show 1000000 + op k < 1000014 by omega), by decide⟩, fun c => nx (fun y => c (by rw [y.1])) _, fun c => ⟨s2, ?_⟩⟩
      have o0 : op k = 0 := by
        have : 1000000 + op k = 1000000 := c
        omega
      rw [s5]
      exact ⟨fun c => nx (fun y => c y.2) _, fun c => e1 k (by omega) o0 c⟩
  refine kd_in hf rfl rfl rfl (kd_seg (fun p => Nat.beq p 2) 20 ?_)
  exact main n 0 (Nat.zero_add _) (fun k' h' => absurd h' (Nat.not_lt_zero _)) _
end AC
