/-! ===== the class: how far shelves are done, what is told ===== -/
theorem nI_fo {fo n : Nat} (h1 : fo ≤ 100) (h2 : n < 2 ^ 30) : nI n < nI fo - 1 ↔ ¬ fo ≤ n + 1 := by
  by_cases z : fo = 0
  · subst z
    refine ⟨fun y => absurd (Int32.lt_iff_toInt_lt.mp y) ?_, fun y => absurd (Nat.zero_le _) y⟩
    rw [nI_toInt (by omega)]
    show ¬ (n : Int) < -1
    omega
  · rw [nI_m1' (by omega)]
    refine ⟨fun y => ?_, fun y => nI_lt (by omega) (by omega)⟩
    have := (nI_ltI (by omega) (by omega)).mp y
    omega
section FR
variable {g : Nat × (Nat → Int32)} {d : Nat} {h : ka_H} {R : ka_R → ka_H → Prop} {L : kAl} {Q : kAq} {sb qb st : Nat → Nat} {s : Nat} {v e : Int32}
theorem kcs1.K (c : kcs1 L Q sb st h s) : (ka_K h (sb s)).1 = 5 := by rw [c.1.2.1.1]
theorem kcs1.ne (c : kcs1 L Q sb st h s) : sb s ≠ 0 := by have := c.1.1.1; omega
theorem kcs1.p1 (hf : kf g h) (c : kcs1 L Q sb st h s) : kq_p h (sb s) 1 = 1000000 + (qKy Q s).1 := (kq_p_s hf _ _).trans c.1.2.2.1.1
theorem kc_frontOf (hf : kf g h) (hl : kcl L h) (c : kcs1 L Q sb st h s) (h13 : (qKy Q s).1 ≤ 13) : kp_T (d + 1) 129 [.ref 1, .ref (sb s)] h (kp_is (.int (nI (qF L Q s))) h) := by
  refine kd_in hf rfl rfl rfl (kd_seg kp_no 20 ⟨c.K, ?_⟩)
  rw [c.p1 hf]
  refine ⟨⟨(show 1000000 + (qKy Q s).1 < 1000014 by omega), by decide⟩, fun z => ⟨c.K, ⟨trivial, ?_, rfl⟩⟩, fun z => ⟨kK hf (a := 1) rfl rfl, ⟨kK hf (a := 2) rfl rfl, ⟨trivial, ?_, rfl⟩⟩⟩⟩
  · have z' : (qKy Q s).1 ≠ 0 := fun y => z (by rw [y])
    rw [c.2.1 z']
    unfold qF
    rw [if_neg z']
  · have z' : (qKy Q s).1 = 0 := by
      have : 1000000 + (qKy Q s).1 = 1000000 := z
      omega
    rw [show ka_I h (kq_p h 1 0) 7 = nI (lC L) from hl.2.1]
    unfold qF
    rw [if_pos z']
theorem kc_isTold (hf : kf g h) (hl : kcl L h) (hfo : ka_I h 1 11 = nI (qFo Q)) (c : kcs1 L Q sb st h s) (h13 : (qKy Q s).1 ≤ 13) (hF : qF L Q s ≤ 100) (hfo1 : qFo Q ≤ 100) (e1 : kTd1 L Q s e → R (kp_ri 1) h) (e0 : ¬ kTd1 L Q s e → R (kp_ri 0) h) : kp_T (d + 2) 132 [.ref 1, .ref (sb s), .int e] h R := by
  have j31 : ¬ kTd1 L Q s e → kd_ex g (d + 1) 132 R 31 [.ref 1, .ref (sb s), .int e] [] h := fun z => kd_seg kp_no 10 ⟨Or.inl rfl, e0 z⟩
  refine kd_in hf rfl rfl rfl (kd_seg (fun p => Nat.beq p 31) 40 ⟨fun z => absurd z c.ne, fun _ => ⟨fun z => ?_, fun z => ⟨kK hf (a := 1) rfl rfl, ?_⟩⟩⟩)
  · exact j31 (fun ⟨n, y1, y2, _⟩ => by rw [y1] at z; exact absurd z (nI_n0 (by omega)))
  · rw [hfo]
    refine ⟨fun z2 => ?_, fun z2 => ⟨kK hf (a := 1) rfl rfl, ?_⟩⟩
    · refine j31 (fun ⟨n, y1, y2, y3⟩ => ?_)
      have z2' : e < nI (qFo Q) - 1 := z2
      rw [y1, nI_fo hfo1 (by omega)] at z2'
      exact z2' y3
    · refine kq_ci (kc_frontOf hf hl c h13) hf ⟨fun z3 => ?_, fun z3 => ?_⟩
      · exact j31 (fun ⟨n, y1, y2, _⟩ => z3 (by rw [y1]; exact nI_lt y2 (by omega)))
      · obtain ⟨n, hn, rfl⟩ := i32_nat z z3 (by omega)
        refine ⟨Or.inr rfl, e1 ⟨n, rfl, hn, ?_⟩⟩
        have z2' : ¬ nI n < nI (qFo Q) - 1 := z2
        rw [nI_fo hfo1 (by omega)] at z2'
        exact Classical.not_not.mp z2'
theorem kc_isToldWhole {q n : Nat} (hf : kf g h) (hl : kcl L h) (hfo : ka_I h 1 11 = nI (qFo Q)) (hQ : kQc h (qb q) n) (h1 : 1 ≤ n) (hp : ka_P h (qb q + 1) (n - 1) = sb s) (c : kcs1 L Q sb st h s) (h13 : (qKy Q s).1 ≤ 13) (hF : qF L Q s ≤ 100) (hfo1 : qFo Q ≤ 100) (e1 : kTd1 L Q s e → R (kp_ri 1) h) (e0 : ¬ kTd1 L Q s e → R (kp_ri 0) h) : kp_T (d + 3) 133 [.ref 1, .ref (qb q), .int e] h R := by
  have hKb : (ka_K h (qb q)).1 = 4 := by rw [hQ.2.2.1]
  refine kd_in hf rfl rfl rfl (kd_seg kp_no 20 ⟨hKb, ?_⟩)
  refine kc_whole hf hQ h1 ⟨hf, ⟨kK hf (a := 1) rfl rfl, ?_⟩⟩
  rw [hp]
  exact kc_isTold hf hl hfo c h13 hF hfo1 (fun z => ⟨hf, ⟨Or.inr rfl, e1 z⟩⟩) (fun z => ⟨hf, ⟨Or.inl rfl, e0 z⟩⟩)
theorem kc_isToldOne (hf : kf g h) (hl : kcl L h) (hfo : ka_I h 1 11 = nI (qFo Q)) (c : kcs1 L Q sb st h s) (h13 : (qKy Q s).1 ≤ 13) (hF : qF L Q s ≤ 100) (hfo1 : qFo Q ≤ 100) (e1 : kTd1 L Q s e → (e = 0 ∨ kTd1 L Q s (e - 1)) → R (kp_ri 1) h) (e0 : ¬ (kTd1 L Q s e ∧ (e = 0 ∨ kTd1 L Q s (e - 1))) → R (kp_ri 0) h) : kp_T (d + 3) 134 [.ref 1, .ref (sb s), .int e] h R := by
  have j28 : ¬ (kTd1 L Q s e ∧ (e = 0 ∨ kTd1 L Q s (e - 1))) → kd_ex g (d + 2) 134 R 28 [.ref 1, .ref (sb s), .int e] [] h := fun z => kd_seg kp_no 10 ⟨Or.inl rfl, e0 z⟩
  have hK1 : (ka_K h 1).1 = 8 := kK hf rfl rfl
  refine kd_in hf rfl rfl rfl (kd_seg (fun p => Nat.beq p 28) 40 ⟨hK1, ?_⟩)
  refine kc_isTold hf hl hfo c h13 hF hfo1 (fun z => ⟨hf, ⟨fun y => absurd y (by decide), fun _ => ⟨fun y => ⟨Or.inr rfl, e1 z (Or.inl y)⟩, fun y => ⟨hK1, ?_⟩⟩⟩⟩) (fun z => ⟨hf, ⟨fun _ => j28 (fun y => z y.1), fun y => absurd rfl y⟩⟩)
  exact kc_isTold hf hl hfo c h13 hF hfo1 (fun z2 => ⟨hf, ⟨fun y => absurd y (by decide), fun _ => ⟨Or.inr rfl, e1 z (Or.inr z2)⟩⟩⟩) (fun z2 => ⟨hf, ⟨fun _ => j28 (fun u => u.2.elim y z2), fun y => absurd rfl y⟩⟩)
/-- can a shelf be worked -/
abbrev kCw (L : kAl) (Q : kAq) (s : Nat) : Prop := (qKy Q s).1 ≠ 0 ∧ qFr Q s < qF L Q ((qKy Q s).2.2.1 - 1) ∧ ((qKy Q s).2.2.2.1 = 0 ∨ qFr Q s < qF L Q ((qKy Q s).2.2.2.1 - 1))
theorem kc_canBeWorked (hf : kf g h) (hl : kcl L h) (w : kcq L Q sb qb st h) (hs : s < qN Q) (wk : ∀ s, s < qN Q → kKw s (qKy Q s)) (hF : ∀ s, s < qN Q → qF L Q s ≤ 100) (e1 : kCw L Q s → R (kp_ri 1) h) (e0 : ¬ kCw L Q s → R (kp_ri 0) h) : kp_T (d + 2) 130 [.ref 1, .ref (sb s)] h R := by
  obtain ⟨-, -, -, -, cs, -⟩ := w
  have c := cs s hs
  obtain ⟨⟨k1, k2, k3, k4, k5, k6⟩, k7, k8, k9, k10⟩ := wk s hs
  have hK1 : (ka_K h 1).1 = 8 := kK hf rfl rfl
  have j62 : ¬ kCw L Q s → kd_ex g (d + 1) 130 R 62 [.ref 1, .ref (sb s)] [] h := fun z => kd_seg kp_no 10 ⟨Or.inl rfl, e0 z⟩
  refine kd_in hf rfl rfl rfl (kd_seg (fun p => Nat.beq p 62 || Nat.beq p 36) 40 ⟨fun z => absurd z c.ne, fun _ => ⟨c.K, ?_⟩⟩)
  rw [c.p1 hf]
  refine ⟨⟨(show 1000000 + (qKy Q s).1 < 1000014 by omega), by decide⟩, fun z => ?_, fun z => ⟨c.K, ?_⟩⟩
  · refine j62 (fun y => y.1 ?_)
    have : 1000000 + (qKy Q s).1 = 1000000 := z
    omega
  · have z' : (qKy Q s).1 ≠ 0 := fun y => z (by rw [y])
    have h1 := k7 z'
    have hr1 : kq_p h (sb s) 5 = sb ((qKy Q s).2.2.1 - 1) := (kq_p_s hf _ _).trans (c.1.2.2.1.2.2.2.1.trans (by unfold ks_r; rw [if_neg (by omega)]))
    have c1 := cs ((qKy Q s).2.2.1 - 1) (by omega)
    have f1 := hF ((qKy Q s).2.2.1 - 1) (by omega)
    have w1 := (wk ((qKy Q s).2.2.1 - 1) (by omega)).1.1
    have hFs := hF s hs
    unfold qF at hFs
    rw [if_neg z'] at hFs
    rw [hr1]
    refine ⟨fun y => absurd y c1.ne, fun _ => ⟨c.K, ?_⟩⟩
    rw [hr1]
    refine ⟨hK1, ?_⟩
    refine kq_ci (kc_frontOf hf hl c1 w1) hf ⟨c.K, ?_⟩
    rw [c.2.1 z']
    refine ⟨fun y => j62 (fun u => y (nI_lt u.2.1 (by omega))), fun y => ?_⟩
    have y1 := (nI_ltI (by omega) (by omega)).mp y
    have fin : ((qKy Q s).2.2.2.1 = 0 ∨ qFr Q s < qF L Q ((qKy Q s).2.2.2.1 - 1)) → kd_ex g (d + 1) 130 R 58 [.ref 1, .ref (sb s)] [] h := fun u => kd_seg kp_no 10 ⟨Or.inr rfl, e1 ⟨z', y1, u⟩⟩
    refine (kd_seg (fun p => Nat.beq p 62 || Nat.beq p 58) 40 ⟨c.K, ?_⟩ : kd_ex g (d + 1) 130 R 36 [.ref 1, .ref (sb s)] [] h)
    by_cases h2 : (qKy Q s).2.2.2.1 = 0
    · have hr2 : kq_p h (sb s) 6 = 0 := (kq_p_s hf _ _).trans (c.1.2.2.1.2.2.2.2.1.trans (by unfold ks_r; rw [if_pos h2]))
      rw [hr2]
      exact ⟨fun _ => fin (Or.inl h2), fun u => absurd rfl u⟩
    · have hr2 : kq_p h (sb s) 6 = sb ((qKy Q s).2.2.2.1 - 1) := (kq_p_s hf _ _).trans (c.1.2.2.1.2.2.2.2.1.trans (by unfold ks_r; rw [if_neg h2]))
      have c2 := cs ((qKy Q s).2.2.2.1 - 1) (by omega)
      have f2 := hF ((qKy Q s).2.2.2.1 - 1) (by omega)
      have w2 := (wk ((qKy Q s).2.2.2.1 - 1) (by omega)).1.1
      rw [hr2]
      refine ⟨fun u => absurd u c2.ne, fun _ => ⟨c.K, ?_⟩⟩
      rw [hr2]
      refine ⟨hK1, ?_⟩
      refine kq_ci (kc_frontOf hf hl c2 w2) hf ⟨c.K, ?_⟩
      rw [c.2.1 z']
      exact ⟨fun u => j62 (fun t => u (nI_lt (t.2.2.resolve_left h2) (by omega))), fun u => fin (Or.inr ((nI_ltI (by omega) (by omega)).mp u))⟩
end FR
