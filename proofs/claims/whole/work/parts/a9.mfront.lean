/-! ===== the reference: questions, nodes, fronts, what is told ===== -/
theorem kls_at {α : Type} {l : List α} {k : Nat} (h : k < l.length) : ∃ x, l[k]? = some x := ⟨l[k], List.getElem?_eq_getElem h⟩
section MF
variable {g : Nat × (Nat → Int32)} {d : Nat} {h : ka_H} {R : ka_R → ka_H → Prop} {L : kAl} {Q : kAq} {v u e : Int32} {c : Nat}
theorem kc_isQuestion (hf : kf g h) (h0 : ka_I h 72 0 = 0) (m : kmq Q h) (w6 : qQ Q ≤ 6) (e1 : ∀ q, v = nI q → q < qQ Q → qLf Q q = false → R (kp_ri 1) h) (e0 : ¬ kIsQ Q v → R (kp_ri 0) (ka_sI h 72 0 1)) : kp_T (d + 2) 188 [.ref 72, .int v] h R := by
  obtain ⟨m1, -, -, m4, -⟩ := m
  have hiff := kIsN_iff (v := v) (n := qQ Q) (by omega)
  have bad : ¬ kIsQ Q v → kq_ex g (d + 1) 188 R 29 [.ref 72, .int v] [.int 0, .ref 72] h := fun z => by
    refine kq_seg kp_no 10 ?_
    exact kq_ci (kc_may0 (code := 1) hf h0 (by decide)) (kf_m hf) ⟨Or.inl rfl, e0 z⟩
  refine kq_in hf rfl rfl rfl (kq_seg (fun p => Nat.beq p 29) 30 ?_)
  refine kq_ci kc_within hf ?_
  rw [m1, show nI (qQ Q) - Int32.ofInt 1 = nI (qQ Q) - 1 from rfl]
  by_cases z : kIsN (qQ Q) v
  · rw [kp_bT (show Int32.ofInt 0 ≤ v ∧ v ≤ nI (qQ Q) - 1 from hiff.mpr z)]
    obtain ⟨q, rfl, hq⟩ := z
    refine ⟨fun y => absurd y (by decide), fun _ => ⟨nI_in (N := 6) (by omega) (by omega), ?_⟩⟩
    rw [nI_clamp (by omega), show ka_I h (kq_p h 72 10) q = bI (qLf Q q) from (m4 q hq).1]
    refine ⟨fun y => bad (fun ⟨q', y1, y2, y3⟩ => y ?_), fun y => ?_⟩
    · rw [(nI_eq (by omega) (by omega)).mp y1, y3]; rfl
    · refine (kq_seg kp_no 10 ?_ : kq_ex g (d + 1) 188 R 29 [.ref 72, .int (nI q)] [.int 1, .ref 72] h)
      exact kq_ci (kc_may1 (code := 1) hf h0) hf ⟨Or.inr rfl, e1 q rfl hq (bI_0.mp y)⟩
  · rw [kp_bF (show ¬ (Int32.ofInt 0 ≤ v ∧ v ≤ nI (qQ Q) - 1) from fun y => z (hiff.mp y))]
    exact ⟨fun _ => bad (fun ⟨q, y1, y2, _⟩ => z ⟨q, y1, y2⟩), fun y => absurd rfl y⟩
theorem kc_isNode (hf : kf g h) (h0 : ka_I h 72 0 = 0) (m : kmq Q h) (w : kWq c Q) (e1 : ∀ q k, v = nI q → q < qQ Q → qLf Q q = false → u = nI k → k < (qNd Q q).length → R (kp_ri 1) h) (e0 : ¬ kIsQ Q v → R (kp_ri 0) (ka_sI h 72 0 1)) (e2 : ∀ q, v = nI q → q < qQ Q → qLf Q q = false → ¬ kIsN (qNd Q q).length u → R (kp_ri 0) (ka_sI h 72 0 2)) : kp_T (d + 3) 189 [.ref 72, .int v, .int u] h R := by
  have m' := m
  obtain ⟨m1, -, -, m4, -⟩ := m
  refine kq_in hf rfl rfl rfl (kq_seg kp_no 40 ?_)
  refine kc_isQuestion hf h0 m' w.1 (fun q eq hq hlf => ⟨hf, ⟨fun y => absurd y (by decide), fun _ => ?_⟩⟩) (fun z => ⟨kf_m hf, ⟨fun _ => ⟨Or.inl rfl, e0 z⟩, fun y => absurd rfl y⟩⟩)
  subst eq
  have hw := w.1
  have h12 := (w.2.2.2.2 q hq).1.2
  have hiff := kIsN_iff (v := u) (n := (qNd Q q).length) (by omega)
  refine ⟨nI_in (N := 6) (by omega) (by omega), ?_⟩
  rw [nI_clamp (by omega), show ka_I h (kq_p h 72 11) q = _ from (m4 q hq).2.1]
  refine kq_ci kc_within hf ?_
  rw [show nI (qNd Q q).length - Int32.ofInt 1 = nI (qNd Q q).length - 1 from rfl]
  by_cases z : kIsN (qNd Q q).length u
  · rw [kp_bT (show Int32.ofInt 0 ≤ u ∧ u ≤ nI (qNd Q q).length - 1 from hiff.mpr z)]
    refine kq_ci (kc_may1 (code := 2) hf h0) hf ⟨fun y => absurd y (by decide), fun _ => ?_⟩
    obtain ⟨k, y1, y2⟩ := z
    exact ⟨Or.inr rfl, e1 q k rfl hq hlf y1 y2⟩
  · rw [kp_bF (show ¬ (Int32.ofInt 0 ≤ u ∧ u ≤ nI (qNd Q q).length - 1) from fun y => z (hiff.mp y))]
    exact kq_ci (kc_may0 (code := 2) hf h0 (by decide)) (kf_m hf) ⟨fun _ => ⟨Or.inl rfl, e2 q rfl hq hlf z⟩, fun y => absurd rfl y⟩
theorem kc_shelfAt {q k : Nat} (hf : kf g h) (m : kmq Q h) (w : kWq c Q) (hq : q < qQ Q) (hk : k < (qNd Q q).length) : kp_T (d + 1) 190 [.ref 72, .int (nI q), .int (nI k)] h (kp_is (.int (nI (qSh Q q k))) h) := by
  have hw := w.1
  have h12 := (w.2.2.2.2 q hq).1.2
  obtain ⟨x, hx⟩ := kls_at hk
  have e1 : Int32.ofInt 12 * nI q + nI k = nI (12 * q + k) := by rw [nI_12m, nI_add]
  refine kq_in hf rfl rfl rfl (kq_seg kp_no 20 ⟨by rw [e1]; exact nI_in (N := 72) (by omega) (by omega), ?_⟩)
  rw [e1, nI_clamp (by omega), show ka_I h (kq_p h 72 16) (12 * q + k) = _ from ((m.2.2.2.1 q hq).2.2 k x hx).2]
  exact ⟨trivial, rfl, rfl⟩
theorem kc_mfrontOf {s : Nat} (hf : kf g h) (hl : kml L h) (m : kmq Q h) (w : kWq c Q) (hs : s < qN Q) : kp_T (d + 1) 195 [.ref 72, .int (nI s)] h (kp_is (.int (nI (qF L Q s))) h) := by
  have hw := w.1
  have hN := w.2.1
  obtain ⟨m1, m2, q, k, x, hq, hx, hsh, h92⟩ := m.2.2.2.2 s hs
  have hk := kls_lt hx
  have h12 := (w.2.2.2.2 q hq).1.2
  have hky : (qKy Q s).1 = x.1 := by rw [← hsh, ((w.2.2.2.2 q hq).2.2 k x hx).2]; rfl
  have h80 : ka_I h 80 (12 * q + k) = nI x.1 := (((m.2.2.2.1 q hq).2.2 k x hx).1).1
  have hx13 := ((w.2.2.2.2 q hq).2.1 k x hx).1.1
  refine kq_in hf rfl rfl rfl (kq_seg kp_no 20 ⟨nI_in (N := 72) (by omega) (by omega), ?_⟩)
  rw [nI_clamp (by omega), show ka_I h (kq_p h 72 36) s = _ from h92]
  refine ⟨nI_in (N := 72) (by omega) (by omega), ?_⟩
  rw [nI_clamp (by omega), show ka_I h (kq_p h 72 12) (12 * q + k) = _ from h80]
  refine ⟨fun z => ⟨nI_in (N := 72) (by omega) (by omega), ?_⟩, fun z => ⟨trivial, ?_, rfl⟩⟩
  · have z' : (qKy Q s).1 ≠ 0 := fun y => z (by rw [← hky, y]; rfl)
    rw [nI_clamp (by omega), show ka_I h (kq_p h 72 37) s = _ from m1 z']
    unfold qF
    rw [if_neg z']
    exact ⟨trivial, rfl, rfl⟩
  · have z' : (qKy Q s).1 = 0 := by rw [hky]; exact (nI_eq (b := 0) (by omega) (by omega)).mp z
    rw [show ka_I h 72 1 = _ from hl.2.1]
    unfold qF
    rw [if_pos z']
theorem kc_misTold {q k : Nat} (hf : kf g h) (hl : kml L h) (m : kmq Q h) (w : kWq (lC L) Q) (hc : lC L ≤ 100) (hq : q < qQ Q) (hk : k < (qNd Q q).length) (e1 : kTd1 L Q (qSh Q q k) e → R (kp_ri 1) h) (e0 : ¬ kTd1 L Q (qSh Q q k) e → R (kp_ri 0) h) : kp_T (d + 2) 200 [.ref 72, .int (nI q), .int (nI k), .int e] h R := by
  obtain ⟨x, hx⟩ := kls_at hk
  have hs := ((w.2.2.2.2 q hq).2.2 k x hx).1
  have hF : qF L Q (qSh Q q k) ≤ 100 := by
    have := (w.2.2.2.1 _ hs).2
    unfold qF
    split <;> omega
  have hfo := w.2.2.1
  have j32 : ¬ kTd1 L Q (qSh Q q k) e → kq_ex g (d + 1) 200 R 32 [.ref 72, .int (nI q), .int (nI k), .int e] [] h := fun z => kq_seg kp_no 10 ⟨Or.inl rfl, e0 z⟩
  refine kq_in hf rfl rfl rfl (kq_seg (fun p => Nat.beq p 32) 30 ⟨fun z => ?_, fun z => ?_⟩)
  · exact j32 (fun ⟨n, y1, y2, _⟩ => by rw [y1] at z; exact absurd z (nI_n0 (by omega)))
  · refine kq_ci (kc_shelfAt hf m w hq hk) hf ?_
    refine kq_ci (kc_mfrontOf hf hl m w hs) hf ⟨fun z3 => ?_, fun z3 => ?_⟩
    · exact j32 (fun ⟨n, y1, y2, _⟩ => z3 (by rw [y1]; exact nI_lt y2 (by omega)))
    · obtain ⟨n, hn, rfl⟩ := i32_nat z z3 (by omega)
      refine ⟨fun z2 => ?_, fun z2 => ?_⟩
      · have z2' : nI n < ka_I h 72 35 - 1 := z2
        rw [m.2.2.1, nI_fo (by omega) (by omega)] at z2'
        exact j32 (fun ⟨n', y1, y2, y3⟩ => z2' (by rw [(nI_eq (by omega) (by omega)).mp y1]; exact y3))
      · have z2' : ¬ nI n < ka_I h 72 35 - 1 := z2
        rw [m.2.2.1, nI_fo (by omega) (by omega)] at z2'
        exact ⟨Or.inr rfl, e1 ⟨n, rfl, hn, Classical.not_not.mp z2'⟩⟩
theorem kc_misTold' {q k : Nat} (eu : u = nI k) (hf : kf g h) (hl : kml L h) (m : kmq Q h) (w : kWq (lC L) Q) (hc : lC L ≤ 100) (hq : q < qQ Q) (hk : k < (qNd Q q).length) (e1 : kTd1 L Q (qSh Q q k) e → R (kp_ri 1) h) (e0 : ¬ kTd1 L Q (qSh Q q k) e → R (kp_ri 0) h) : kp_T (d + 2) 200 [.ref 72, .int (nI q), .int u, .int e] h R := by
  rw [eu]
  exact kc_misTold hf hl m w hc hq hk e1 e0
theorem kc_isAnswer {q : Nat} (hf : kf g h) (hl : kml L h) (m : kmq Q h) (w : kWq (lC L) Q) (hc : lC L ≤ 100) (hq : q < qQ Q) (e1 : kTd1 L Q (qSh Q q ((qNd Q q).length - 1)) e → R (kp_ri 1) h) (e0 : ¬ kTd1 L Q (qSh Q q ((qNd Q q).length - 1)) e → R (kp_ri 0) h) : kp_T (d + 3) 210 [.ref 72, .int (nI q), .int e] h R := by
  have hw := w.1
  obtain ⟨h1, h12⟩ := (w.2.2.2.2 q hq).1
  refine kq_in hf rfl rfl rfl (kq_seg kp_no 20 ⟨nI_in (N := 6) (by omega) (by omega), ?_⟩)
  rw [nI_clamp (by omega), show ka_I h (kq_p h 72 11) q = _ from (m.2.2.2.1 q hq).2.1]
  exact kc_misTold' (nI_m1' h1) hf hl m w hc hq (by omega) (fun z => ⟨hf, ⟨Or.inr rfl, e1 z⟩⟩) (fun z => ⟨hf, ⟨Or.inl rfl, e0 z⟩⟩)
theorem kc_canWork {q k : Nat} (hf : kf g h) (hl : kml L h) (m : kmq Q h) (w : kWq (lC L) Q) (hc : lC L ≤ 100) (hq : q < qQ Q) (hk : k < (qNd Q q).length) (e1 : kCw L Q (qSh Q q k) → R (kp_ri 1) h) (e0 : ¬ kCw L Q (qSh Q q k) → R (kp_ri 0) h) : kp_T (d + 2) 197 [.ref 72, .int (nI (12 * q + k))] h R := by
  have hw := w.1
  have h12 := (w.2.2.2.2 q hq).1.2
  obtain ⟨x, hx⟩ := kls_at hk
  obtain ⟨hs, hky⟩ := (w.2.2.2.2 q hq).2.2 k x hx
  obtain ⟨n1, n2, n3, n4, -⟩ := ((w.2.2.2.2 q hq).2.1 k x hx).1
  rw [Nat.zero_add] at n3 n4
  obtain ⟨a1, a2, a3, a4, -⟩ := ((m.2.2.2.1 q hq).2.2 k x hx).1
  have h84 := ((m.2.2.2.1 q hq).2.2 k x hx).2
  have hF : ∀ s, s < qN Q → qF L Q s ≤ 100 := fun s hs => by
    have := (w.2.2.2.1 _ hs).2
    unfold qF
    split <;> omega
  have o84 : ∀ k', k' < k → ka_I h 84 (12 * q + k') = nI (qSh Q q k') ∧ qSh Q q k' < qN Q := fun k' h' => by
    obtain ⟨y, hy⟩ := kls_at (l := qNd Q q) (k := k') (by omega)
    exact ⟨((m.2.2.2.1 q hq).2.2 k' y hy).2, ((w.2.2.2.2 q hq).2.2 k' y hy).1⟩
  have key1 : (qKy Q (qSh Q q k)).1 = x.1 := by rw [hky]; rfl
  have key2 : x.1 ≠ 0 → (qKy Q (qSh Q q k)).2.2.1 = qSh Q q x.2.2.1 + 1 := fun z => by rw [hky]; exact if_neg z
  have key3 : (9 ≤ x.1 ∧ x.1 ≤ 12) → (qKy Q (qSh Q q k)).2.2.2.1 = qSh Q q x.2.2.2.1 + 1 := fun z => by rw [hky]; exact if_pos z
  have key4 : ¬ (9 ≤ x.1 ∧ x.1 ≤ 12) → (qKy Q (qSh Q q k)).2.2.2.1 = 0 := fun z => by rw [hky]; exact if_neg z
  refine kq_in hf rfl rfl rfl (kq_seg (fun p => Nat.beq p 74 || Nat.beq p 70) 60 ⟨nI_in (N := 72) (by omega) (by omega), ?_⟩)
  rw [nI_clamp (by omega), show ka_I h (kq_p h 72 12) (12 * q + k) = _ from a1]
  refine ⟨fun z => ⟨nI_in (N := 72) (by omega) (by omega), ?_⟩, fun z => ⟨Or.inl rfl, e0 (fun y => y.1 (by rw [key1]; exact (nI_eq (b := 0) (by omega) (by omega)).mp z))⟩⟩
  have z' : x.1 ≠ 0 := fun y => z (by rw [y]; rfl)
  rw [nI_clamp (by omega), show ka_I h (kq_p h 72 16) (12 * q + k) = _ from h84]
  refine kq_ci (kc_mfrontOf hf hl m w hs) hf ⟨nI_in (N := 72) (by omega) (by omega), ?_⟩
  have hFs : qF L Q (qSh Q q k) = qFr Q (qSh Q q k) := by unfold qF; rw [if_neg (by rw [key1]; exact z')]
  have bFs := hF _ hs
  rw [nI_clamp (by omega), show ka_I h (kq_p h 72 14) (12 * q + k) = _ from a3]
  have hx1 := n3 (by omega)
  refine kq_ci (kc_operandShelf (k := x.2.2.1) hf (by omega) (by omega) (fun _ => by omega)) hf ?_
  rw [if_neg z', (o84 _ hx1).1, if_neg z']
  refine kq_ci (kc_mfrontOf hf hl m w (o84 _ hx1).2) hf ?_
  rw [hFs]
  have j74 : ¬ kCw L Q (qSh Q q k) → ∀ y, kq_ex g (d + 1) 197 R 74 [.ref 72, .int (nI (12 * q + k)), y] [] h := fun z y => kq_seg kp_no 10 ⟨Or.inl rfl, e0 z⟩
  have b1 := hF _ (o84 _ hx1).2
  refine ⟨fun y => j74 (fun t => y ?_) _, fun y => ⟨nI_in (N := 72) (by omega) (by omega), ?_⟩⟩
  · have := t.2.1
    rw [key2 z', Nat.add_sub_cancel] at this
    exact nI_lt this (by omega)
  · have y1 : qFr Q (qSh Q q k) < qF L Q ((qKy Q (qSh Q q k)).2.2.1 - 1) := by
      rw [key2 z', Nat.add_sub_cancel]
      exact (nI_ltI (by omega) (by omega)).mp y
    have fin : ((qKy Q (qSh Q q k)).2.2.2.1 = 0 ∨ qFr Q (qSh Q q k) < qF L Q ((qKy Q (qSh Q q k)).2.2.2.1 - 1)) → kq_ex g (d + 1) 197 R 70 [.ref 72, .int (nI (12 * q + k)), .int (nI (qFr Q (qSh Q q k)))] [] h := fun u => kq_seg kp_no 10 ⟨Or.inr rfl, e1 ⟨by rw [key1]; exact z', y1, u⟩⟩
    rw [nI_clamp (by omega), show ka_I h (kq_p h 72 15) (12 * q + k) = _ from a4]
    by_cases c9 : 9 ≤ x.1 ∧ x.1 ≤ 12
    · have hx2 := n4 c9.1 c9.2
      have b2 := hF _ (o84 _ hx2).2
      rw [if_pos c9]
      refine ⟨fun t => absurd t (nI_ne_m1 (by omega)), fun _ => ⟨nI_in (N := 72) (by omega) (by omega), ?_⟩⟩
      rw [nI_clamp (by omega), show ka_I h (kq_p h 72 15) (12 * q + k) = _ from a4, if_pos c9, show nI x.2.2.2.1 = (if False then -1 else nI x.2.2.2.1) from (if_neg id).symm]
      refine kq_ci (kc_operandShelf (c := False) (k := x.2.2.2.1) hf (by omega) (by omega) (fun _ => by omega)) hf ?_
      rw [if_neg id, (o84 _ hx2).1]
      refine kq_ci (kc_mfrontOf hf hl m w (o84 _ hx2).2) hf ⟨fun t => j74 (fun r => t ?_) _, fun t => fin (Or.inr ?_)⟩
      · have := r.2.2.resolve_left (by rw [key3 c9]; omega)
        rw [key3 c9, Nat.add_sub_cancel] at this
        exact nI_lt this (by omega)
      · rw [key3 c9, Nat.add_sub_cancel]
        exact (nI_ltI (by omega) (by omega)).mp t
    · rw [if_neg c9]
      exact ⟨fun _ => fin (Or.inl (key4 c9)), fun t => absurd rfl t⟩
end MF
