/-! ===== nodes, shelf, front, work, ready ===== -/
def kmp21 (c e : Nat) : Prop := (c = 1 ∧ e = 2) ∨ (c = 2 ∧ e = 1)
theorem kWq.F {L : kAl} {Q : kAq} (w : kWq (lC L) Q) (hc : lC L ≤ 100) : ∀ s, s < qN Q → qF L Q s ≤ 100 := fun s hs => by
  have := (w.2.2.2.1 _ hs).2
  unfold qF
  split <;> omega
/-- a node's shelf -/
theorem kcq.nd {L : kAl} {Q : kAq} {sb qb st : Nat → Nat} {h : ka_H} {c q k : Nat} (w : kcq L Q sb qb st h) (wq : kWq c Q) (hq : q < qQ Q) (hk : k < (qNd Q q).length) : ka_P h (qb q + 1) k = sb (qSh Q q k) ∧ qSh Q q k < qN Q ∧ kcs1 L Q sb st h (qSh Q q k) ∧ (qKy Q (qSh Q q k)).1 ≤ 13 := by
  obtain ⟨x, hx⟩ := kls_at hk
  have hs := ((wq.2.2.2.2 q hq).2.2 k x hx).1
  exact ⟨((w.2.2.2.2.2.2.1 q hq).2.2.2 k x hx).1, hs, w.2.2.2.2.1 _ hs, (wq.2.2.2.1 _ hs).1.1.1⟩
theorem kIsQ_u {Q : kAq} {v : Int32} {q q' : Nat} (w6 : qQ Q ≤ 6) (e : v = nI q) (hq : q < qQ Q) (e' : v = nI q') (hq' : q' < qQ Q) : q' = q := ((nI_eq (by omega) (by omega)).mp (e.symm.trans e')).symm
theorem kIsN_u {n : Nat} {v : Int32} {k k' : Nat} (h12 : n ≤ 12) (e : v = nI k) (hk : k < n) (e' : v = nI k') (hk' : k' < n) : k' = k := ((nI_eq (by omega) (by omega)).mp (e.symm.trans e')).symm
section NO
variable {A : kA} {v u : Int32}
/-- the two sides find the question, or refuse -/
theorem kx_q {g : Nat × (Nat → Int32)} {d : Nat} {h : ka_H} {R : ka_R → ka_H → Prop} (hf : kf g h) (hb : h.1 + 64 ≤ 1000000) (hC : kcA A h) (w : kWA A) (e0 : ¬ kIsQ A.2.2.1 v → R (.inr (2, h.1)) (kx h 2)) (e1 : ∀ sb qb st q, kcq A.1 A.2.2.1 sb qb st h → v = nI q → q < qQ A.2.2.1 → qLf A.2.2.1 q = false → R (.inl (some (.ref (qb q)))) h) : kp_T (d + 1) 121 [.ref 1, .int v] h R := by
  obtain ⟨-, -, -, sb, qb, st, q4⟩ := hC
  exact kc_askedFor hf (by omega) q4 w.2.2.1.1 e0 (fun q e hq hl => e1 sb qb st q q4 e hq hl)
theorem ko_nodes (w : kWA A) (v : Int32) : kOx (kmp1 2) 200 92 193 [.int v] A := by
  have w6 := w.2.2.1.1
  by_cases c : kIsQ A.2.2.1 v
  · obtain ⟨q, ev, hq, hlf⟩ := c
    refine ⟨A, 0, 0, nI (qNd A.2.2.1 q).length, w, fun z => absurd rfl z, fun g h R hf hb hC e0 e1 => ?_, fun g h R hf hM e3 => ?_⟩
    · refine kd_in (d := 199) hf rfl rfl rfl (kd_seg kp_no 20 ⟨kK hf rfl rfl, ?_⟩)
      refine kx_q hf hb hC w (fun z => absurd ⟨q, ev, hq, hlf⟩ z) (fun sb qb st q' q4 e' hq' hl' => ⟨hf, ?_⟩)
      rw [kIsQ_u w6 ev hq e' hq']
      have hQ := (q4.2.2.2.2.2.2.1 q hq).1
      refine ⟨by rw [hQ.2.2.1], ⟨trivial, ?_⟩⟩
      rw [hQ.2.2.2.2.2.2.2.2.2.1]
      exact e1 rfl h hf hC kFc.rfl'
    · have hf0 : kf g (km_0 h) := kf_m hf
      refine kq_in (d := 199) hf rfl rfl rfl (kq_seg kp_no 20 ?_)
      refine kc_isQuestion hf0 rfl hM.m0.2.2.1 w6 (fun q' e' hq' hl' => ⟨hf0, ⟨fun _ => ?_, fun z => absurd z (by decide)⟩⟩) (fun z => absurd ⟨q, ev, hq, hlf⟩ z)
      subst ev
      refine ⟨nI_in (N := 6) (by omega) (by omega), ⟨trivial, ?_⟩⟩
      rw [nI_clamp (by omega)]
      exact e3 _ _ hf0 hM.m0 kFm.m0 rfl (fun _ => (hM.m0.2.2.1.2.2.2.1 q hq).2.1)
  · refine ⟨A, 1, 2, 0, w, fun _ => ⟨rfl, rfl, rfl⟩, fun g h R hf hb hC e0 e1 => ?_, fun g h R hf hM e3 => ?_⟩
    · refine kd_in (d := 199) hf rfl rfl rfl (kd_seg kp_no 20 ⟨kK hf rfl rfl, ?_⟩)
      exact kx_q hf hb hC w (fun _ => ⟨kf_new hf (by omega), e0 (by decide)⟩) (fun sb qb st q' q4 e' hq' hl' => absurd ⟨q', e', hq', hl'⟩ c)
    · have hf0 : kf g (km_0 h) := kf_m hf
      refine kq_in (d := 199) hf rfl rfl rfl (kq_seg kp_no 20 ?_)
      exact kc_isQuestion hf0 rfl hM.m0.2.2.1 w6 (fun q' e' hq' hl' => absurd ⟨q', e', hq', hl'⟩ c) (fun z => ⟨kf_m hf0, ⟨fun y => absurd rfl y, fun _ => ⟨trivial, e3 _ _ (kf_m hf0) hM.mt kFm.mt rfl (fun z => by cases z)⟩⟩⟩)
/-- the class finds a node's shelf, or refuses -/
theorem kx_s {g : Nat × (Nat → Int32)} {d : Nat} {h : ka_H} {R : ka_R → ka_H → Prop} {sb qb st : Nat → Nat} {q : Nat} (hf : kf g h) (hb : h.1 + 64 ≤ 1000000) (q4 : kcq A.1 A.2.2.1 sb qb st h) (w : kWA A) (hq : q < qQ A.2.2.1) (e0 : ¬ kIsN (qNd A.2.2.1 q).length u → R (.inr (1, h.1)) (kx h 1)) (e1 : ∀ k, u = nI k → k < (qNd A.2.2.1 q).length → R (.inl (some (.ref (sb (qSh A.2.2.1 q k))))) h) : kp_T (d + 2) 122 [.ref (qb q), .int u] h R :=
  kc_shelfOf hf (by omega) (q4.2.2.2.2.2.2.1 q hq).1 (fun k hk => by rw [(q4.nd w.2.2.1 hq hk).1]; exact (q4.nd w.2.2.1 hq hk).2.2.1.ne) e0 (fun k ek hk => by rw [(q4.nd w.2.2.1 hq hk).1]; exact e1 k ek hk)
/-- calls that ask for a node: the ends that refuse -/
theorem ko_node {D x m : Nat} {as : List Value} (w : kWA A) (cx : ∀ (g : Nat × (Nat → Int32)) (h : ka_H) (R : ka_R → ka_H → Prop), kf g h → h.1 + 64 ≤ 1000000 → kcA A h → (¬ kIsQ A.2.2.1 v → R (.inr (2, h.1)) (kx h 2)) → (∀ q, v = nI q → q < qQ A.2.2.1 → qLf A.2.2.1 q = false → ¬ kIsN (qNd A.2.2.1 q).length u → R (.inr (1, h.1)) (kx h 1)) → ¬ (∃ q k, v = nI q ∧ q < qQ A.2.2.1 ∧ qLf A.2.2.1 q = false ∧ u = nI k ∧ k < (qNd A.2.2.1 q).length) → kp_T D x (.ref 1 :: as) h R)
    (cm : ∀ (g : Nat × (Nat → Int32)) (h : ka_H) (R : ka_R → ka_H → Prop), kf g h → kmA A h → (¬ kIsQ A.2.2.1 v → R (kp_ri 0) (km_t h 1)) → (∀ q, v = nI q → q < qQ A.2.2.1 → qLf A.2.2.1 q = false → ¬ kIsN (qNd A.2.2.1 q).length u → R (kp_ri 0) (km_t h 2)) → ¬ (∃ q k, v = nI q ∧ q < qQ A.2.2.1 ∧ qLf A.2.2.1 q = false ∧ u = nI k ∧ k < (qNd A.2.2.1 q).length) → kp_T D m (.ref 72 :: as) h R)
    (ok : ∀ q k, v = nI q → q < qQ A.2.2.1 → qLf A.2.2.1 q = false → u = nI k → k < (qNd A.2.2.1 q).length → kOx kmp21 D x m as A) : kOx kmp21 D x m as A := by
  have w6 := w.2.2.1.1
  by_cases c : kIsQ A.2.2.1 v
  · obtain ⟨q, ev, hq, hlf⟩ := c
    by_cases c2 : kIsN (qNd A.2.2.1 q).length u
    · obtain ⟨k, eu, hk⟩ := c2
      exact ok q k ev hq hlf eu hk
    · have no : ¬ (∃ q k, v = nI q ∧ q < qQ A.2.2.1 ∧ qLf A.2.2.1 q = false ∧ u = nI k ∧ k < (qNd A.2.2.1 q).length) := fun ⟨q', k, y1, y2, _, y4, y5⟩ => c2 ⟨k, y4, by rw [← kIsQ_u w6 ev hq y1 y2]; exact y5⟩
      refine ⟨A, 2, 1, 0, w, fun _ => ⟨rfl, Or.inr ⟨rfl, rfl⟩⟩, fun g h R hf hb hC e0 e1 => ?_, fun g h R hf hM e3 => ?_⟩
      · exact cx g h R hf hb hC (fun z => absurd ⟨q, ev, hq, hlf⟩ z) (fun _ _ _ _ _ => e0 (by decide)) no
      · exact cm g h R hf hM (fun z => absurd ⟨q, ev, hq, hlf⟩ z) (fun _ _ _ _ _ => e3 _ _ (kf_m (kf_m hf)) hM.mt kFm.mt rfl (fun z => by cases z)) no
  · have no : ¬ (∃ q k, v = nI q ∧ q < qQ A.2.2.1 ∧ qLf A.2.2.1 q = false ∧ u = nI k ∧ k < (qNd A.2.2.1 q).length) := fun ⟨q', k, y1, y2, y3, _⟩ => c ⟨q', y1, y2, y3⟩
    refine ⟨A, 1, 2, 0, w, fun _ => ⟨rfl, Or.inl ⟨rfl, rfl⟩⟩, fun g h R hf hb hC e0 e1 => ?_, fun g h R hf hM e3 => ?_⟩
    · exact cx g h R hf hb hC (fun _ => e0 (by decide)) (fun q y1 y2 y3 _ => absurd ⟨q, y1, y2, y3⟩ c) no
    · exact cm g h R hf hM (fun _ => e3 _ _ (kf_m (kf_m hf)) hM.mt kFm.mt rfl (fun z => by cases z)) (fun q y1 y2 y3 _ => absurd ⟨q, y1, y2, y3⟩ c) no
theorem ko_shelf (w : kWA A) (v u : Int32) : kOx kmp21 200 93 194 [.int v, .int u] A := by
  have w6 := w.2.2.1.1
  refine ko_node (v := v) (u := u) w (fun g h R hf hb hC b1 b2 no => ?_) (fun g h R hf hM b1 b2 no => ?_) (fun q k ev hq hlf eu hk => ⟨A, 0, 0, nI (qSh A.2.2.1 q k), w, fun z => absurd rfl z, fun g h R hf hb hC e0 e1 => ?_, fun g h R hf hM e3 => ?_⟩)
  · refine kd_in (d := 199) hf rfl rfl rfl (kd_seg kp_no 20 ⟨kK hf rfl rfl, ?_⟩)
    refine kx_q hf hb hC w (fun z => ⟨kf_new hf (by omega), b1 z⟩) (fun sb qb st q q4 ev hq hlf => ⟨hf, ?_⟩)
    exact kx_s hf hb q4 w hq (fun z => ⟨kf_new hf (by omega), b2 q ev hq hlf z⟩) (fun k eu hk => absurd ⟨q, k, ev, hq, hlf, eu, hk⟩ no)
  · have hf0 : kf g (km_0 h) := kf_m hf
    refine kq_in (d := 199) hf rfl rfl rfl (kq_seg kp_no 20 ?_)
    exact kc_isNode hf0 rfl hM.m0.2.2.1 w.2.2.1 (fun q k ev hq hlf eu hk => absurd ⟨q, k, ev, hq, hlf, eu, hk⟩ no) (fun z => ⟨kf_m hf0, ⟨fun y => absurd rfl y, fun _ => ⟨trivial, b1 z⟩⟩⟩) (fun q ev hq hlf z => ⟨kf_m hf0, ⟨fun y => absurd rfl y, fun _ => ⟨trivial, b2 q ev hq hlf z⟩⟩⟩)
  · refine kd_in (d := 199) hf rfl rfl rfl (kd_seg kp_no 20 ⟨kK hf rfl rfl, ?_⟩)
    refine kx_q hf hb hC w (fun z => absurd ⟨q, ev, hq, hlf⟩ z) (fun sb qb st q' q4 ev' hq' hlf' => ⟨hf, ?_⟩)
    rw [kIsQ_u w6 ev hq ev' hq']
    refine kx_s hf hb q4 w hq (fun z => absurd ⟨k, eu, hk⟩ z) (fun k' eu' hk' => ⟨hf, ?_⟩)
    rw [kIsN_u (w.2.2.1.2.2.2.2 q hq).1.2 eu hk eu' hk']
    have cs := (q4.nd w.2.2.1 hq hk).2.2.1
    refine ⟨cs.K, ⟨trivial, ?_⟩⟩
    rw [cs.1.2.2.2.1.1]
    exact e1 rfl h hf hC kFc.rfl'
  · have hf0 : kf g (km_0 h) := kf_m hf
    subst ev
    subst eu
    refine kq_in (d := 199) hf rfl rfl rfl (kq_seg kp_no 20 ?_)
    refine kc_isNode hf0 rfl hM.m0.2.2.1 w.2.2.1 (fun q' k' ev' hq' hlf' eu' hk' => ⟨hf0, ⟨fun _ => ?_, fun z => absurd z (by decide)⟩⟩) (fun z => absurd ⟨q, rfl, hq, hlf⟩ z) (fun q' ev' hq' hlf' z => absurd ⟨k, rfl, by rw [kIsQ_u w6 rfl hq ev' hq']; exact hk⟩ z)
    exact kq_ci (kc_shelfAt hf0 hM.m0.2.2.1 w.2.2.1 hq hk) hf0 ⟨trivial, e3 _ _ hf0 hM.m0 kFm.m0 rfl (fun _ => rfl)⟩
theorem ko_front (w : kWA A) (v u : Int32) : kOx kmp21 200 94 196 [.int v, .int u] A := by
  have w6 := w.2.2.1.1
  refine ko_node (v := v) (u := u) w (fun g h R hf hb hC b1 b2 no => ?_) (fun g h R hf hM b1 b2 no => ?_) (fun q k ev hq hlf eu hk => ⟨A, 0, 0, nI (qF A.1 A.2.2.1 (qSh A.2.2.1 q k)), w, fun z => absurd rfl z, fun g h R hf hb hC e0 e1 => ?_, fun g h R hf hM e3 => ?_⟩)
  · refine kd_in (d := 199) hf rfl rfl rfl (kd_seg kp_no 20 ⟨kK hf rfl rfl, ?_⟩)
    refine kx_q hf hb hC w (fun z => ⟨kf_new hf (by omega), b1 z⟩) (fun sb qb st q q4 ev hq hlf => ⟨hf, ?_⟩)
    exact kx_s hf hb q4 w hq (fun z => ⟨kf_new hf (by omega), b2 q ev hq hlf z⟩) (fun k eu hk => absurd ⟨q, k, ev, hq, hlf, eu, hk⟩ no)
  · have hf0 : kf g (km_0 h) := kf_m hf
    refine kq_in (d := 199) hf rfl rfl rfl (kq_seg kp_no 20 ?_)
    exact kc_isNode hf0 rfl hM.m0.2.2.1 w.2.2.1 (fun q k ev hq hlf eu hk => absurd ⟨q, k, ev, hq, hlf, eu, hk⟩ no) (fun z => ⟨kf_m hf0, ⟨fun y => absurd rfl y, fun _ => ⟨trivial, b1 z⟩⟩⟩) (fun q ev hq hlf z => ⟨kf_m hf0, ⟨fun y => absurd rfl y, fun _ => ⟨trivial, b2 q ev hq hlf z⟩⟩⟩)
  · refine kd_in (d := 199) hf rfl rfl rfl (kd_seg kp_no 20 ⟨kK hf rfl rfl, ?_⟩)
    refine kx_q hf hb hC w (fun z => absurd ⟨q, ev, hq, hlf⟩ z) (fun sb qb st q' q4 ev' hq' hlf' => ⟨hf, ?_⟩)
    rw [kIsQ_u w6 ev hq ev' hq']
    refine kx_s hf hb q4 w hq (fun z => absurd ⟨k, eu, hk⟩ z) (fun k' eu' hk' => ⟨hf, ?_⟩)
    rw [kIsN_u (w.2.2.1.2.2.2.2 q hq).1.2 eu hk eu' hk']
    obtain ⟨-, -, cs, h13⟩ := q4.nd w.2.2.1 hq hk
    refine ⟨kK hf rfl rfl, ?_⟩
    exact kq_ci (kc_frontOf hf hC.1 cs h13) hf ⟨trivial, e1 rfl h hf hC kFc.rfl'⟩
  · have hf0 : kf g (km_0 h) := kf_m hf
    subst ev
    subst eu
    obtain ⟨x, hx⟩ := kls_at hk
    have hs := ((w.2.2.1.2.2.2.2 q hq).2.2 k x hx).1
    refine kq_in (d := 199) hf rfl rfl rfl (kq_seg kp_no 20 ?_)
    refine kc_isNode hf0 rfl hM.m0.2.2.1 w.2.2.1 (fun q' k' ev' hq' hlf' eu' hk' => ⟨hf0, ⟨fun _ => ?_, fun z => absurd z (by decide)⟩⟩) (fun z => absurd ⟨q, rfl, hq, hlf⟩ z) (fun q' ev' hq' hlf' z => absurd ⟨k, rfl, by rw [kIsQ_u w6 rfl hq ev' hq']; exact hk⟩ z)
    refine kq_ci (kc_shelfAt hf0 hM.m0.2.2.1 w.2.2.1 hq hk) hf0 ?_
    exact kq_ci (kc_mfrontOf hf0 hM.m0.1 hM.m0.2.2.1 w.2.2.1 hs) hf0 ⟨trivial, e3 _ _ hf0 hM.m0 kFm.m0 rfl (fun _ => rfl)⟩
end NO
