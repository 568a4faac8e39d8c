/-! ===== work, ready ===== -/
def qSf (Q : kAq) (s v : Nat) : kAq := (qQ Q, qNd Q, qSh Q, qLf Q, qN Q, qKy Q, (fun j => if j = s then v else qFr Q j), qFo Q)
section WK
variable {g : Nat × (Nat → Int32)} {d : Nat} {h h' : ka_H} {R : ka_R → ka_H → Prop} {L : kAl} {Q : kAq} {sb qb st : Nat → Nat} {s q c : Nat} {v u : Int32}
/-- a question of the class stands while its own cells do -/
theorem kcq1.st2 (w : kcq1 Q sb qb h q) (hn : h'.1 = h.1) (hK : ∀ a, ka_K h' a = ka_K h a) (hP : ∀ a, qb q ≤ a → a < qb q + 4 → ka_P h' a = ka_P h a) (hI : ∀ a, qb q ≤ a → a < qb q + 4 → ka_I h' a = ka_I h a) : kcq1 Q sb qb h' q := by
  obtain ⟨⟨q1, q2, q3, q4, q5, q6, q7, q8, q9, q10, q11⟩, w2, w3, w4⟩ := w
  unfold kcq1 kQc
  rw [hK (qb q), hK (qb q + 1), hK (qb q + 2), hK (qb q + 3), hP (qb q) (by omega) (by omega), hP (qb q + 1) (by omega) (by omega), hI (qb q) (by omega) (by omega), hI (qb q + 2) (by omega) (by omega), hI (qb q + 3) (by omega) (by omega)]
  exact ⟨⟨q1, by omega, q3, q4, q5, q6, q7, q8, q9, q10, q11⟩, w2, w3, w4⟩
theorem kSb.ne {N : Nat} (w : kSb N sb) {s' : Nat} (hs : s < N) (hs' : s' < N) (e : s' ≠ s) : sb s' + 5 ≤ sb s ∨ sb s + 5 ≤ sb s' := by
  rcases Nat.lt_or_ge s' s with z | z
  · exact Or.inl (w.2 s' s z hs)
  · exact Or.inr (w.2 s s' (by omega) hs')
theorem kcq.fr (w : kcq L Q sb qb st h) (hs : s < qN Q) (v : Nat) : kcq L (qSf Q s v) sb qb st (ka_sI h (sb s) 10 (nI v)) := by
  obtain ⟨w1, w2, w3, w4, w5, w6, w7, w8⟩ := w
  have hb := (w3.1 s hs).1
  have oth : ∀ a, a ≠ sb s → ka_I (ka_sI h (sb s) 10 (nI v)) a = ka_I h a := fun a ha => kI_o _ _ _ ha
  refine ⟨?_, ?_, w3, w4, fun s' hs' => ?_, w6, fun q hq => ?_, w8⟩
  · rw [oth 1 (by omega)]; exact w1
  · rw [oth 64 (by omega)]; exact w2
  · obtain ⟨y1, y2, y3, y4, y5, y6⟩ := w5 s' hs'
    have hd : s' ≠ s → sb s' + 5 ≤ sb s ∨ sb s + 5 ≤ sb s' := fun z => w3.ne hs hs' z
    have hk : ∀ k, k ≠ 10 → ka_I (ka_sI h (sb s) 10 (nI v)) (sb s') k = ka_I h (sb s') k := fun k hk => ka_IJ _ _ _ _ hk
    have ha : ∀ j, 1 ≤ j → j < 5 → ka_I (ka_sI h (sb s) 10 (nI v)) (sb s' + j) = ka_I h (sb s' + j) := fun j j1 j2 => oth _ (by
      by_cases z : s' = s
      · rw [z]; omega
      · have := hd z; omega)
    refine ⟨y1.st (Nat.le_refl _) (fun _ _ => rfl) rfl (fun k hk' => hk k (by omega)) (ha 1 (by omega) (by omega)) (ha 4 (by omega) (by omega)) rfl rfl, fun z => ?_, (hk 11 (by omega)).trans y3, (hk 12 (by omega)).trans y4, y5, fun r hr => ?_⟩
    · show ka_I (ka_sI h (sb s) 10 (nI v)) (sb s') 10 = nI (if s' = s then v else qFr Q s')
      by_cases z2 : s' = s
      · rw [if_pos z2, z2]; exact ka_IS _ _ _ _
      · rw [if_neg z2, oth _ (by have := hd z2; omega)]; exact y2 z
    · rw [ha 2 (by omega) (by omega)]; exact y6 r hr
  · have hq' := (w7 q hq).2.2.1 s hs
    exact (w7 q hq).st2 rfl (fun _ => rfl) (fun _ _ _ => rfl) (fun a a1 a2 => oth a (by omega))
theorem kmq.fr (m : kmq Q h) (v : Nat) : kmq (qSf Q s v) (ka_sI h 93 s (nI v)) := by
  obtain ⟨m1, m2, m3, m4, m5⟩ := m
  have oth : ∀ a, a ≠ 93 → ka_I (ka_sI h 93 s (nI v)) a = ka_I h a := fun a ha => kI_o _ _ _ ha
  refine ⟨?_, ?_, ?_, fun q hq => ?_, fun s' hs' => ?_⟩
  · rw [oth 72 (by decide)]; exact m1
  · rw [oth 72 (by decide)]; exact m2
  · rw [oth 72 (by decide)]; exact m3
  · obtain ⟨y1, y2, y3⟩ := m4 q hq
    rw [oth 78 (by decide), oth 79 (by decide), oth 84 (by decide)]
    exact ⟨y1, y2, fun k x hx => ⟨kMn_eq (y3 k x hx).1 (fun a a1 a2 a3 => oth a (by omega)), (y3 k x hx).2⟩⟩
  · obtain ⟨y1, y2, y3⟩ := m5 s' hs'
    rw [oth 94 (by decide), oth 92 (by decide)]
    refine ⟨fun z => ?_, y2, y3⟩
    show ka_I (ka_sI h 93 s (nI v)) 93 s' = nI (if s' = s then v else qFr Q s')
    by_cases z2 : s' = s
    · rw [if_pos z2, z2]; exact ka_IS _ _ _ _
    · rw [if_neg z2, ka_IJ _ _ _ _ z2]; exact y1 z
theorem kWq.fr (w : kWq c Q) {v : Nat} (hv : v ≤ c) : kWq c (qSf Q s v) := by
  refine ⟨w.1, w.2.1, w.2.2.1, fun s' hs' => ⟨(w.2.2.2.1 s' hs').1, ?_⟩, w.2.2.2.2⟩
  show (if s' = s then v else qFr Q s') ≤ c
  split
  · exact hv
  · exact (w.2.2.2.1 s' hs').2
/-- a shelf's front is written: the class's part of the state -/
theorem kcA.fr {A : kA} (q1 : kcl A.1 h) (q2 : kct A.2.1 h) (q3 : kcr A.2.2.2 h) (q4 : kcq A.1 A.2.2.1 sb qb st h) (hs : s < qN A.2.2.1) (v : Nat) : kcA (A.1, A.2.1, qSf A.2.2.1 s v, A.2.2.2) (ka_sI h (sb s) 10 (nI v)) := by
  have hb := (q4.2.2.1.1 s hs).1
  have oth : ∀ a, a ≠ sb s → ka_I (ka_sI h (sb s) 10 (nI v)) a = ka_I h a := fun a ha => kI_o _ _ _ ha
  exact ⟨q1.st (fun a a1 a2 => oth a (by omega)), q2.st (fun a a1 a2 => oth a (by omega)), q3.st (by rw [oth 1 (by omega)]) (oth 70 (by omega)), sb, qb, st, q4.fr hs v⟩
theorem kmA.fr {A : kA} (m : kmA A h) (v : Nat) : kmA (A.1, A.2.1, qSf A.2.2.1 s v, A.2.2.2) (ka_sI h 93 s (nI v)) := by
  have oth : ∀ a, a ≠ 93 → ka_I (ka_sI h 93 s (nI v)) a = ka_I h a := fun a ha => kI_o _ _ _ ha
  exact ⟨m.1.st (fun k _ => by rw [oth 72 (by decide)]) (fun a a1 a2 => oth a (by omega)), m.2.1.st (fun k _ => by rw [oth 72 (by decide)]) (oth 89 (by decide)), m.2.2.1.fr v, m.2.2.2.st (by rw [oth 72 (by decide)]) (fun a a1 a2 => oth a (by omega))⟩
end WK
section WO
variable {A : kA} {v u : Int32}
theorem ko_work (w : kWA A) (v u : Int32) : kOx kmp21 200 95 198 [.int v, .int u] A := by
  have w6 := w.2.2.1.1
  have hc := w.1.2.1
  have hN := w.2.2.1.2.1
  refine ko_node (v := v) (u := u) w (fun g h R hf hb hC b1 b2 no => ?_) (fun g h R hf hM b1 b2 no => ?_) (fun q k ev hq hlf eu hk => ?_)
  · refine kd_in (d := 199) hf rfl rfl rfl (kd_seg kp_no 30 ⟨kK hf rfl rfl, ?_⟩)
    refine kx_q hf hb hC w (fun z => ⟨kf_new hf (by omega), b1 z⟩) (fun sb qb st q q4 ev hq hlf => ⟨hf, ?_⟩)
    exact kx_s hf hb q4 w hq (fun z => ⟨kf_new hf (by omega), b2 q ev hq hlf z⟩) (fun k eu hk => absurd ⟨q, k, ev, hq, hlf, eu, hk⟩ no)
  · have hf0 : kf g (km_0 h) := kf_m hf
    refine kq_in (d := 199) hf rfl rfl rfl (kq_seg kp_no 40 ?_)
    exact kc_isNode hf0 rfl hM.m0.2.2.1 w.2.2.1 (fun q k ev hq hlf eu hk => absurd ⟨q, k, ev, hq, hlf, eu, hk⟩ no) (fun z => ⟨kf_m hf0, ⟨fun y => absurd rfl y, fun _ => ⟨trivial, b1 z⟩⟩⟩) (fun q ev hq hlf z => ⟨kf_m hf0, ⟨fun y => absurd rfl y, fun _ => ⟨trivial, b2 q ev hq hlf z⟩⟩⟩)
  · obtain ⟨x, hx⟩ := kls_at hk
    have hs := ((w.2.2.1.2.2.2.2 q hq).2.2 k x hx).1
    have hF := w.2.2.1.F hc
    have wk := fun s hs => (w.2.2.1.2.2.2.1 s hs).1
    have h12 := (w.2.2.1.2.2.2.2 q hq).1.2
    have cx : ∀ (g : Nat × (Nat → Int32)) (h : ka_H) (R : ka_R → ka_H → Prop), kf g h → h.1 + 64 ≤ 1000000 → kcA A h → (¬ kCw A.1 A.2.2.1 (qSh A.2.2.1 q k) → R (kp_ri (-1)) h) → (∀ h', kCw A.1 A.2.2.1 (qSh A.2.2.1 q k) → kf g h' → kcA (A.1, A.2.1, qSf A.2.2.1 (qSh A.2.2.1 q k) (qFr A.2.2.1 (qSh A.2.2.1 q k) + 1), A.2.2.2) h' → kFc h h' → R (kp_ri (nI (qFr A.2.2.1 (qSh A.2.2.1 q k) + 1))) h') → kp_T 200 95 [.ref 1, .int v, .int u] h R := by
      intro g h R hf hb hC e0 e1
      refine kd_in (d := 199) hf rfl rfl rfl (kd_seg kp_no 30 ⟨kK hf rfl rfl, ?_⟩)
      refine kx_q hf hb hC w (fun z => absurd ⟨q, ev, hq, hlf⟩ z) (fun sb qb st q' q4 ev' hq' hlf' => ⟨hf, ?_⟩)
      rw [kIsQ_u w6 ev hq ev' hq']
      refine kx_s hf hb q4 w hq (fun z => absurd ⟨k, eu, hk⟩ z) (fun k' eu' hk' => ⟨hf, ?_⟩)
      rw [kIsN_u h12 eu hk eu' hk']
      obtain ⟨-, -, cs, h13⟩ := q4.nd w.2.2.1 hq hk
      refine ⟨kK hf rfl rfl, ?_⟩
      refine kc_canBeWorked hf hC.1 q4 hs wk hF (fun z => ⟨hf, ⟨fun _ => ⟨cs.K, ?_⟩, fun y => absurd y (by decide)⟩⟩) (fun z => ⟨hf, ⟨fun y => absurd rfl y, fun _ => ⟨trivial, e0 z⟩⟩⟩)
      rw [cs.2.1 z.1]
      refine ⟨cs.K, ?_⟩
      rw [show nI (qFr A.2.2.1 (qSh A.2.2.1 q k)) + Int32.ofInt 1 = nI (qFr A.2.2.1 (qSh A.2.2.1 q k) + 1) from (nI_succ _).symm]
      refine ⟨cs.K, ⟨trivial, ?_⟩⟩
      rw [ka_IS]
      have hb' := (q4.2.2.1.1 _ hs).1
      exact e1 _ z (kf_sI hf (by rw [cs.K]; decide)) (kcA.fr hC.1 hC.2.1 hC.2.2.1 q4 hs _) ⟨Nat.le_add_right _ _, Nat.le_add_right _ _, fun a a1 a2 => kI_o _ _ _ (by omega)⟩
    have cm : ∀ (g : Nat × (Nat → Int32)) (h : ka_H) (R : ka_R → ka_H → Prop), kf g h → kmA A h → (¬ kCw A.1 A.2.2.1 (qSh A.2.2.1 q k) → R (kp_ri (-1)) (km_0 h)) → (∀ h' x, kCw A.1 A.2.2.1 (qSh A.2.2.1 q k) → kf g h' → kmA (A.1, A.2.1, qSf A.2.2.1 (qSh A.2.2.1 q k) (qFr A.2.2.1 (qSh A.2.2.1 q k) + 1), A.2.2.2) h' → kFm h h' → ka_I h' 72 0 = 0 → x = nI (qFr A.2.2.1 (qSh A.2.2.1 q k) + 1) → R (kp_ri x) h') → kp_T 200 198 [.ref 72, .int v, .int u] h R := by
      intro g h R hf hM e0 e1
      have hf0 : kf g (km_0 h) := kf_m hf
      have hM0 : kmA A (km_0 h) := hM.m0
      subst ev
      subst eu
      refine kq_in (d := 199) hf rfl rfl rfl (kq_seg (fun p => Nat.beq p 5) 10 ?_)
      have g0 : kFm h (km_0 h) := kFm.m0
      have t0 : ka_I (km_0 h) 72 0 = 0 := rfl
      have e0' : ¬ kCw A.1 A.2.2.1 (qSh A.2.2.1 q k) → R (kp_ri (-1)) (km_0 h) := e0
      refine (?_ : kq_ex g 199 198 R 5 [.ref 72, .int (nI q), .int (nI k)] [] (km_0 h))
      generalize km_0 h = H at hf0 hM0 g0 t0 e0'
      refine kq_seg kp_no 40 ?_
      refine kc_isNode hf0 t0 hM0.2.2.1 w.2.2.1 (fun q' k' ev' hq' hlf' eu' hk' => ⟨hf0, ⟨fun _ => ?_, fun z => absurd z (by decide)⟩⟩) (fun z => absurd ⟨q, rfl, hq, hlf⟩ z) (fun q' ev' hq' hlf' z => absurd ⟨k, rfl, by rw [kIsQ_u w6 rfl hq ev' hq']; exact hk⟩ z)
      have e12 : Int32.ofInt 12 * nI q + nI k = nI (12 * q + k) := by rw [nI_12m, nI_add]
      have cw := fun R' a b => kc_canWork (d := 197) (R := R') hf0 hM0.1 hM0.2.2.1 w.2.2.1 hc hq hk a b
      rw [← e12] at cw
      refine cw _ (fun z => ⟨hf0, ⟨fun _ => ?_, fun y => absurd y (by decide)⟩⟩) (fun z => ⟨hf0, ⟨fun y => absurd rfl y, fun _ => ⟨trivial, e0' z⟩⟩⟩)
      refine kq_ci (kc_shelfAt hf0 hM0.2.2.1 w.2.2.1 hq hk) hf0 ⟨nI_in (N := 72) (by omega) (by omega), ⟨nI_in (N := 72) (by omega) (by omega), ?_⟩⟩
      have m93 : ka_I H 93 (qSh A.2.2.1 q k) = nI (qFr A.2.2.1 (qSh A.2.2.1 q k)) := (hM0.2.2.1.2.2.2.2 _ hs).1 z.1
      rw [nI_clamp (by omega), show ka_I H (kq_p H 72 37) (qSh A.2.2.1 q k) = _ from m93, show nI (qFr A.2.2.1 (qSh A.2.2.1 q k)) + Int32.ofInt 1 = nI (qFr A.2.2.1 (qSh A.2.2.1 q k) + 1) from (nI_succ _).symm]
      have hf1 : kf g (ka_sI H 93 (qSh A.2.2.1 q k) (nI (qFr A.2.2.1 (qSh A.2.2.1 q k) + 1))) := kf_w hf0 93 rfl rfl
      have hM1 := hM0.fr (s := qSh A.2.2.1 q k) (qFr A.2.2.1 (qSh A.2.2.1 q k) + 1)
      have w1 : kWq (lC A.1) (qSf A.2.2.1 (qSh A.2.2.1 q k) (qFr A.2.2.1 (qSh A.2.2.1 q k) + 1)) := w.2.2.1.fr (by have := z.2.1; have hy := hF _ (show (qKy A.2.2.1 (qSh A.2.2.1 q k)).2.2.1 - 1 < qN A.2.2.1 by have := (wk _ hs).1.2.2.1; have := (wk _ hs).2.1 z.1; omega); unfold qF at this; split at this; omega; have := (w.2.2.1.2.2.2.1 _ (show (qKy A.2.2.1 (qSh A.2.2.1 q k)).2.2.1 - 1 < qN A.2.2.1 by have := (wk _ hs).1.2.2.1; have := (wk _ hs).2.1 z.1; omega)).2; omega)
      refine kq_ci (kc_shelfAt (Q := qSf A.2.2.1 (qSh A.2.2.1 q k) (qFr A.2.2.1 (qSh A.2.2.1 q k) + 1)) hf1 hM1.2.2.1 w1 hq hk) hf1 ⟨nI_in (N := 72) (by show qSh A.2.2.1 q k < 72; omega) (by omega), ⟨trivial, ?_⟩⟩
      rw [nI_clamp (by show qSh A.2.2.1 q k < _; omega)]
      exact e1 (ka_sI H 93 (qSh A.2.2.1 q k) (nI (qFr A.2.2.1 (qSh A.2.2.1 q k) + 1))) _ z hf1 hM1 (g0.sI (by omega)) ((congrFun (kI_o H _ _ (by decide)) 0).trans t0) (ka_IS H 93 (qSh A.2.2.1 q k) (nI (qFr A.2.2.1 (qSh A.2.2.1 q k) + 1)))
    by_cases cw : kCw A.1 A.2.2.1 (qSh A.2.2.1 q k)
    · refine ⟨(A.1, A.2.1, qSf A.2.2.1 (qSh A.2.2.1 q k) (qFr A.2.2.1 (qSh A.2.2.1 q k) + 1), A.2.2.2), 0, 0, nI (qFr A.2.2.1 (qSh A.2.2.1 q k) + 1), ⟨w.1, w.2.1, w.2.2.1.fr ?_, w.2.2.2⟩, fun z => absurd rfl z, fun g h R hf hb hC e0 e1 => ?_, fun g h R hf hM e3 => ?_⟩
      · have h1 := cw.2.1
        have k1 := (wk _ hs).1.2.2.1
        have k2 := (wk _ hs).2.1 cw.1
        have k3 := (w.2.2.1.2.2.2.1 _ (show (qKy A.2.2.1 (qSh A.2.2.1 q k)).2.2.1 - 1 < qN A.2.2.1 by omega)).2
        unfold qF at h1
        split at h1 <;> omega
      · exact cx g h R hf hb hC (fun z => absurd cw z) (fun h' _ f1 f2 f3 => e1 rfl h' f1 f2 f3)
      · exact cm g h R hf hM (fun z => absurd cw z) (fun h' x _ f1 f2 f3 f4 f5 => e3 h' x f1 f2 f3 f4 (fun _ => f5))
    · refine ⟨A, 0, 0, -1, w, fun z => absurd rfl z, fun g h R hf hb hC e0 e1 => ?_, fun g h R hf hM e3 => ?_⟩
      · exact cx g h R hf hb hC (fun _ => e1 rfl h hf hC kFc.rfl') (fun h' z => absurd z cw)
      · exact cm g h R hf hM (fun _ => e3 _ _ (kf_m hf) hM.m0 kFm.m0 rfl (fun _ => rfl)) (fun h' _ z => absurd z cw)
end WO
