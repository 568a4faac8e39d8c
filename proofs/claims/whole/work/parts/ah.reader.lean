/-! ===== reader, gone ===== -/
section RE
variable {A : kA} {h h' : ka_H} {v : Int32}
/-- the readers written anew: the class, the reference -/
theorem kcA.rd {r' : kAr} (q : kcA A h) (h103 : 103 ≤ h.1) (hr : kcr r' h') (e1 : h'.1 = h.1) (eK : ∀ a, ka_K h' a = ka_K h a) (eP : ∀ a, ka_P h' a = ka_P h a) (e1k : ∀ k, k ≠ 10 → ka_I h' 1 k = ka_I h 1 k) (eI : ∀ a, a ≠ 1 → a ≠ 70 → ka_I h' a = ka_I h a) : kcA (A.1, A.2.1, A.2.2.1, r') h' := by
  obtain ⟨q1, q2, -, sb, qb, st, q4⟩ := q
  exact ⟨q1.st (fun a a1 a2 => eI a (by omega) (by omega)), q2.st (fun a a1 a2 => eI a (by omega) (by omega)), hr, sb, qb, st, q4.st h103 (by omega) (fun a _ => eK a) (fun a _ => eP a) (fun a a1 _ => eI a (by omega) (by omega)) (fun k hk => e1k k (by omega)) (eI 64 (by omega) (by omega)) (Nat.le_refl _) (fun _ _ => rfl)⟩
theorem kmA.rd {r' : kAr} (q : kmA A h) (hr : kmr r' h') (e72 : ∀ k, k ≠ 0 → k ≠ 44 → ka_I h' 72 k = ka_I h 72 k) (eI : ∀ a, 72 < a → a < 99 → ka_I h' a = ka_I h a) : kmA (A.1, A.2.1, A.2.2.1, r') h' :=
  ⟨q.1.st (fun k hk => e72 k (by omega) (by omega)) (fun a a1 a2 => eI a (by omega) (by omega)), q.2.1.st (fun k hk => e72 k (by omega) (by omega)) (eI 89 (by omega) (by omega)), q.2.2.1.st (fun k hk => e72 k (by omega) (by omega)) (fun a a1 a2 _ _ _ => eI a (by omega) (by omega)), hr⟩
theorem ko_reader (w : kWA A) (v : Int32) : kOx (kmp1 0) 200 100 219 [.int v] A := by
  have w8 := w.2.2.2.1
  have hfo : qFo A.2.2.1 ≤ 100 := Nat.le_trans w.2.2.1.2.2.1 w.1.2.1
  have cx : ∀ (g : Nat × (Nat → Int32)) (h : ka_H) (R : ka_R → ka_H → Prop), kf g h → h.1 + 64 ≤ 1000000 → kcA A h → (¬ ((0 ≤ v ∧ v ≤ 100) ∧ ¬ v < nI (qFo A.2.2.1) - 1) → R (.inr (0, h.1)) (kx h 0)) → ((0 ≤ v ∧ v ≤ 100) ∧ ¬ v < nI (qFo A.2.2.1) - 1 → rN A.2.2.2 = 8 → R (kp_ri (-1)) h) → ((0 ≤ v ∧ v ≤ 100) ∧ ¬ v < nI (qFo A.2.2.1) - 1 → rN A.2.2.2 < 8 → R (kp_ri (nI (rN A.2.2.2))) (ka_sI (ka_sI h 70 (rN A.2.2.2) v) 1 10 (nI (rN A.2.2.2 + 1)))) → kp_T 200 100 [.ref 1, .int v] h R := by
    intro g h R hf hb hC e0 e1 e2
    obtain ⟨-, -, ⟨r1, r2⟩, sb, qb, st, q4⟩ := hC
    have i11 := q4.1.2.2
    refine kq_in (d := 199) hf rfl rfl rfl (kq_seg kp_no 40 ?_)
    refine kc_reqNumber hf (by omega) (fun z => ⟨kf_new hf (by omega), e0 (fun y => z y.1)⟩) (fun z => ⟨hf, ⟨fun y => ?_, fun y => ⟨by show h.1 < 1000000; omega, e0 (fun t => t.2 (by rw [← i11]; exact y))⟩⟩⟩)
    have ok : (0 ≤ v ∧ v ≤ 100) ∧ ¬ v < nI (qFo A.2.2.1) - 1 := ⟨z, by rw [← i11]; exact y⟩
    refine ⟨fun y2 => ?_, fun y2 => ⟨trivial, e1 ok ?_⟩⟩
    · have y2' : nI (rN A.2.2.2) < nI 8 := by rw [← r1]; exact y2
      have h8 := (nI_ltI (by omega) (by omega)).mp y2'
      refine ⟨(show vp_in (ka_I h 1 10) 8 by rw [r1]; exact nI_in h8 (by omega)), ⟨trivial, ?_⟩⟩
      have := e2 ok h8
      have e10 : ka_I (ka_sI h 70 (rN A.2.2.2) v) 1 10 + 1 = nI (rN A.2.2.2 + 1) := by
        rw [show ka_I (ka_sI h 70 (rN A.2.2.2) v) 1 10 = nI (rN A.2.2.2) from r1, ← nI_succ]
      have e10' : nI (rN A.2.2.2) = ka_I (ka_sI (ka_sI h 70 (rN A.2.2.2) v) 1 10 (nI (rN A.2.2.2 + 1))) 1 10 - 1 := by
        rw [ka_IS, nI_m1' (by omega)]
        rfl
      rw [e10', ← e10, show rN A.2.2.2 = (ka_I h 1 10).toNatClampNeg by rw [r1, nI_clamp (by omega)]] at this
      exact this
    · rcases Nat.lt_or_ge (rN A.2.2.2) 8 with t | t
      · exact absurd (show ka_I h 1 10 < nI 8 by rw [r1]; exact nI_lt t (by omega)) y2
      · omega
  have cm : ∀ (g : Nat × (Nat → Int32)) (h : ka_H) (R : ka_R → ka_H → Prop), kf g h → kmA A h → (¬ ((0 ≤ v ∧ v ≤ 100) ∧ ¬ v < nI (qFo A.2.2.1) - 1) → R (kp_ri 0) (km_t h 1)) → ((0 ≤ v ∧ v ≤ 100) ∧ ¬ v < nI (qFo A.2.2.1) - 1 → rN A.2.2.2 = 8 → R (kp_ri (-1)) (km_0 h)) → ((0 ≤ v ∧ v ≤ 100) ∧ ¬ v < nI (qFo A.2.2.1) - 1 → rN A.2.2.2 < 8 → R (kp_ri (nI (rN A.2.2.2))) (ka_sI (ka_sI (km_0 h) 99 (rN A.2.2.2) v) 72 44 (nI (rN A.2.2.2 + 1)))) → kp_T 200 219 [.ref 72, .int v] h R := by
    intro g h R hf hM e0 e1 e2
    have hf0 : kf g (km_0 h) := kf_m hf
    have i35 : ka_I (km_0 h) 72 35 = nI (qFo A.2.2.1) := hM.2.2.1.2.2.1
    have i44 : ka_I (km_0 h) 72 44 = nI (rN A.2.2.2) := hM.2.2.2.1
    have t0 : ka_I (km_0 h) 72 0 = 0 := rfl
    refine kq_in (d := 199) hf rfl rfl rfl (kq_seg (fun p => Nat.beq p 5) 10 ?_)
    refine (?_ : kq_ex g 199 219 R 5 [.ref 72, .int v] [] (km_0 h))
    have e0' : ¬ ((0 ≤ v ∧ v ≤ 100) ∧ ¬ v < nI (qFo A.2.2.1) - 1) → R (kp_ri 0) (ka_sI (km_0 h) 72 0 1) := e0
    generalize km_0 h = H at hf0 i35 i44 t0 e0' e1 e2
    have bad : ¬ ((0 ≤ v ∧ v ≤ 100) ∧ ¬ v < nI (qFo A.2.2.1) - 1) → kq_ex g 199 219 R 31 [.ref 72, .int v] [.int 0, .ref 72] H := fun z => by
      refine kq_seg kp_no 10 ?_
      exact kq_ci (kc_may0 (code := 1) hf0 t0 (by decide)) (kf_m hf0) ⟨fun y => absurd rfl y, fun _ => ⟨trivial, e0' z⟩⟩
    refine kq_seg (fun p => Nat.beq p 31) 30 ?_
    refine kq_ci kc_within hf0 ?_
    by_cases z : 0 ≤ v ∧ v ≤ 100
    · rw [kp_bT (show Int32.ofInt 0 ≤ v ∧ v ≤ Int32.ofInt 100 from z)]
      refine ⟨fun y => absurd y (by decide), fun _ => ⟨fun y => bad (fun t => t.2 (by rw [← i35]; exact y)), fun y => ?_⟩⟩
      have ok : (0 ≤ v ∧ v ≤ 100) ∧ ¬ v < nI (qFo A.2.2.1) - 1 := ⟨z, by rw [← i35]; exact y⟩
      refine (kq_seg kp_no 40 ?_ : kq_ex g 199 219 R 31 [.ref 72, .int v] [.int 1, .ref 72] H)
      refine kq_ci (kc_may1 (code := 1) hf0 t0) hf0 ⟨fun _ => ⟨fun y2 => ?_, fun y2 => ⟨trivial, e1 ok ?_⟩⟩, fun y => absurd y (by decide)⟩
      · have h8 : rN A.2.2.2 < 8 := by
          rcases Nat.lt_or_ge (rN A.2.2.2) 8 with t | t
          · exact t
          · exact absurd (show ka_I H 72 44 = nI 8 by rw [i44, show rN A.2.2.2 = 8 by omega]) y2
        refine ⟨(show vp_in (ka_I H 72 44) 8 by rw [i44]; exact nI_in h8 (by omega)), ⟨trivial, ?_⟩⟩
        have := e2 ok h8
        have e10 : ka_I (ka_sI H 99 (rN A.2.2.2) v) 72 44 + 1 = nI (rN A.2.2.2 + 1) := by
          rw [show ka_I (ka_sI H 99 (rN A.2.2.2) v) 72 44 = nI (rN A.2.2.2) from i44, ← nI_succ]
        have e10' : nI (rN A.2.2.2) = ka_I (ka_sI (ka_sI H 99 (rN A.2.2.2) v) 72 44 (nI (rN A.2.2.2 + 1))) 72 44 - 1 := by
          rw [ka_IS, nI_m1' (by omega)]
          rfl
        rw [e10', ← e10, show rN A.2.2.2 = (ka_I H 72 44).toNatClampNeg by rw [i44, nI_clamp (by omega)]] at this
        exact this
      · have y2' : ka_I H 72 44 = nI 8 := y2
        rw [i44] at y2'
        exact (nI_eq (by omega) (by omega)).mp y2'
    · rw [kp_bF (show ¬ (Int32.ofInt 0 ≤ v ∧ v ≤ Int32.ofInt 100) from z)]
      exact ⟨fun _ => bad (fun t => z t.1), fun y => absurd rfl y⟩
  by_cases c : (0 ≤ v ∧ v ≤ 100) ∧ ¬ v < nI (qFo A.2.2.1) - 1
  · by_cases c8 : rN A.2.2.2 = 8
    · refine ⟨A, 0, 0, -1, w, fun z => absurd rfl z, fun g h R hf hb hC e0 e1 => ?_, fun g h R hf hM e3 => ?_⟩
      · exact cx g h R hf hb hC (fun z => absurd c z) (fun _ _ => e1 rfl h hf hC kFc.rfl') (fun _ z => by omega)
      · exact cm g h R hf hM (fun z => absurd c z) (fun _ _ => e3 _ _ (kf_m hf) hM.m0 kFm.m0 rfl (fun _ => rfl)) (fun _ z => by omega)
    · obtain ⟨e, he, ev⟩ := i32_le (v := v) (N := 100) c.1 (by omega)
      refine ⟨(A.1, A.2.1, A.2.2.1, (rN A.2.2.2 + 1, kh_u (rH A.2.2.2) (rN A.2.2.2) v, fun k => if k = rN A.2.2.2 then false else rG A.2.2.2 k)), 0, 0, nI (rN A.2.2.2), ⟨w.1, w.2.1, w.2.2.1, ⟨by show rN A.2.2.2 + 1 ≤ 8; omega, fun k hk => ?_⟩⟩, fun z => absurd rfl z, fun g h R hf hb hC e0 e1 => ?_, fun g h R hf hM e3 => ?_⟩
      · show ∃ e, e ≤ 100 ∧ kh_u (rH A.2.2.2) (rN A.2.2.2) v k = nI e
        have hk' : k < rN A.2.2.2 + 1 := hk
        by_cases z : k = rN A.2.2.2
        · rw [z, kh_uS]; exact ⟨e, he, ev⟩
        · rw [kh_uN _ _ z]; exact w.2.2.2.2 k (by omega)
      · refine cx g h R hf hb hC (fun z => absurd c z) (fun _ z => absurd z c8) (fun _ h8 => ?_)
        refine e1 rfl _ (kf_w (kf_w hf 70 rfl rfl) 1 rfl rfl) (hC.rd hf.1 ⟨rfl, fun k hk => ?_⟩ rfl (fun _ => rfl) (fun _ => rfl) (fun k hk => ?_) (fun a a1 a2 => (kI_o _ _ _ a1).trans (kI_o _ _ _ a2))) ⟨Nat.le_add_right _ _, Nat.le_add_right _ _, fun a a1 a2 => (kI_o _ _ _ (by omega)).trans (kI_o _ _ _ (by omega))⟩
        · have hk' : k < rN A.2.2.2 + 1 := hk
          show (if k = rN A.2.2.2 then v else ka_I h 70 k) = if (if k = rN A.2.2.2 then false else rG A.2.2.2 k) = true then -1 else kh_u (rH A.2.2.2) (rN A.2.2.2) v k
          unfold kh_u
          by_cases z : k = rN A.2.2.2
          · simp only [if_pos z]; rfl
          · simp only [if_neg z]; exact hC.2.2.1.2 k (by omega)
        · rw [ka_IJ _ _ _ _ hk, kI_o _ _ _ (by decide)]
      · refine cm g h R hf hM (fun z => absurd c z) (fun _ z => absurd z c8) (fun _ h8 => ?_)
        refine e3 _ _ (kf_w (kf_w (kf_m hf) 99 rfl rfl) 72 rfl rfl) (hM.rd ⟨rfl, fun k hk => ?_, fun k k1 k2 => ?_⟩ (fun k k0 k44 => ?_) (fun a a1 a2 => ?_)) ((kFm.m0.sI (by omega)).sI (by omega)) rfl (fun _ => rfl)
        · have hk' : k < rN A.2.2.2 + 1 := hk
          show (if k = rN A.2.2.2 then v else ka_I h 99 k) = kh_u (rH A.2.2.2) (rN A.2.2.2) v k ∧ ka_I h 100 k = bI (if k = rN A.2.2.2 then false else rG A.2.2.2 k)
          unfold kh_u
          by_cases z : k = rN A.2.2.2
          · simp only [if_pos z]; exact ⟨trivial, hM.2.2.2.2.2 k (by omega) (by omega)⟩
          · simp only [if_neg z]; exact hM.2.2.2.2.1 k (by omega)
        · have k1' : rN A.2.2.2 + 1 ≤ k := k1
          exact hM.2.2.2.2.2 k (by omega) k2
        · rw [ka_IJ _ _ _ _ k44, kI_o _ _ _ (by decide), ka_IJ _ _ _ _ k0]
        · rw [kI_o _ _ _ (by omega), kI_o _ _ _ (by omega), kI_o _ _ _ (by omega)]
  · refine ⟨A, 1, 0, 0, w, fun _ => ⟨rfl, rfl, rfl⟩, fun g h R hf hb hC e0 e1 => ?_, fun g h R hf hM e3 => ?_⟩
    · exact cx g h R hf hb hC (fun _ => e0 (by decide)) (fun z => absurd z c) (fun z => absurd z c)
    · exact cm g h R hf hM (fun _ => e3 _ _ (kf_m (kf_m hf)) hM.mt kFm.mt rfl (fun z => by cases z)) (fun z => absurd z c) (fun z => absurd z c)
theorem ko_gone (w : kWA A) (v : Int32) : kOx (kmp1 1) 200 101 220 [.int v] A := by
  have w8 := w.2.2.2.1
  have cx : ∀ (g : Nat × (Nat → Int32)) (h : ka_H) (R : ka_R → ka_H → Prop), kf g h → h.1 + 64 ≤ 1000000 → kcA A h → (¬ (∃ k, v = nI k ∧ k < rN A.2.2.2 ∧ rG A.2.2.2 k = false) → R (.inr (1, h.1)) (kx h 1)) → (∀ k, v = nI k → k < rN A.2.2.2 → rG A.2.2.2 k = false → R (kp_ri (rH A.2.2.2 k)) (ka_sI h 70 k (-1))) → kp_T 200 101 [.ref 1, .int v] h R := by
    intro g h R hf hb hC e0 e1
    obtain ⟨-, -, ⟨r1, r2⟩, -⟩ := hC
    have j31 : ¬ (∃ k, v = nI k ∧ k < rN A.2.2.2 ∧ rG A.2.2.2 k = false) → kq_ex g 199 101 R 31 [.ref 1, .int v, .retAddr 0] [] h := fun z => kq_seg kp_no 10 ⟨by show h.1 < 1000000; omega, e0 z⟩
    refine kq_in (d := 199) hf rfl rfl rfl (kq_seg (fun p => Nat.beq p 31) 40 ⟨fun y => ?_, fun y => ⟨fun y2 => ?_, fun y2 => ⟨fun y3 => ?_, fun y3 => ⟨?_, ?_⟩⟩⟩⟩)
    · exact j31 (fun ⟨k, t1, _⟩ => by rw [t1] at y; exact absurd y (nI_n0 (by omega)))
    · exact j31 (fun ⟨k, t1, t2, _⟩ => y2 (by show v < ka_I h 1 10; rw [r1, t1]; exact nI_lt t2 (by omega)))
    · exact j31 (fun ⟨k, t1, t2, _⟩ => y3 (by show v < nI 8; rw [t1]; exact nI_lt (by omega) (by omega)))
    · have y2' : v < nI (rN A.2.2.2) := by rw [← r1]; exact y2
      obtain ⟨k, hk, rfl⟩ := i32_nat y y2' (by omega)
      exact nI_in (N := 8) (by omega) (by omega)
    · have y2' : v < nI (rN A.2.2.2) := by rw [← r1]; exact y2
      obtain ⟨k, hk, rfl⟩ := i32_nat y y2' (by omega)
      rw [nI_clamp (by omega), show ka_I h (kq_p h 1 6) k = _ from r2 k hk]
      obtain ⟨e, he, ee⟩ := w.2.2.2.2 k hk
      have ek := e1 k rfl hk
      refine ⟨fun t => ?_, fun t => ?_⟩
      · have hg : rG A.2.2.2 k = false := by
          cases hr : rG A.2.2.2 k with
          | false => rfl
          | true => rw [hr, if_pos rfl] at t; exact absurd rfl t
        refine ⟨nI_in (N := 8) (by omega) (by omega), ⟨nI_in (N := 8) (by omega) (by omega), ⟨trivial, ?_⟩⟩⟩
        rw [nI_clamp (by omega), show ka_I h (kq_p h 1 6) k = _ from r2 k hk, hg, if_neg (by decide)]
        exact ek hg
      · refine j31 (fun ⟨k', t1, t2, t3⟩ => ?_)
        have : k = k' := (nI_eq (by omega) (by omega)).mp t1
        rw [← this] at t3
        rw [t3, if_neg (by decide), ee] at t
        exact absurd t (nI_ne_m1 (by omega))
  have cm : ∀ (g : Nat × (Nat → Int32)) (h : ka_H) (R : ka_R → ka_H → Prop), kf g h → kmA A h → (¬ (∃ k, v = nI k ∧ k < rN A.2.2.2 ∧ rG A.2.2.2 k = false) → R (kp_ri 0) (km_t h 1)) → (∀ k, v = nI k → k < rN A.2.2.2 → rG A.2.2.2 k = false → R (kp_ri (rH A.2.2.2 k)) (ka_sI (km_0 h) 100 k 1)) → kp_T 200 220 [.ref 72, .int v] h R := by
    intro g h R hf hM e0 e1
    have hf0 : kf g (km_0 h) := kf_m hf
    have m0 : kmr A.2.2.2 (km_0 h) := hM.m0.2.2.2
    have t0 : ka_I (km_0 h) 72 0 = 0 := rfl
    refine kq_in (d := 199) hf rfl rfl rfl (kq_seg (fun p => Nat.beq p 5) 10 ?_)
    refine (?_ : kq_ex g 199 220 R 5 [.ref 72, .int v] [] (km_0 h))
    have e0' : ¬ (∃ k, v = nI k ∧ k < rN A.2.2.2 ∧ rG A.2.2.2 k = false) → R (kp_ri 0) (ka_sI (km_0 h) 72 0 1) := e0
    generalize km_0 h = H at hf0 m0 t0 e0' e1
    have hiff := kIsN_iff (v := v) (n := rN A.2.2.2) (by omega)
    have bad : ¬ (∃ k, v = nI k ∧ k < rN A.2.2.2 ∧ rG A.2.2.2 k = false) → kq_ex g 199 220 R 34 [.ref 72, .int v] [.int 0, .ref 72] H := fun z => by
      refine kq_seg kp_no 10 ?_
      exact kq_ci (kc_may0 (code := 1) hf0 t0 (by decide)) (kf_m hf0) ⟨fun y => absurd rfl y, fun _ => ⟨trivial, e0' z⟩⟩
    refine kq_seg (fun p => Nat.beq p 34) 30 ?_
    refine kq_ci kc_within hf0 ?_
    rw [show ka_I H 72 44 = _ from m0.1]
    by_cases z : kIsN (rN A.2.2.2) v
    · rw [kp_bT (show Int32.ofInt 0 ≤ v ∧ v ≤ nI (rN A.2.2.2) - Int32.ofInt 1 from hiff.mpr z)]
      obtain ⟨k, rfl, hk⟩ := z
      refine ⟨fun y => absurd y (by decide), fun _ => ⟨nI_in (N := 8) (by omega) (by omega), ?_⟩⟩
      rw [nI_clamp (by omega), show ka_I H (kq_p H 72 46) k = _ from (m0.2.1 k hk).2]
      refine ⟨fun y => bad (fun ⟨k', t1, t2, t3⟩ => y ?_), fun y => ?_⟩
      · rw [(nI_eq (by omega) (by omega)).mp t1, t3]; rfl
      · refine (kq_seg kp_no 40 ?_ : kq_ex g 199 220 R 34 [.ref 72, .int (nI k)] [.int 1, .ref 72] H)
        refine kq_ci (kc_may1 (code := 1) hf0 t0) hf0 ⟨fun _ => ⟨⟨nI_in (N := 8) (by omega) (by omega), Or.inr rfl⟩, ⟨nI_in (N := 8) (by omega) (by omega), ⟨trivial, ?_⟩⟩⟩, fun y => absurd y (by decide)⟩
        rw [nI_clamp (by omega)]
        have := e1 k rfl hk (bI_0.mp y)
        rw [← (m0.2.1 k hk).1] at this
        exact this
    · rw [kp_bF (show ¬ (Int32.ofInt 0 ≤ v ∧ v ≤ nI (rN A.2.2.2) - Int32.ofInt 1) from fun y => z (hiff.mp y))]
      exact ⟨fun _ => bad (fun ⟨k, t1, t2, _⟩ => z ⟨k, t1, t2⟩), fun y => absurd rfl y⟩
  by_cases c : ∃ k, v = nI k ∧ k < rN A.2.2.2 ∧ rG A.2.2.2 k = false
  · obtain ⟨k, ev, hk, hg⟩ := c
    have same : ∀ k', v = nI k' → k' < rN A.2.2.2 → k' = k := fun k' y1 y2 => ((nI_eq (by omega) (by omega)).mp (ev.symm.trans y1)).symm
    refine ⟨(A.1, A.2.1, A.2.2.1, (rN A.2.2.2, rH A.2.2.2, fun j => if j = k then true else rG A.2.2.2 j)), 0, 0, rH A.2.2.2 k, ⟨w.1, w.2.1, w.2.2.1, w.2.2.2⟩, fun z => absurd rfl z, fun g h R hf hb hC e0 e1 => ?_, fun g h R hf hM e3 => ?_⟩
    · refine cx g h R hf hb hC (fun z => absurd ⟨k, ev, hk, hg⟩ z) (fun k' y1 y2 y3 => ?_)
      rw [same k' y1 y2]
      refine e1 rfl _ (kf_w hf 70 rfl rfl) (hC.rd hf.1 ⟨hC.2.2.1.1, fun j hj => ?_⟩ rfl (fun _ => rfl) (fun _ => rfl) (fun j hj => by rw [kI_o _ _ _ (by decide)]) (fun a a1 a2 => kI_o _ _ _ a2)) (kFc.w (by omega))
      show (if j = k then -1 else ka_I h 70 j) = if (if j = k then true else rG A.2.2.2 j) = true then -1 else rH A.2.2.2 j
      by_cases z : j = k
      · simp only [if_pos z]; rfl
      · simp only [if_neg z]; exact hC.2.2.1.2 j hj
    · refine cm g h R hf hM (fun z => absurd ⟨k, ev, hk, hg⟩ z) (fun k' y1 y2 y3 => ?_)
      rw [same k' y1 y2]
      refine e3 _ _ (kf_w (kf_m hf) 100 rfl rfl) (hM.rd ⟨hM.2.2.2.1, fun j hj => ?_, fun j j1 j2 => ?_⟩ (fun j k0 k44 => ?_) (fun a a1 a2 => ?_)) (kFm.m0.sI (by omega)) rfl (fun _ => rfl)
      · show ka_I h 99 j = rH A.2.2.2 j ∧ (if j = k then 1 else ka_I h 100 j) = bI (if j = k then true else rG A.2.2.2 j)
        refine ⟨(hM.2.2.2.2.1 j hj).1, ?_⟩
        by_cases z : j = k
        · simp only [if_pos z]; rfl
        · simp only [if_neg z]; exact (hM.2.2.2.2.1 j hj).2
      · have j1' : rN A.2.2.2 ≤ j := j1
        show (if j = k then 1 else ka_I h 100 j) = 0
        rw [if_neg (by omega)]
        exact hM.2.2.2.2.2 j j1 j2
      · rw [kI_o _ _ _ (by decide), ka_IJ _ _ _ _ k0]
      · rw [kI_o _ _ _ (by omega), kI_o _ _ _ (by omega)]
  · refine ⟨A, 1, 1, 0, w, fun _ => ⟨rfl, rfl, rfl⟩, fun g h R hf hb hC e0 e1 => ?_, fun g h R hf hM e3 => ?_⟩
    · exact cx g h R hf hb hC (fun _ => e0 (by decide)) (fun k y1 y2 y3 => absurd ⟨k, y1, y2, y3⟩ c)
    · exact cm g h R hf hM (fun _ => e3 _ _ (kf_m (kf_m hf)) hM.mt kFm.mt rfl (fun z => by cases z)) (fun k y1 y2 y3 => absurd ⟨k, y1, y2, y3⟩ c)
end RE
