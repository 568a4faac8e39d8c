/-! ===== ready, lacks ===== -/
theorem kv_nthF {p : Nat → Bool} {k bf : Int32} {j b : Nat} (h : ¬ p b = true) : kv_nth p k (j + 1) bf b = kv_nth p k j bf (b + 1) := if_neg h
theorem kv_nthT {p : Nat → Bool} {k bf : Int32} {j b : Nat} (h : p b = true) (e : bf = k) : kv_nth p k (j + 1) bf b = nI b := (if_pos h).trans (if_pos e)
theorem kv_nthN {p : Nat → Bool} {k bf : Int32} {j b : Nat} (h : p b = true) (e : ¬ bf = k) : kv_nth p k (j + 1) bf b = kv_nth p k j (bf + 1) (b + 1) := (if_pos h).trans (if_neg e)
section RD
variable {A : kA} {v u : Int32}
theorem ko_ques {D x m : Nat} {as : List Value} (w : kWA A) (cx : ¬ kIsQ A.2.2.1 v → ∀ (g : Nat × (Nat → Int32)) (h : ka_H) (R : ka_R → ka_H → Prop), kf g h → h.1 + 64 ≤ 1000000 → kcA A h → R (.inr (2, h.1)) (kx h 2) → kp_T D x (.ref 1 :: as) h R)
    (cm : ¬ kIsQ A.2.2.1 v → ∀ (g : Nat × (Nat → Int32)) (h : ka_H) (R : ka_R → ka_H → Prop), kf g h → kmA A h → R (kp_ri 0) (km_t h 1) → kp_T D m (.ref 72 :: as) h R)
    (ok : ∀ q, v = nI q → q < qQ A.2.2.1 → qLf A.2.2.1 q = false → kOx (kmp1 2) D x m as A) : kOx (kmp1 2) D x m as A := by
  by_cases c : kIsQ A.2.2.1 v
  · obtain ⟨q, ev, hq, hlf⟩ := c
    exact ok q ev hq hlf
  · refine ⟨A, 1, 2, 0, w, fun _ => ⟨rfl, rfl, rfl⟩, fun g h R hf hb hC e0 e1 => ?_, fun g h R hf hM e3 => ?_⟩
    · exact cx c g h R hf hb hC (e0 (by decide))
    · exact cm c g h R hf hM (e3 _ _ (kf_m (kf_m hf)) hM.mt kFm.mt rfl (fun z => by cases z))
theorem ko_ready (w : kWA A) (v u : Int32) : kOx (kmp1 2) 200 97 230 [.int v, .int u] A := by
  have w6 := w.2.2.1.1
  have hc := w.1.2.1
  refine ko_ques (v := v) w (fun c g h R hf hb hC b => ?_) (fun c g h R hf hM b => ?_) (fun q ev hq hlf => ?_)
  · refine kd_in (d := 199) hf rfl rfl rfl (kd_seg (fun p => Nat.beq p 12) 20 ⟨kK hf rfl rfl, ?_⟩)
    exact kx_q hf hb hC w (fun _ => ⟨kf_new hf (by omega), b⟩) (fun sb qb st q' q4 e' hq' hl' => absurd ⟨q', e', hq', hl'⟩ c)
  · have hf0 : kf g (km_0 h) := kf_m hf
    refine kq_in (d := 199) hf rfl rfl rfl (kq_seg (fun p => Nat.beq p 20) 20 ?_)
    exact kc_isQuestion hf0 rfl hM.m0.2.2.1 w6 (fun q' e' hq' hl' => absurd ⟨q', e', hq', hl'⟩ c) (fun z => ⟨kf_m hf0, ⟨fun y => absurd rfl y, fun _ => ⟨trivial, b⟩⟩⟩)
  · have hF := w.2.2.1.F hc
    have wk := fun s hs => (w.2.2.1.2.2.2.1 s hs).1
    obtain ⟨h1, h12⟩ := (w.2.2.1.2.2.2.2 q hq).1
    generalize hp : (fun i => decide (kCw A.1 A.2.2.1 (qSh A.2.2.1 q i))) = p
    have hpT : ∀ i, kCw A.1 A.2.2.1 (qSh A.2.2.1 q i) → p i = true := fun i z => by rw [← hp]; exact decide_eq_true z
    have hpF : ∀ i, ¬ kCw A.1 A.2.2.1 (qSh A.2.2.1 q i) → ¬ p i = true := fun i z y => by rw [← hp] at y; exact z (of_decide_eq_true y)
    refine ⟨A, 0, 0, kv_nth p u (qNd A.2.2.1 q).length 0 0, w, fun z => absurd rfl z, fun g h R hf hb hC e0 e1 => ?_, fun g h R hf hM e3 => ?_⟩
    · have e1' := e1 rfl h hf hC kFc.rfl'
      refine kd_in (d := 199) hf rfl rfl rfl (kd_seg (fun p => Nat.beq p 12) 20 ⟨kK hf rfl rfl, ?_⟩)
      refine kx_q hf hb hC w (fun z => absurd ⟨q, ev, hq, hlf⟩ z) (fun sb qb st q' q4 ev' hq' hlf' => ⟨hf, ?_⟩)
      rw [kIsQ_u w6 ev hq ev' hq']
      have hQ := (q4.2.2.2.2.2.2.1 q hq).1
      have hKb : (ka_K h (qb q)).1 = 4 := by rw [hQ.2.2.1]
      have hQn := hQ.2.2.2.2.2.2.2.2.2.1
      have main : ∀ m i bf, i + m = (qNd A.2.2.1 q).length → kv_nth p u m bf i = kv_nth p u (qNd A.2.2.1 q).length 0 0 → kd_ex g 199 97 R 12 [.ref 1, .int v, .int u, .ref (qb q), .int bf, .int (nI i)] [] h := by
        intro m
        induction m with
        | zero =>
          intro i bf hi hr
          refine kd_seg (fun p => Nat.beq p 12) 40 ⟨hKb, ?_⟩
          rw [hQn]
          refine ⟨fun _ => ⟨trivial, ?_⟩, fun c => absurd c (nI_nlt (by omega) (by omega))⟩
          rw [← hr] at e1'
          exact e1'
        | succ m ih =>
          intro i bf hi hr
          obtain ⟨hp', hs, cs, h13⟩ := q4.nd w.2.2.1 hq (k := i) (by omega)
          refine kd_seg (fun p => Nat.beq p 12) 40 ⟨hKb, ?_⟩
          rw [hQn]
          refine ⟨fun c => absurd (nI_lt (by omega) (by omega)) c, fun _ => ⟨hKb, ?_⟩⟩
          refine kc_qat1 hf hQ (by omega) ⟨hf, ⟨kK hf rfl rfl, ?_⟩⟩
          rw [hp']
          refine kc_canBeWorked hf hC.1 q4 hs wk hF (fun z => ⟨hf, ⟨fun y => absurd y (by decide), fun _ => ⟨fun y => ?_, fun y => ⟨trivial, ?_⟩⟩⟩⟩) (fun z => ⟨hf, ⟨fun _ => ?_, fun y => absurd rfl y⟩⟩)
          · have := ih (i + 1) (bf + 1) (by omega) ((kv_nthN (hpT i z) y).symm.trans hr)
            rw [nI_succ] at this
            exact this
          · rw [← hr, kv_nthT (hpT i z) y] at e1'
            exact e1'
          · have := ih (i + 1) bf (by omega) ((kv_nthF (hpF i z)).symm.trans hr)
            rw [nI_succ] at this
            exact this
      exact main _ 0 0 (Nat.zero_add _) rfl
    · have hf0 : kf g (km_0 h) := kf_m hf
      have hM0 : kmA A (km_0 h) := hM.m0
      subst ev
      refine kq_in (d := 199) hf rfl rfl rfl (kq_seg (fun p => Nat.beq p 5) 10 ?_)
      have t0 : ka_I (km_0 h) 72 0 = 0 := rfl
      have e3' := e3 (km_0 h) (kv_nth p u (qNd A.2.2.1 q).length 0 0) hf0 hM0 kFm.m0 rfl (fun _ => rfl)
      refine (?_ : kq_ex g 199 230 R 5 [.ref 72, .int (nI q), .int u, .retAddr 0, .retAddr 0] [] (km_0 h))
      generalize km_0 h = H at hf0 hM0 t0 e3'
      have h79 : ka_I H 79 q = nI (qNd A.2.2.1 q).length := (hM0.2.2.1.2.2.2.1 q hq).2.1
      have main : ∀ m i bf, i + m = (qNd A.2.2.1 q).length → kv_nth p u m bf i = kv_nth p u (qNd A.2.2.1 q).length 0 0 → kq_ex g 199 230 R 20 [.ref 72, .int (nI q), .int u, .int bf, .int (nI i)] [] H := by
        intro m
        induction m with
        | zero =>
          intro i bf hi hr
          refine kq_seg (fun p => Nat.beq p 20) 40 ⟨nI_in (N := 6) (by omega) (by omega), ?_⟩
          rw [nI_clamp (by omega), show ka_I H (kq_p H 72 11) q = _ from h79]
          refine ⟨fun _ => ⟨trivial, ?_⟩, fun c => absurd c (nI_nlt (by omega) (by omega))⟩
          rw [← hr] at e3'
          exact e3'
        | succ m ih =>
          intro i bf hi hr
          refine kq_seg (fun p => Nat.beq p 20) 40 ⟨nI_in (N := 6) (by omega) (by omega), ?_⟩
          rw [nI_clamp (by omega), show ka_I H (kq_p H 72 11) q = _ from h79]
          refine ⟨fun c => absurd (nI_lt (by omega) (by omega)) c, fun _ => ?_⟩
          have e12 : Int32.ofInt 12 * nI q + nI i = nI (12 * q + i) := by rw [nI_12m, nI_add]
          have cw := fun R' a b => kc_canWork (d := 197) (R := R') (k := i) hf0 hM0.1 hM0.2.2.1 w.2.2.1 hc hq (by omega) a b
          rw [← e12] at cw
          refine cw _ (fun z => ⟨hf0, ⟨fun _ => ⟨fun y => ?_, fun y => ⟨trivial, ?_⟩⟩, fun y => absurd y (by decide)⟩⟩) (fun z => ⟨hf0, ⟨fun y => absurd rfl y, fun _ => ?_⟩⟩)
          · have := ih (i + 1) (bf + 1) (by omega) ((kv_nthN (hpT i z) y).symm.trans hr)
            rw [nI_succ] at this
            exact this
          · rw [← hr, kv_nthT (hpT i z) y] at e3'
            exact e3'
          · have := ih (i + 1) bf (by omega) ((kv_nthF (hpF i z)).symm.trans hr)
            rw [nI_succ] at this
            exact this
      refine kq_seg (fun p => Nat.beq p 20) 20 ?_
      refine kc_isQuestion hf0 t0 hM0.2.2.1 w6 (fun q' e' hq' hl' => ⟨hf0, ⟨fun _ => ?_, fun z => absurd z (by decide)⟩⟩) (fun z => absurd ⟨q, rfl, hq, hlf⟩ z)
      exact main _ 0 0 (Nat.zero_add _) rfl
end RD
