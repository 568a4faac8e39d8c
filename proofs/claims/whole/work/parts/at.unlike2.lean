/-! ===== unlike: two questions ===== -/
theorem ko_two {A : kA} {D x m : Nat} {as : List Value} {v u : Int32} {val : Nat → Nat → Int32} (w : kWA A)
    (cx : ∀ (g : Nat × (Nat → Int32)) (h : ka_H) (R : ka_R → ka_H → Prop), kf g h → h.1 + 64 ≤ 1000000 → kcA A h → (¬ (kIsQ A.2.2.1 v ∧ kIsQ A.2.2.1 u) → R (.inr (2, h.1)) (kx h 2)) → (∀ q p, kQv A.2.2.1 v q → kQv A.2.2.1 u p → ∀ h', kf g h' → kcA A h' → kFc h h' → R (kp_ri (val q p)) h') → kp_T D x (.ref 1 :: as) h R)
    (cm : ∀ (g : Nat × (Nat → Int32)) (h : ka_H) (R : ka_R → ka_H → Prop), kf g h → kmA A h → (¬ (kIsQ A.2.2.1 v ∧ kIsQ A.2.2.1 u) → R (kp_ri 0) (km_t h 1)) → (∀ q p, kQv A.2.2.1 v q → kQv A.2.2.1 u p → ∀ h', kf g h' → kPq (km_0 h) h' → R (kp_ri (val q p)) h') → kp_T D m (.ref 72 :: as) h R) : kOx (kmp1 2) D x m as A := by
  have w6 := w.2.2.1.1
  by_cases c : kIsQ A.2.2.1 v ∧ kIsQ A.2.2.1 u
  · obtain ⟨⟨q, hq⟩, p, hp⟩ := c
    refine ⟨A, 0, 0, val q p, w, fun z => absurd rfl z, fun g h R hf hb hC e0 e1 => ?_, fun g h R hf hM e3 => ?_⟩
    · exact cx g h R hf hb hC (fun z => absurd ⟨⟨q, hq⟩, p, hp⟩ z) (fun q' p' hq' hp' h' f1 f2 f3 => by rw [kIsQ_u w6 hq.1 hq.2.1 hq'.1 hq'.2.1, kIsQ_u w6 hp.1 hp.2.1 hp'.1 hp'.2.1]; exact e1 rfl h' f1 f2 f3)
    · exact cm g h R hf hM (fun z => absurd ⟨⟨q, hq⟩, p, hp⟩ z) (fun q' p' hq' hp' h' f1 f2 => by rw [kIsQ_u w6 hq.1 hq.2.1 hq'.1 hq'.2.1, kIsQ_u w6 hp.1 hp.2.1 hp'.1 hp'.2.1]; exact e3 h' _ f1 (f2.ma hM.m0) (kFm.m0.tr f2.1) ((f2.2.1 0 (by decide)).trans rfl) (fun _ => rfl))
  · refine ⟨A, 1, 2, 0, w, fun _ => ⟨rfl, rfl, rfl⟩, fun g h R hf hb hC e0 e1 => ?_, fun g h R hf hM e3 => ?_⟩
    · exact cx g h R hf hb hC (fun _ => e0 (by decide)) (fun q p hq hp => absurd ⟨⟨q, hq⟩, p, hp⟩ c)
    · exact cm g h R hf hM (fun _ => e3 _ _ (kf_m (kf_m hf)) hM.mt kFm.mt rfl (fun z => by cases z)) (fun q p hq hp => absurd ⟨⟨q, hq⟩, p, hp⟩ c)
noncomputable def kVal3 (A : kA) (s1 s2 : Nat) (e z : Int32) : Int32 := @ite _ (kTd1 A.1 A.2.2.1 s1 e ∧ kTd1 A.1 A.2.2.1 s2 e) (Classical.propDecidable _) (kUn (fun r => kAn (kSV (qKy A.2.2.1) (lT A.1 (lE A.1 e.toNatClampNeg)) s1 r)) (fun r => kAn (kSV (qKy A.2.2.1) (lT A.1 (lE A.1 e.toNatClampNeg)) s2 r)) 256) z
section UL
variable {A : kA}
theorem kVal3_T {s1 s2 n : Nat} {z : Int32} (h1 : kTd1 A.1 A.2.2.1 s1 (nI n)) (h2 : kTd1 A.1 A.2.2.1 s2 (nI n)) (hn : n < 2 ^ 31) : kVal3 A s1 s2 (nI n) z = kUn (fun r => kAn (kSV (qKy A.2.2.1) (lT A.1 (lE A.1 n)) s1 r)) (fun r => kAn (kSV (qKy A.2.2.1) (lT A.1 (lE A.1 n)) s2 r)) 256 := by
  unfold kVal3
  rw [if_pos ⟨h1, h2⟩, nI_clamp hn]
theorem kVal3_F {s1 s2 : Nat} {e z : Int32} (h : ¬ (kTd1 A.1 A.2.2.1 s1 e ∧ kTd1 A.1 A.2.2.1 s2 e)) : kVal3 A s1 s2 e z = z := if_neg h
theorem ko_unlike (w : kWA A) (v u ed : Int32) : kOx (kmp1 2) 200 109 228 [.int v, .int u, .int ed] A := by
  have hc := w.1.2.1
  have w6 := w.2.2.1.1
  refine ko_two (v := v) (u := u) (val := fun q p => kVal3 A (qSh A.2.2.1 q ((qNd A.2.2.1 q).length - 1)) (qSh A.2.2.1 p ((qNd A.2.2.1 p).length - 1)) ed (Int32.ofInt (-1))) w (fun g h R hf hb hC e0 e3 => ?_) (fun g h R hf hM e0 e3 => ?_)
  · refine kd_in (d := 199) hf rfl rfl rfl (kd_seg (fun p => Nat.beq p 34 || Nat.beq p 80) 60 ⟨kK hf rfl rfl, ?_⟩)
    refine kx_q hf hb hC w (fun z => ⟨kf_new hf (by omega), e0 (fun y => z y.1)⟩) (fun sb qb st q q4 ev hq hlf => ⟨hf, ⟨kK hf rfl rfl, ?_⟩⟩)
    refine kc_askedFor hf (by omega) q4 w6 (fun z => ⟨kf_new hf (by omega), e0 (fun y => z y.2)⟩) (fun p eu hp hlp => ⟨hf, ⟨kK hf rfl rfl, ?_⟩⟩)
    obtain ⟨h1, h12⟩ := (w.2.2.1.2.2.2.2 q hq).1
    obtain ⟨i1, i12⟩ := (w.2.2.1.2.2.2.2 p hp).1
    have hQ := (q4.2.2.2.2.2.2.1 q hq).1
    have hKb : (ka_K h (qb q)).1 = 4 := by rw [hQ.2.2.1]
    have j34 : ¬ (kTd1 A.1 A.2.2.1 (qSh A.2.2.1 q ((qNd A.2.2.1 q).length - 1)) ed ∧ kTd1 A.1 A.2.2.1 (qSh A.2.2.1 p ((qNd A.2.2.1 p).length - 1)) ed) → kd_ex g 199 109 R 34 [.ref 1, .int v, .int u, .int ed, .ref (qb q), .ref (qb p), .retAddr 0, .retAddr 0, .retAddr 0] [] h := fun t => by
      have e : R (kp_ri (kVal3 A (qSh A.2.2.1 q ((qNd A.2.2.1 q).length - 1)) (qSh A.2.2.1 p ((qNd A.2.2.1 p).length - 1)) ed (Int32.ofInt (-1)))) h := e3 q p ⟨ev, hq, hlf⟩ ⟨eu, hp, hlp⟩ h hf hC kFc.rfl'
      rw [kVal3_F t] at e
      exact kd_seg kp_no 4 ⟨trivial, e⟩
    refine kx_toldW hf hC.1 w q4 hq (fun n en hn t1 => ⟨hf, ⟨fun y => absurd y (by decide), fun _ => ⟨kK hf rfl rfl, ?_⟩⟩⟩) (fun t => ⟨hf, ⟨fun _ => j34 (fun y => t y.1), fun y => absurd rfl y⟩⟩)
    refine kx_toldW hf hC.1 w q4 hp (fun n' _ _ t2 => ⟨hf, ⟨fun _ => ⟨hKb, ?_⟩, fun y => absurd y (by decide)⟩⟩) (fun t => ⟨hf, ⟨fun y => absurd rfl y, fun _ => j34 (fun y => t y.2)⟩⟩)
    subst en
    refine kq_ci (kc_last hf hQ) hf ⟨kK hf rfl rfl, ?_⟩
    refine kx_cnt (nI_m1' h1) hf hC w q4 hq (k := (qNd A.2.2.1 q).length - 1) (by omega) hn (fun h' st' f1 f2 f3 f4 f5 f6 => ⟨f1, ⟨kK f1 rfl rfl, ?_⟩⟩)
    have k71 : kr h' 71 256 := ⟨kK f1 rfl rfl, kZ f1 rfl rfl⟩
    refine ⟨f5.1, k71.1, kcp_ok256 f5 k71, ?_⟩
    rw [show ((Int32.ofInt 0).toNatClampNeg) = 0 from rfl, show ((Int32.ofInt 256).toNatClampNeg) = 256 from rfl, ka_cpy256, show kq_p h' 1 7 = 71 from rfl]
    have hF : ∀ r, r < 256 → kh_o (ka_I h' 71) (ka_I h' (sb (qSh A.2.2.1 q ((qNd A.2.2.1 q).length - 1)) + 2)) 256 r = kSV (qKy A.2.2.1) (lT A.1 (lE A.1 n)) (qSh A.2.2.1 q ((qNd A.2.2.1 q).length - 1)) r := fun r hr => by rw [kh_o_T _ _ hr]; exact f6 r hr
    generalize kh_o (ka_I h' 71) (ka_I h' (sb (qSh A.2.2.1 q ((qNd A.2.2.1 q).length - 1)) + 2)) 256 = F at hF
    have hfF : kf g (ka_sF h' 71 F) := kf_F f1 71 rfl rfl
    have q5 := f4.e71 (F := F) f1
    have hP := (q5.2.2.2.2.2.2.1 p hp).1
    refine ⟨by rw [hP.2.2.1], ?_⟩
    refine kq_ci (kc_last hfF hP) hfF ⟨kK hfF rfl rfl, ?_⟩
    refine kx_cnt (nI_m1' i1) hfF (f3.e71 f1) w q5 hp (k := (qNd A.2.2.1 p).length - 1) (by omega) hn (fun h2 st2 g1 g2 g3 g4 g5 g6 => ⟨g1, ?_⟩)
    have i71 : ∀ r, r < 256 → ka_I h2 71 r = kSV (qKy A.2.2.1) (lT A.1 (lE A.1 n)) (qSh A.2.2.1 q ((qNd A.2.2.1 q).length - 1)) r := fun r hr => by
      rw [g2.2.2.2.2 71 (by omega) (by omega) (by omega), ka_I_F]
      exact hF r hr
    have fc : kFc h h2 := kFc.tr (h' := ka_sF h' 71 F) ⟨f2.1, f2.2.1, fun x h1 h2 => by rw [ka_I_Fn _ _ (by omega)]; exact f2.2.2.2.2 x (by omega) (by omega) (by omega)⟩ g2.fc
    have e' : R (kp_ri (kVal3 A (qSh A.2.2.1 q ((qNd A.2.2.1 q).length - 1)) (qSh A.2.2.1 p ((qNd A.2.2.1 p).length - 1)) (nI n) (Int32.ofInt (-1)))) h2 := e3 q p ⟨ev, hq, hlf⟩ ⟨eu, hp, hlp⟩ h2 g1 g3 fc
    rw [kVal3_T t1 t2 (by omega)] at e'
    generalize kSV (qKy A.2.2.1) (lT A.1 (lE A.1 n)) (qSh A.2.2.1 q ((qNd A.2.2.1 q).length - 1)) = V at e' i71
    generalize kSV (qKy A.2.2.1) (lT A.1 (lE A.1 n)) (qSh A.2.2.1 p ((qNd A.2.2.1 p).length - 1)) = W at e' g6
    generalize sb (qSh A.2.2.1 p ((qNd A.2.2.1 p).length - 1)) + 2 = c at g5 g6
    have k71' : kr h2 71 256 := ⟨kK g1 rfl rfl, kZ g1 rfl rfl⟩
    have hd := kq_for (P := fun i => kd_ex g 199 109 R 80 [.ref 1, .int v, .int u, .int (nI n), .ref (qb q), .ref (qb p), .ref c, .int (kUn (fun r => kAn (V r)) (fun r => kAn (W r)) i), .int (nI i)] [] h2) 256 ?_ (fun i hi ih => ?_)
    · exact hd
    · exact kd_seg (fun p => Nat.beq p 80) 20 ⟨fun _ => ⟨trivial, e'⟩, fun y => absurd y (nI_nlt (b := 256) (by omega) (by omega))⟩
    · rw [nI_succ] at ih
      refine kd_seg (fun p => Nat.beq p 80) 30 ⟨fun y => absurd (nI_lt (b := 256) hi (by omega)) y, fun _ => ⟨kK g1 rfl rfl, ⟨kr_in k71' hi (by omega), ?_⟩⟩⟩
      rw [nI_clamp (by omega), show ka_I h2 (kq_p h2 1 7) i = V i from i71 i hi]
      refine kq_ci (kc_max g1) g1 ⟨kr_in g5 hi (by omega), ?_⟩
      rw [nI_clamp (by omega), g6 i hi]
      refine kq_ci (kc_max g1) g1 ⟨fun y => ?_, fun y => ?_⟩
      · rw [kUn_T (show (fun r => kAn (V r)) i = (fun r => kAn (W r)) i from y)] at ih; exact ih
      · rw [kUn_F (show ¬ (fun r => kAn (V r)) i = (fun r => kAn (W r)) i from y)] at ih; exact ih
  · have hf0 : kf g (km_0 h) := kf_m hf
    have hM0 : kmA A (km_0 h) := hM.m0
    have t0 : ka_I (km_0 h) 72 0 = 0 := rfl
    have e0' : ¬ (kIsQ A.2.2.1 v ∧ kIsQ A.2.2.1 u) → R (kp_ri 0) (ka_sI (km_0 h) 72 0 1) := e0
    refine kq_in (d := 199) hf rfl rfl rfl (kq_seg (fun p => Nat.beq p 5) 10 ?_)
    refine (?_ : kq_ex g 199 228 R 5 [.ref 72, .int v, .int u, .int ed, .retAddr 0, .retAddr 0] [] (km_0 h))
    generalize km_0 h = H at hf0 hM0 t0 e0' e3
    have j21 : ∀ H' a b c, R (kp_ri 0) H' → kq_ex g 199 228 R 21 [.ref 72, a, b, c, .retAddr 0, .retAddr 0] [] H' := fun H' a b c e => kq_seg kp_no 4 ⟨trivial, e⟩
    refine kq_seg (fun p => Nat.beq p 21 || Nat.beq p 41 || Nat.beq p 60) 60 ?_
    refine kc_isQuestion hf0 t0 hM0.2.2.1 w6 (fun q ev hq hlf => ⟨hf0, ⟨fun z => absurd z (by decide), fun _ => ?_⟩⟩) (fun z => ⟨kf_m hf0, ⟨fun _ => j21 _ _ _ _ (e0' (fun y => z y.1)), fun y => absurd rfl y⟩⟩)
    refine kc_isQuestion hf0 t0 hM0.2.2.1 w6 (fun p eu hp hlp => ⟨hf0, ⟨fun _ => ?_, fun z => absurd z (by decide)⟩⟩) (fun z => ⟨kf_m hf0, ⟨fun y => absurd rfl y, fun _ => j21 _ _ _ _ (e0' (fun y => z y.2))⟩⟩)
    obtain ⟨h1, h12⟩ := (w.2.2.1.2.2.2.2 q hq).1
    obtain ⟨i1, i12⟩ := (w.2.2.1.2.2.2.2 p hp).1
    subst ev
    subst eu
    have j41 : ¬ (kTd1 A.1 A.2.2.1 (qSh A.2.2.1 q ((qNd A.2.2.1 q).length - 1)) ed ∧ kTd1 A.1 A.2.2.1 (qSh A.2.2.1 p ((qNd A.2.2.1 p).length - 1)) ed) → kq_ex g 199 228 R 41 [.ref 72, .int (nI q), .int (nI p), .int ed, .retAddr 0, .retAddr 0] [] H := fun t => by
      have e : R (kp_ri (kVal3 A (qSh A.2.2.1 q ((qNd A.2.2.1 q).length - 1)) (qSh A.2.2.1 p ((qNd A.2.2.1 p).length - 1)) ed (Int32.ofInt (-1)))) H := e3 q p ⟨rfl, hq, hlf⟩ ⟨rfl, hp, hlp⟩ H hf0 kPq.rfl'
      rw [kVal3_F t] at e
      exact kq_seg kp_no 4 ⟨trivial, e⟩
    refine kc_isAnswer hf0 hM0.1 hM0.2.2.1 w.2.2.1 hc hq (fun t1 => ⟨hf0, ⟨fun y => absurd y (by decide), fun _ => ?_⟩⟩) (fun t => ⟨hf0, ⟨fun _ => j41 (fun y => t y.1), fun y => absurd rfl y⟩⟩)
    refine kc_isAnswer hf0 hM0.1 hM0.2.2.1 w.2.2.1 hc hp (fun t2 => ⟨hf0, ⟨fun _ => ?_, fun y => absurd y (by decide)⟩⟩) (fun t => ⟨hf0, ⟨fun y => absurd rfl y, fun _ => j41 (fun y => t y.2)⟩⟩)
    obtain ⟨n, rfl, hn⟩ := t1.lt w (w.2.2.1.sh hq (by omega))
    refine ⟨nI_in (N := 6) (by omega) (by omega), ?_⟩
    rw [nI_clamp (by omega), show ka_I H (kq_p H 72 11) q = _ from (hM0.2.2.1.2.2.2.1 q hq).2.1]
    refine km_plain (nI_m1' h1) hf0 hM0 w hq (by omega) hn (fun h' f1 f2 f3 f4 f5 f6 => ⟨f1, ?_⟩)
    have f4' := fun r (hr : r < 256) => f4 _ r (Nat.le_refl _) hr
    have j88 : ∀ G z, (∀ r, r < 256 → G r = kAn (kSV (qKy A.2.2.1) (lT A.1 (lE A.1 n)) (qSh A.2.2.1 q ((qNd A.2.2.1 q).length - 1)) r)) → kq_ex g 199 228 R 88 [.ref 72, .int (nI q), .int (nI p), .int (nI n), z, .retAddr 0] [] (ka_sF h' 98 G) := by
      intro G z hG
      have hfG : kf g (ka_sF h' 98 G) := kf_F f1 98 rfl rfl
      have hMG : kmA A (ka_sF h' 98 G) := kPq.s98.ma f3
      refine kq_seg (fun p => Nat.beq p 108) 40 ⟨nI_in (N := 6) (by omega) (by omega), ?_⟩
      rw [nI_clamp (by omega), show ka_I (ka_sF h' 98 G) (kq_p (ka_sF h' 98 G) 72 11) p = _ from (hMG.2.2.1.2.2.2.1 p hp).2.1]
      refine km_plain (nI_m1' i1) hfG hMG w hp (by omega) hn (fun h2 g1 g2 g3 g4 g5 g6 => ⟨g1, ?_⟩)
      have g4' := fun r (hr : r < 256) => g4 _ r (Nat.le_refl _) hr
      have i98 : ∀ r, r < 256 → ka_I h2 98 r = kAn (kSV (qKy A.2.2.1) (lT A.1 (lE A.1 n)) (qSh A.2.2.1 q ((qNd A.2.2.1 q).length - 1)) r) := fun r hr => by
        rw [g2.2.2 98 (by omega) (by omega) (by omega) (by omega) (by omega), ka_I_F]
        exact hG r hr
      have e' : R (kp_ri (kVal3 A (qSh A.2.2.1 q ((qNd A.2.2.1 q).length - 1)) (qSh A.2.2.1 p ((qNd A.2.2.1 p).length - 1)) (nI n) (Int32.ofInt (-1)))) h2 := e3 q p ⟨rfl, hq, hlf⟩ ⟨rfl, hp, hlp⟩ h2 g1 ((f2.pq.tr kPq.s98).tr g2.pq)
      rw [kVal3_T t1 t2 (by omega)] at e'
      generalize kSV (qKy A.2.2.1) (lT A.1 (lE A.1 n)) (qSh A.2.2.1 q ((qNd A.2.2.1 q).length - 1)) = V at e' i98
      generalize kSV (qKy A.2.2.1) (lT A.1 (lE A.1 n)) (qSh A.2.2.1 p ((qNd A.2.2.1 p).length - 1)) = W at e' g4'
      have hd := kq_for (P := fun i => kq_ex g 199 228 R 108 [.ref 72, .int (nI q), .int (nI p), .int (nI n), .int (kUn (fun r => kAn (V r)) (fun r => kAn (W r)) i), .int (nI i)] [] h2) 256 ?_ (fun i hi ih => ?_)
      · exact hd
      · exact kq_seg (fun p => Nat.beq p 108) 20 ⟨fun _ => ⟨trivial, e'⟩, fun y => absurd y (nI_nlt (b := 256) (by omega) (by omega))⟩
      · rw [nI_succ] at ih
        refine kq_seg (fun p => Nat.beq p 108) 40 ⟨fun y => absurd (nI_lt (b := 256) hi (by omega)) y, fun _ => ?_⟩
        refine kq_ci (km_answerAt rfl g1 g3 w hp hi) g1 ⟨nI_in (N := 256) hi (by omega), ?_⟩
        rw [nI_clamp (by omega), g4' i hi, show ka_I h2 (kq_p h2 72 43) i = kAn (V i) from i98 i hi]
        refine ⟨fun y => ?_, fun y => ?_⟩
        · rw [kUn_T (show (fun r => kAn (V r)) i = (fun r => kAn (W r)) i from y.symm)] at ih; exact ih
        · rw [kUn_F (show ¬ (fun r => kAn (V r)) i = (fun r => kAn (W r)) i from fun u => y u.symm)] at ih; exact ih
    have hd := kq_for (P := fun i => ∀ G, (∀ r, r < i → G r = kAn (kSV (qKy A.2.2.1) (lT A.1 (lE A.1 n)) (qSh A.2.2.1 q ((qNd A.2.2.1 q).length - 1)) r)) → kq_ex g 199 228 R 60 [.ref 72, .int (nI q), .int (nI p), .int (nI n), .int (nI i), .retAddr 0] [] (ka_sF h' 98 G)) 256 ?_ (fun i hi ih G hG => ?_)
    · have := hd (ka_I h' 98) (fun r hr => absurd hr (Nat.not_lt_zero r))
      rw [ka_sF_eta] at this
      exact this
    · intro G hG
      exact kq_seg (fun p => Nat.beq p 60 || Nat.beq p 88) 20 ⟨fun _ => j88 G _ hG, fun y => absurd y (nI_nlt (b := 256) (by omega) (by omega))⟩
    · rw [nI_succ] at ih
      have hfG : kf g (ka_sF h' 98 G) := kf_F f1 98 rfl rfl
      have hMG : kmA A (ka_sF h' 98 G) := kPq.s98.ma f3
      refine kq_seg (fun p => Nat.beq p 60) 40 ⟨fun y => absurd (nI_lt (b := 256) hi (by omega)) y, fun _ => ?_⟩
      refine kq_ci (km_answerAt rfl hfG hMG w hq hi) hfG ⟨nI_in (N := 256) hi (by omega), ?_⟩
      rw [nI_clamp (by omega), ka_I_Fn _ _ (by decide), f4' i hi]
      have := ih (kh_u G i (kAn (kSV (qKy A.2.2.1) (lT A.1 (lE A.1 n)) (qSh A.2.2.1 q ((qNd A.2.2.1 q).length - 1)) i))) (fun r hr => by
        by_cases z : r = i
        · rw [z, kh_uS]
        · rw [kh_uN _ _ z]; exact hG r (by omega))
      rw [← ka_sI_F] at this
      exact this
end UL
