/-! ===== without, needed, wanted ===== -/
section WI
variable {A : kA}
/-- the reference asks for a question, a table, rows: the ends that refuse -/
theorem kl_endW {h : ka_H} (hC : kcl A.1 h) (w : kWA A) {n : Nat} (hn : n < lC A.1) : kl_end h (lNn A.1) (lC A.1) (nI n) = nI (lE A.1 n) ∧ lE A.1 n ≤ lZ A.1 := ⟨kl_endN hC w.1 (by have := w.1.2.1; omega), lE_Z w.1 hn⟩
theorem kPq.s95 {h : ka_H} {k : Nat} {v : Int32} : kPq h (ka_sI h 95 k v) := ⟨⟨rfl, rfl, fun _ => rfl, fun _ => rfl, fun _ => rfl, fun a ha => kI_o _ _ _ (by omega)⟩, fun k _ => by rw [kI_o _ _ _ (by decide)], fun a a1 a2 a3 a4 a5 a6 => kI_o _ _ _ a3⟩
theorem kPq.s40 {h : ka_H} {v : Int32} : kPq h (ka_sI h 72 40 v) := ⟨⟨rfl, rfl, fun _ => rfl, fun _ => rfl, fun _ => rfl, fun a ha => kI_o _ _ _ (by omega)⟩, fun k hk => ka_IJ _ _ _ _ hk, fun a a1 a2 a3 a4 a5 a6 => kI_o _ _ _ (by omega)⟩
theorem ko_without (w : kWA A) (v ed a b t x y : Int32) : kOx kmp213 200 112 223 [.int v, .int ed, .int a, .int b, .int t, .int x, .int y] A := by
  have hc := w.1.2.1
  have w6 := w.2.2.1.1
  refine ko_gen (v := v) (P1 := fun _ => kp_tab t) (P2 := kp_row a b ∧ kp_row x y) (c2 := 3) (val := fun q => kValT A (qSh A.2.2.1 q ((qNd A.2.2.1 q).length - 1)) ed (fun T => kAT A q (tU T t.toNatClampNeg (16 * x.toNatClampNeg + y.toNatClampNeg) 0) (16 * a.toNatClampNeg + b.toNatClampNeg)) (Int32.ofInt (-1))) w (Or.inr rfl) (Or.inl ⟨rfl, rfl⟩) (fun _ _ => Or.inr (Or.inl ⟨rfl, rfl⟩)) (fun _ => Or.inr (Or.inr ⟨rfl, rfl⟩)) (fun g h R hf hb hC e0 e1 e2 e3 => ?_) (kGm_of (Lc := [.ref 72, .int v, .int ed, .int a, .int b, .int t, .int x, .int y]) (fun g h R hf k => kq_in hf rfl rfl rfl (kq_seg (fun p => Nat.beq p 5) 10 k)) (fun g h R hf hM h0 e0 e1 e2 e3 => ?_))
  · refine kd_in (d := 199) hf rfl rfl rfl (kd_seg kp_no 40 ⟨kK hf rfl rfl, ?_⟩)
    refine kx_q hf hb hC w (fun z => ⟨kf_new hf (by omega), e0 z⟩) (fun sb qb st q q4 ev hq hlf => ⟨hf, ?_⟩)
    refine kc_reqTable hf (by omega) (fun z => ⟨kf_new hf (by omega), e1 q ⟨ev, hq, hlf⟩ z⟩) (fun z1 => ⟨hf, ?_⟩)
    refine kc_cellOf hf (by omega) (fun z => ⟨kf_new hf (by omega), e2 q ⟨ev, hq, hlf⟩ z1 (fun y => z y.1)⟩) (fun z2 => ⟨hf, ?_⟩)
    refine kc_cellOf hf (by omega) (fun z => ⟨kf_new hf (by omega), e2 q ⟨ev, hq, hlf⟩ z1 (fun y => z y.2)⟩) (fun z3 => ⟨hf, ⟨kK hf rfl rfl, ?_⟩⟩)
    obtain ⟨h1, h12⟩ := (w.2.2.1.2.2.2.2 q hq).1
    obtain ⟨t', ht, rfl⟩ := kp_tabN z1
    obtain ⟨a', b', ha, hb', rfl, rfl, hab⟩ := kp_rowN z2
    obtain ⟨x', y', hx, hy, rfl, rfl, hxy⟩ := kp_rowN z3
    rw [hab, hxy]
    refine kx_toldW hf hC.1 w q4 hq (fun n en hn td => ⟨hf, ⟨fun _ => ⟨kK hf rfl rfl, ?_⟩, fun y => absurd y (by decide)⟩⟩) (fun td => ⟨hf, ⟨fun y => absurd rfl y, fun _ => ⟨trivial, ?_⟩⟩⟩)
    · subst en
      obtain ⟨l1, l2⟩ := kl_endW hC.1 w hn
      refine kc_beginTrial hf hC.1 w.1 q4 w.2.2.1 hq l1 l2 (fun h' st' f1 f2 f3 f4 f5 => ⟨f1, ⟨kK f1 rfl rfl, ?_⟩⟩)
      have hC' : kcA A h' := ⟨f2.cl hC.1, f2.ct hC.2.1, f2.cr hC.2.2.1, sb, qb, st', f3⟩
      refine kc_tryCount f1 f3 w.2.2.1 hq ht (c := 16 * x' + y') (by omega) f5 (fun h2 g1 g2 g3 => ⟨g1, ?_⟩)
      refine kq_ci (kc_triedAnswer g1 w (g2.cq f3) hq (r := 16 * a' + b') (by omega) g3) g1 ⟨trivial, ?_⟩
      have e : R (kp_ri (kValT A (qSh A.2.2.1 q ((qNd A.2.2.1 q).length - 1)) (nI n) (fun T => kAT A q (tU T (nI t').toNatClampNeg (16 * (nI x').toNatClampNeg + (nI y').toNatClampNeg) 0) (16 * (nI a').toNatClampNeg + (nI b').toNatClampNeg)) (Int32.ofInt (-1)))) h2 := e3 q ⟨ev, hq, hlf⟩ z1 ⟨z2, z3⟩ h2 g1 (g2.ca hC' f3) (f2.tr g2.bf).fc
      rw [nI_clamp (by omega), nI_clamp (by omega), nI_clamp (by omega), nI_clamp (by omega), nI_clamp (by omega), kValT_T td (by omega)] at e
      exact e
    · have e : R (kp_ri (kValT A (qSh A.2.2.1 q ((qNd A.2.2.1 q).length - 1)) ed (fun T => kAT A q (tU T (nI t').toNatClampNeg (16 * (nI x').toNatClampNeg + (nI y').toNatClampNeg) 0) (16 * (nI a').toNatClampNeg + (nI b').toNatClampNeg)) (Int32.ofInt (-1)))) h := e3 q ⟨ev, hq, hlf⟩ z1 ⟨z2, z3⟩ h hf hC kFc.rfl'
      rw [kValT_F td] at e
      exact e
  · have j55 : ∀ H, R (kp_ri 0) H → kq_ex g 199 223 R 55 [.ref 72, .int v, .int ed, .int a, .int b, .int t, .int x, .int y] [] H := fun H e => kq_seg kp_no 4 ⟨trivial, e⟩
    refine kq_seg (fun p => Nat.beq p 47 || Nat.beq p 55) 90 ?_
    refine kc_isQuestion hf h0 hM.2.2.1 w6 (fun q ev hq hlf => ⟨hf, ⟨fun z => absurd z (by decide), fun _ => ?_⟩⟩) (fun z => ⟨kf_m hf, ⟨fun _ => j55 _ (e0 z), fun y => absurd rfl y⟩⟩)
    obtain ⟨h1, h12⟩ := (w.2.2.1.2.2.2.2 q hq).1
    refine kq_ci (kc_isTable (code := 2) hf h0 (by decide)) (kf_mh hf) ?_
    by_cases z1 : kp_tab t
    · rw [kp_bT (show 0 ≤ t ∧ t ≤ 3 from z1), show kp_mh (0 ≤ t ∧ t ≤ 3) 2 h = h from if_pos z1]
      refine ⟨fun z => absurd z (by decide), fun _ => ?_⟩
      have bad : ¬ (kp_row a b ∧ kp_row x y) → kq_ex g 199 223 R 47 [.ref 72, .int v, .int ed, .int a, .int b, .int t, .int x, .int y] [.ref 72] h := fun z => by
        refine kq_seg kp_no 10 ?_
        exact kq_ci (kc_may0 (code := 3) hf h0 (by decide)) (kf_m hf) ⟨fun y => absurd rfl y, fun _ => ⟨trivial, e2 q ⟨ev, hq, hlf⟩ z1 z⟩⟩
      refine kq_ci (kc_isRow hf) hf ?_
      by_cases z2 : kp_row a b
      · rw [kp_bT z2]
        refine ⟨fun z => absurd z (by decide), fun _ => ?_⟩
        refine kq_ci (kc_isRow hf) hf ?_
        by_cases z3 : kp_row x y
        · rw [kp_bT z3]
          refine ⟨fun z => absurd z (by decide), fun _ => ?_⟩
          refine kq_ci (kc_may1 (code := 3) hf h0) hf ⟨fun _ => ?_, fun y => absurd y (by decide)⟩
          subst ev
          obtain ⟨t', ht, rfl⟩ := kp_tabN z1
          obtain ⟨a', b', ha, hb', rfl, rfl, hab⟩ := kp_rowN z2
          obtain ⟨x', y', hx, hy, rfl, rfl, hxy⟩ := kp_rowN z3
          refine kc_isAnswer hf hM.1 hM.2.2.1 w.2.2.1 hc hq (fun td => ⟨hf, ⟨fun _ => ?_, fun y => absurd y (by decide)⟩⟩) (fun td => ⟨hf, ⟨fun y => absurd rfl y, fun _ => ⟨trivial, ?_⟩⟩⟩)
          · obtain ⟨n, rfl, hn⟩ := td.lt w (w.2.2.1.sh hq (by omega))
            refine ⟨nI_in (N := 6) (by omega) (by omega), ?_⟩
            rw [nI_clamp (by omega), show ka_I h (kq_p h 72 11) q = _ from (hM.2.2.1.2.2.2.1 q hq).2.1]
            refine km_plain (nI_m1' h1) hf hM w hq (by omega) hn (fun h' f1 f2 f3 f4 f5 f6 => ⟨f1, ?_⟩)
            have ix : Int32.ofInt 256 * nI t' + Int32.ofInt 16 * nI x' + nI y' = nI (256 * t' + (16 * x' + y')) := by rw [Int32.add_assoc, nI_cJ, nI_256m, nI_add]
            refine ⟨⟨by rw [ix]; exact nI_in (N := 1024) (by omega) (by omega), Or.inr rfl⟩, ?_⟩
            rw [ix, nI_clamp (by omega), show kq_p h' 72 39 = 95 from rfl]
            have hfS : kf g (ka_sI h' 95 (256 * t' + (16 * x' + y')) (Int32.ofInt 1)) := kf_w f1 95 rfl rfl
            refine km_now (T := tU (lT A.1 (lE A.1 n)) t' (16 * x' + y') 0) (nI_cJ a' b') hfS (kPq.s95.ma f3) w hq hn (by omega) (Or.inl (by rw [kI_o _ _ _ (by decide)]; exact f6)) (fun t c h4 h5 => ?_) (fun h2 g1 g2 g3 g4 => ⟨g1, ⟨trivial, ?_⟩⟩)
            · rw [show ka_I (ka_sI h' 95 (256 * t' + (16 * x' + y')) (Int32.ofInt 1)) 72 40 = -1 by rw [kI_o _ _ _ (by decide)]; exact f6, if_neg (c := (-1 : Int32) = nI (256 * t + c)) (nI_m1_ne (by omega)), Int32.add_zero]
              by_cases z : t = t' ∧ c = 16 * x' + y'
              · rw [z.1, z.2, tU_S, ka_IS, if_neg (by decide)]
              · rw [tU_N _ _ z, ka_IJ _ _ _ _ (by omega), if_pos (f5 _ (by omega))]
            · have e : R (kp_ri (kValT A (qSh A.2.2.1 q ((qNd A.2.2.1 q).length - 1)) (nI n) (fun T => kAT A q (tU T (nI t').toNatClampNeg (16 * (nI x').toNatClampNeg + (nI y').toNatClampNeg) 0) (16 * (nI a').toNatClampNeg + (nI b').toNatClampNeg)) (Int32.ofInt (-1)))) h2 := e3 q ⟨rfl, hq, hlf⟩ z1 ⟨z2, z3⟩ h2 g1 ((f2.pq.tr kPq.s95).tr g2.pq)
              rw [nI_clamp (by omega), nI_clamp (by omega), nI_clamp (by omega), nI_clamp (by omega), nI_clamp (by omega), kValT_T td (by omega)] at e
              exact e
          · have e : R (kp_ri (kValT A (qSh A.2.2.1 q ((qNd A.2.2.1 q).length - 1)) ed (fun T => kAT A q (tU T (nI t').toNatClampNeg (16 * (nI x').toNatClampNeg + (nI y').toNatClampNeg) 0) (16 * (nI a').toNatClampNeg + (nI b').toNatClampNeg)) (Int32.ofInt (-1)))) h := e3 q ⟨rfl, hq, hlf⟩ z1 ⟨z2, z3⟩ h hf kPq.rfl'
            rw [kValT_F td] at e
            exact e
        · rw [kp_bF z3]
          exact ⟨fun _ => bad (fun y => z3 y.2), fun y => absurd rfl y⟩
      · rw [kp_bF z2]
        exact ⟨fun _ => bad (fun y => z2 y.1), fun y => absurd rfl y⟩
    · rw [kp_bF (show ¬ (0 ≤ t ∧ t ≤ 3) from z1), show kp_mh (0 ≤ t ∧ t ≤ 3) 2 h = ka_sI h 72 0 2 from if_neg z1]
      exact ⟨fun _ => j55 _ (e1 q ⟨ev, hq, hlf⟩ z1), fun y => absurd rfl y⟩
end WI
