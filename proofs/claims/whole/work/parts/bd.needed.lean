/-! ===== needed ===== -/
noncomputable def kNe (A : kA) (q : Nat) (T : Nat → Nat → Int32) (t r : Nat) : Nat → Int32 := kp_sum (fun c => kp_b (¬ T t c = 0 ∧ kAT A q (tU T t c 0) r = 0))
noncomputable def kNeV (A : kA) (q t r : Nat) (T : Nat → Nat → Int32) : Int32 := if kAT A q T r = 0 then -1 else kNe A q T t r 256
section NE
variable {A : kA} {q t r : Nat} {T : Nat → Nat → Int32}
theorem kNe_T {k : Nat} (h1 : ¬ T t k = 0) (h2 : kAT A q (tU T t k 0) r = 0) : kNe A q T t r (k + 1) = kNe A q T t r k + 1 := by
  show _ + kp_b _ = _
  rw [kp_bT ⟨h1, h2⟩]; rfl
theorem kNe_F {k : Nat} (h : ¬ (¬ T t k = 0 ∧ kAT A q (tU T t k 0) r = 0)) : kNe A q T t r (k + 1) = kNe A q T t r k + 0 := by
  show _ + kp_b _ = _
  rw [kp_bF h]; rfl
theorem ko_needed (w : kWA A) (v ed a b t : Int32) : kOx kmp213 200 113 224 [.int v, .int ed, .int a, .int b, .int t] A := by
  have hc := w.1.2.1
  have w6 := w.2.2.1.1
  refine ko_gen (v := v) (P1 := fun _ => kp_tab t) (P2 := kp_row a b) (c2 := 3) (val := fun q => kValT A (qSh A.2.2.1 q ((qNd A.2.2.1 q).length - 1)) ed (kNeV A q t.toNatClampNeg (16 * a.toNatClampNeg + b.toNatClampNeg)) (Int32.ofInt (-1))) w (Or.inr rfl) (Or.inl ⟨rfl, rfl⟩) (fun _ _ => Or.inr (Or.inl ⟨rfl, rfl⟩)) (fun _ => Or.inr (Or.inr ⟨rfl, rfl⟩)) (fun g h R hf hb hC e0 e1 e2 e3 => ?_) (kGm_of (Lc := [.ref 72, .int v, .int ed, .int a, .int b, .int t, .retAddr 0, .retAddr 0]) (fun g h R hf k => kq_in hf rfl rfl rfl (kq_seg (fun p => Nat.beq p 5) 10 k)) (fun g h R hf hM h0 e0 e1 e2 e3 => ?_))
  · refine kd_in (d := 199) hf rfl rfl rfl (kd_seg (fun p => Nat.beq p 42 || Nat.beq p 61) 60 ⟨kK hf rfl rfl, ?_⟩)
    refine kx_q hf hb hC w (fun z => ⟨kf_new hf (by omega), e0 z⟩) (fun sb qb st q q4 ev hq hlf => ⟨hf, ?_⟩)
    refine kc_reqTable hf (by omega) (fun z => ⟨kf_new hf (by omega), e1 q ⟨ev, hq, hlf⟩ z⟩) (fun z1 => ⟨hf, ?_⟩)
    refine kc_cellOf hf (by omega) (fun z => ⟨kf_new hf (by omega), e2 q ⟨ev, hq, hlf⟩ z1 z⟩) (fun z2 => ⟨hf, ⟨kK hf rfl rfl, ?_⟩⟩)
    obtain ⟨h1, h12⟩ := (w.2.2.1.2.2.2.2 q hq).1
    obtain ⟨t', ht, rfl⟩ := kp_tabN z1
    obtain ⟨a', b', ha, hb', rfl, rfl, hab⟩ := kp_rowN z2
    rw [hab]
    have eV : ∀ h' , kf g h' → kcA A h' → kFc h h' → R (kp_ri (kValT A (qSh A.2.2.1 q ((qNd A.2.2.1 q).length - 1)) ed (kNeV A q t' (16 * a' + b')) (Int32.ofInt (-1)))) h' := fun h' f1 f2 f3 => by
      have e : R (kp_ri (kValT A (qSh A.2.2.1 q ((qNd A.2.2.1 q).length - 1)) ed (kNeV A q (nI t').toNatClampNeg (16 * (nI a').toNatClampNeg + (nI b').toNatClampNeg)) (Int32.ofInt (-1)))) h' := e3 q ⟨ev, hq, hlf⟩ z1 z2 h' f1 f2 f3
      rw [nI_clamp (by omega), nI_clamp (by omega), nI_clamp (by omega)] at e
      exact e
    have hr : 16 * a' + b' < 256 := by omega
    generalize 16 * a' + b' = r at eV hr
    have j42 : ∀ H z8 z9 z10, R (kp_ri (-1)) H → kd_ex g 199 113 R 42 [.ref 1, .int v, .int ed, .int (nI a'), .int (nI b'), .int (nI t'), .ref (qb q), .int (nI r), z8, z9, z10] [] H := fun H z8 z9 z10 e => kd_seg kp_no 4 ⟨trivial, e⟩
    refine kx_toldW hf hC.1 w q4 hq (fun n en hn td => ⟨hf, ⟨fun y => absurd y (by decide), fun _ => ⟨kK hf rfl rfl, ?_⟩⟩⟩) (fun td => ⟨hf, ⟨fun _ => j42 _ _ _ _ ?_, fun y => absurd rfl y⟩⟩)
    · subst en
      have eV' : ∀ h' , kf g h' → kcA A h' → kFc h h' → R (kp_ri (kNeV A q t' r (lT A.1 (lE A.1 n)))) h' := fun h' f1 f2 f3 => by
        have e := eV h' f1 f2 f3
        rw [kValT_T td (by omega)] at e
        exact e
      refine kx_answerAsOf hf hC w q4 hq hn hr (fun h' st' f1 f2 f3 f4 => ⟨f1, ?_⟩)
      rw [show kAn (kSV (qKy A.2.2.1) (lT A.1 (lE A.1 n)) (qSh A.2.2.1 q ((qNd A.2.2.1 q).length - 1)) r) = kAT A q (lT A.1 (lE A.1 n)) r from rfl]
      obtain ⟨l1, l2⟩ := kl_endW f3.1 w hn
      refine ⟨fun y => ⟨kK f1 rfl rfl, ?_⟩, fun y => j42 _ _ _ _ ?_⟩
      · have y' : ¬ kAT A q (lT A.1 (lE A.1 n)) r = 0 := y
        refine kc_beginTrialOf f1 f3 w f4 hq ht l1 l2 (fun h2 st2 c W g1 g2 g3 g4 g5 g6 g7 g8 g9 => ⟨g1, ?_⟩)
        have eV2 : ∀ h' , kf g h' → kcA A h' → kFc h h' → R (kp_ri (kNe A q (lT A.1 (lE A.1 n)) t' r 256)) h' := fun h' f1 f2 f3 => by
          have e := eV' h' f1 f2 f3
          unfold kNeV at e
          rw [if_neg y'] at e
          exact e
        generalize lT A.1 (lE A.1 n) = T0 at eV2 y' g5 g9
        have main : ∀ m i h3, i + m = 256 → kf g h3 → kTf A.2.2.1 sb qb h2 h3 → kTI A.2.2.1 sb q T0 h3 → kd_ex g 199 113 R 61 [.ref 1, .int v, .int (nI n), .int (nI a'), .int (nI b'), .int (nI t'), .ref (qb q), .int (nI r), .ref c, .int (kNe A q T0 t' r i), .int (nI i)] [] h3 := by
          intro m
          induction m with
          | zero =>
            intro i h3 hi k1 k2 k3
            refine kd_seg (fun p => Nat.beq p 61) 20 ⟨fun _ => ⟨trivial, ?_⟩, fun y => absurd y (nI_nlt (b := 256) (by omega) (by omega))⟩
            rw [show i = 256 by omega]
            exact eV2 h3 k1 (k2.ca g3 g4) ((f2.tr g2).tr k2.bf).fc
          | succ m ih =>
            intro i h3 hi k1 k2 k3
            have krc : kr h3 c 256 := ⟨by rw [k2.2.2.1]; exact g7.1, by rw [k2.2.2.1]; exact g7.2⟩
            have Wi : ka_I h3 c i = W i := by rw [k2.cc g6]; exact g8 i (by omega)
            have q5 := k2.cq g4
            refine kd_seg (fun p => Nat.beq p 61 || Nat.beq p 105) 40 ⟨fun y => absurd (nI_lt (b := 256) (by omega) (by omega)) y, fun _ => ⟨kr_in krc (by omega) (by omega), ?_⟩⟩
            rw [nI_clamp (by omega), Wi]
            refine ⟨fun y => ?_, fun y => ⟨kK k1 rfl rfl, ?_⟩⟩
            · have := ih (i + 1) h3 (by omega) k1 k2 k3
              rw [kNe_F, Int32.add_zero, nI_succ] at this
              · exact this
              · rintro ⟨u1, u2⟩
                rcases g9 with ⟨u3, u4⟩ | ⟨u3, u4⟩
                · exact u1 ((u4 i (by omega)).symm.trans y)
                · refine y' ?_
                  rw [← kAT_use w hq hr (T := tU T0 t' i 0) (fun t c ut _ => tU_N _ _ (fun z => u3 (by rw [← z.1]; exact ut)))]
                  exact u2
            · obtain ⟨u3, u4⟩ := g9.resolve_right (fun u => y (u.2 i))
              have hTi : T0 t' i = W i := (u4 i (by omega)).symm
              have j105 : ∀ h4 x, kf g h4 → kTf A.2.2.1 sb qb h2 h4 → kTI A.2.2.1 sb q (tU T0 t' i 0) h4 → kNe A q T0 t' r (i + 1) = kNe A q T0 t' r i + x → kd_ex g 199 113 R 105 [.ref 1, .int v, .int (nI n), .int (nI a'), .int (nI b'), .int (nI t'), .ref (qb q), .int (nI r), .ref c, .int (kNe A q T0 t' r i), .int (nI i)] [.int x, .int (kNe A q T0 t' r i)] h4 := by
                intro h4 x n1 n2 n3 n4
                have krc4 : kr h4 c 256 := ⟨by rw [n2.2.2.1]; exact g7.1, by rw [n2.2.2.1]; exact g7.2⟩
                refine kd_seg (fun p => Nat.beq p 61) 30 ⟨kr_in krc4 (by omega) (by omega), ⟨kK n1 rfl rfl, ?_⟩⟩
                rw [nI_clamp (by omega), n2.cc g6, g8 i (by omega)]
                refine kc_tryCount n1 (n2.cq g4) w.2.2.1 hq ht (c := i) (by omega) n3 (fun h5 o1 o2 o3 => ⟨o1, ?_⟩)
                rw [tU_back hTi] at o3
                have := ih (i + 1) h5 (by omega) o1 (n2.tr o2) o3
                rw [n4, nI_succ] at this
                exact this
              refine kc_tryCount k1 q5 w.2.2.1 hq ht (c := i) (by omega) k3 (fun h4 n1 n2 n3 => ⟨n1, ?_⟩)
              refine kq_ci (kc_triedAnswer n1 w ((k2.tr n2).cq g4) hq hr n3) n1 ⟨fun u => ?_, fun u => ?_⟩
              · exact j105 h4 0 n1 (k2.tr n2) n3 (kNe_F (fun z => u z.2))
              · exact j105 h4 1 n1 (k2.tr n2) n3 (kNe_T (by rw [hTi]; exact y) u)
        exact main 256 0 h2 rfl g1 kTf.rfl' g5
      · have e := eV' h' f1 f3 f2.fc
        unfold kNeV at e
        rw [if_pos (show kAT A q (lT A.1 (lE A.1 n)) r = 0 from y)] at e
        exact e
    · have e := eV h hf hC kFc.rfl'
      rw [kValT_F td] at e
      exact e
  · have j37 : ∀ H, R (kp_ri 0) H → kq_ex g 199 224 R 37 [.ref 72, .int v, .int ed, .int a, .int b, .int t, .retAddr 0, .retAddr 0] [] H := fun H e => kq_seg kp_no 4 ⟨trivial, e⟩
    refine kq_seg (fun p => Nat.beq p 37 || Nat.beq p 87) 90 ?_
    refine kc_isQuestion hf h0 hM.2.2.1 w6 (fun q ev hq hlf => ⟨hf, ⟨fun z => absurd z (by decide), fun _ => ?_⟩⟩) (fun z => ⟨kf_m hf, ⟨fun _ => j37 _ (e0 z), fun y => absurd rfl y⟩⟩)
    obtain ⟨h1, h12⟩ := (w.2.2.1.2.2.2.2 q hq).1
    refine kq_ci (kc_isTable (code := 2) hf h0 (by decide)) (kf_mh hf) ?_
    by_cases z1 : kp_tab t
    · rw [kp_bT (show 0 ≤ t ∧ t ≤ 3 from z1), show kp_mh (0 ≤ t ∧ t ≤ 3) 2 h = h from if_pos z1]
      refine ⟨fun z => absurd z (by decide), fun _ => ?_⟩
      refine kq_ci (kc_isRow hf) hf ?_
      by_cases z2 : kp_row a b
      · rw [kp_bT z2]
        refine kq_ci (kc_may1 (code := 3) hf h0) hf ⟨fun _ => ?_, fun y => absurd y (by decide)⟩
        subst ev
        obtain ⟨t', ht, rfl⟩ := kp_tabN z1
        obtain ⟨a', b', ha, hb', rfl, rfl, hab⟩ := kp_rowN z2
        have eV : ∀ h', kf g h' → kPq h h' → R (kp_ri (kValT A (qSh A.2.2.1 q ((qNd A.2.2.1 q).length - 1)) ed (kNeV A q t' (16 * a' + b')) (Int32.ofInt (-1)))) h' := fun h' f1 f2 => by
          have e : R (kp_ri (kValT A (qSh A.2.2.1 q ((qNd A.2.2.1 q).length - 1)) ed (kNeV A q (nI t').toNatClampNeg (16 * (nI a').toNatClampNeg + (nI b').toNatClampNeg)) (Int32.ofInt (-1)))) h' := e3 q ⟨rfl, hq, hlf⟩ z1 z2 h' f1 f2
          rw [nI_clamp (by omega), nI_clamp (by omega), nI_clamp (by omega)] at e
          exact e
        refine kc_isAnswer hf hM.1 hM.2.2.1 w.2.2.1 hc hq (fun td => ⟨hf, ⟨fun _ => ?_, fun y => absurd y (by decide)⟩⟩) (fun td => ⟨hf, ⟨fun y => absurd rfl y, fun _ => ⟨trivial, ?_⟩⟩⟩)
        · obtain ⟨n, rfl, hn⟩ := td.lt w (w.2.2.1.sh hq (by omega))
          refine ⟨nI_in (N := 6) (by omega) (by omega), ?_⟩
          rw [nI_clamp (by omega), show ka_I h (kq_p h 72 11) q = _ from (hM.2.2.1.2.2.2.1 q hq).2.1]
          refine km_plain (nI_m1' h1) hf hM w hq (by omega) hn (fun h' f1 f2 f3 f4 f5 f6 => ⟨f1, ?_⟩)
          refine kq_ci (km_answerAt (nI_cJ a' b') f1 f3 w hq (by omega)) f1 ?_
          rw [f4 _ _ (Nat.le_refl _) (by omega), show kAn (kSV (qKy A.2.2.1) (lT A.1 (lE A.1 n)) (qSh A.2.2.1 q ((qNd A.2.2.1 q).length - 1)) (16 * a' + b')) = kAT A q (lT A.1 (lE A.1 n)) (16 * a' + b') from rfl]
          refine ⟨fun y => ?_, fun y => ⟨trivial, ?_⟩⟩
          · have eV2 : ∀ h', kf g h' → kPq h h' → R (kp_ri (kNe A q (lT A.1 (lE A.1 n)) t' (16 * a' + b') 256)) h' := fun h' f1 f2 => by
              have e := eV h' f1 f2
              rw [kValT_T td (by omega)] at e
              unfold kNeV at e
              rw [if_neg (show ¬ kAT A q (lT A.1 (lE A.1 n)) (16 * a' + b') = 0 from y)] at e
              exact e
            have main : ∀ m i h3, i + m = 256 → kf g h3 → kPq h h3 → (∀ r, r < 1024 → ka_I h3 95 r = 0) → ka_I h3 72 40 = -1 → kq_ex g 199 224 R 87 [.ref 72, .int (nI q), .int (nI n), .int (nI a'), .int (nI b'), .int (nI t'), .int (kNe A q (lT A.1 (lE A.1 n)) t' (16 * a' + b') i), .int (nI i)] [] h3 := by
              intro m
              induction m with
              | zero =>
                intro i h3 hi k1 k2 k3 k4
                refine kq_seg (fun p => Nat.beq p 87) 20 ⟨fun _ => ⟨trivial, ?_⟩, fun y => absurd y (nI_nlt (b := 256) (by omega) (by omega))⟩
                rw [show i = 256 by omega]
                exact eV2 h3 k1 k2
              | succ m ih =>
                intro i h3 hi k1 k2 k3 k4
                have hM3 := k2.ma hM
                have ix : Int32.ofInt 256 * nI t' + nI i = nI (256 * t' + i) := by rw [nI_256m, nI_add]
                refine kq_seg (fun p => Nat.beq p 87 || Nat.beq p 148) 60 ⟨fun y => absurd (nI_lt (b := 256) (by omega) (by omega)) y, fun _ => ?_⟩
                refine kp_opq (kc_countOf (t := nI t') (row := nI i) (e := nI n) k1 hM3.1.1 w.1.1) (fun cv hcv => ⟨k1, ?_⟩)
                rw [hM3.1.ct w.1 (by omega)] at hcv
                rw [hcv]
                refine ⟨fun u => ⟨⟨by rw [ix]; exact nI_in (N := 1024) (by omega) (by omega), Or.inr rfl⟩, ?_⟩, fun u => ?_⟩
                · have j148 : ∀ h4 x, kf g h4 → kPq h h4 → (∀ r, r < 1024 → r ≠ 256 * t' + i → ka_I h4 95 r = 0) → ka_I h4 72 40 = -1 → kNe A q (lT A.1 (lE A.1 n)) t' (16 * a' + b') (i + 1) = kNe A q (lT A.1 (lE A.1 n)) t' (16 * a' + b') i + x → kq_ex g 199 224 R 148 [.ref 72, .int (nI q), .int (nI n), .int (nI a'), .int (nI b'), .int (nI t'), .int (kNe A q (lT A.1 (lE A.1 n)) t' (16 * a' + b') i), .int (nI i)] [.int x, .int (kNe A q (lT A.1 (lE A.1 n)) t' (16 * a' + b') i)] h4 := by
                    intro h4 x n1 n2 n3 n4 n5
                    refine kq_seg (fun p => Nat.beq p 87) 30 ⟨⟨by rw [ix]; exact nI_in (N := 1024) (by omega) (by omega), Or.inl rfl⟩, ?_⟩
                    rw [ix, nI_clamp (by omega)]
                    have := ih (i + 1) (ka_sI h4 95 (256 * t' + i) (Int32.ofInt 0)) (by omega) (kf_w n1 95 rfl rfl) (n2.tr kPq.s95) (fun r hr => by
                      by_cases z : r = 256 * t' + i
                      · rw [z]; exact ka_IS _ _ _ _
                      · rw [ka_IJ _ _ _ _ z]; exact n3 r hr z) (by rw [kI_o _ _ _ (by decide)]; exact n4)
                    rw [n5, nI_succ] at this
                    exact this
                  rw [ix, nI_clamp (by omega), show kq_p h3 72 39 = 95 from rfl]
                  have hfS : kf g (ka_sI h3 95 (256 * t' + i) (Int32.ofInt 1)) := kf_w k1 95 rfl rfl
                  refine km_now (T := tU (lT A.1 (lE A.1 n)) t' i 0) (nI_cJ a' b') hfS (kPq.s95.ma hM3) w hq hn (by omega) (Or.inl (by rw [kI_o _ _ _ (by decide)]; exact k4)) (fun t c h4 h5 => ?_) (fun h4 g1 g2 g3 g4 => ⟨g1, ?_⟩)
                  · rw [show ka_I (ka_sI h3 95 (256 * t' + i) (Int32.ofInt 1)) 72 40 = -1 by rw [kI_o _ _ _ (by decide)]; exact k4, if_neg (c := (-1 : Int32) = nI (256 * t + c)) (nI_m1_ne (by omega)), Int32.add_zero]
                    by_cases z : t = t' ∧ c = i
                    · rw [z.1, z.2, tU_S, ka_IS, if_neg (by decide)]
                    · rw [tU_N _ _ z, ka_IJ _ _ _ _ (by omega), if_pos (k3 _ (by omega))]
                  · have p2 : kPq h h4 := (k2.tr kPq.s95).tr g2.pq
                    have p3 : ∀ r, r < 1024 → r ≠ 256 * t' + i → ka_I h4 95 r = 0 := fun r hr z => by rw [g3, ka_IJ _ _ _ _ z]; exact k3 r hr
                    have p4 : ka_I h4 72 40 = -1 := by rw [g4, kI_o _ _ _ (by decide)]; exact k4
                    refine ⟨fun z => ?_, fun z => ?_⟩
                    · exact j148 h4 0 g1 p2 p3 p4 (kNe_F (fun y => z y.2))
                    · exact j148 h4 1 g1 p2 p3 p4 (kNe_T u z)
                · have := ih (i + 1) h3 (by omega) k1 k2 k3 k4
                  rw [kNe_F (fun y => y.1 u), Int32.add_zero, nI_succ] at this
                  exact this
            exact main 256 0 h' rfl f1 f2.pq f5 f6
          · have e := eV h' f1 f2.pq
            rw [kValT_T td (by omega)] at e
            unfold kNeV at e
            rw [if_pos (show kAT A q (lT A.1 (lE A.1 n)) (16 * a' + b') = 0 from y)] at e
            exact e
        · have e := eV h hf kPq.rfl'
          rw [kValT_F td] at e
          exact e
      · rw [kp_bF z2]
        exact kq_ci (kc_may0 (code := 3) hf h0 (by decide)) (kf_m hf) ⟨fun y => absurd rfl y, fun _ => j37 _ (e2 q ⟨ev, hq, hlf⟩ z1 z2)⟩
    · rw [kp_bF (show ¬ (0 ≤ t ∧ t ≤ 3) from z1), show kp_mh (0 ≤ t ∧ t ≤ 3) 2 h = ka_sI h 72 0 2 from if_neg z1]
      exact ⟨fun _ => j37 _ (e1 q ⟨ev, hq, hlf⟩ z1), fun y => absurd rfl y⟩
end NE
