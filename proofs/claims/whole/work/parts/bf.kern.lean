/-! ===== kern ===== -/
/-- the tables after the first rows have been tried -/
noncomputable def kKt (A : kA) (q r : Nat) (T0 : Nat → Nat → Int32) : Nat → Nat → Nat → Int32
  | 0 => T0
  | i + 1 => if 0 < T0 (i / 256) (i % 256) ∧ 0 < kAT A q (tU (kKt A q r T0 i) (i / 256) (i % 256) 0) r then tU (kKt A q r T0 i) (i / 256) (i % 256) 0 else kKt A q r T0 i
noncomputable def kKp (A : kA) (q r : Nat) (T0 : Nat → Nat → Int32) (i : Nat) : Bool := decide (0 < T0 (i / 256) (i % 256) ∧ ¬ 0 < kAT A q (tU (kKt A q r T0 i) (i / 256) (i % 256) 0) r)
noncomputable def kKnV (A : kA) (q r : Nat) (kk : Int32) (T : Nat → Nat → Int32) : Int32 := if kAT A q T r = 0 then -1 else kv_nth (kKp A q r T) kk 1024 0 0
section KE
variable {A : kA}
theorem kKt_T {q r i : Nat} {T0 : Nat → Nat → Int32} (h : 0 < T0 (i / 256) (i % 256) ∧ 0 < kAT A q (tU (kKt A q r T0 i) (i / 256) (i % 256) 0) r) : kKt A q r T0 (i + 1) = tU (kKt A q r T0 i) (i / 256) (i % 256) 0 := if_pos h
theorem kKt_F {q r i : Nat} {T0 : Nat → Nat → Int32} (h : ¬ (0 < T0 (i / 256) (i % 256) ∧ 0 < kAT A q (tU (kKt A q r T0 i) (i / 256) (i % 256) 0) r)) : kKt A q r T0 (i + 1) = kKt A q r T0 i := if_neg h
theorem kKt_ge {q r t c : Nat} {T0 : Nat → Nat → Int32} (hc : c < 256) : ∀ i, i ≤ 256 * t + c → kKt A q r T0 i t c = T0 t c
  | 0, _ => rfl
  | i + 1, h => by
    by_cases z : 0 < T0 (i / 256) (i % 256) ∧ 0 < kAT A q (tU (kKt A q r T0 i) (i / 256) (i % 256) 0) r
    · rw [kKt_T z, tU_N _ _ (fun y => by omega)]
      exact kKt_ge hc i (by omega)
    · rw [kKt_F z]
      exact kKt_ge hc i (by omega)
theorem kKt_pos {q r : Nat} {T0 : Nat → Nat → Int32} (h : 0 < kAT A q T0 r) : ∀ i, 0 < kAT A q (kKt A q r T0 i) r
  | 0 => h
  | i + 1 => by
    by_cases z : 0 < T0 (i / 256) (i % 256) ∧ 0 < kAT A q (tU (kKt A q r T0 i) (i / 256) (i % 256) 0) r
    · rw [kKt_T z]; exact z.2
    · rw [kKt_F z]; exact kKt_pos h i
theorem kc_stays {g : Nat × (Nat → Int32)} {d : Nat} {h : ka_H} {R : ka_R → ka_H → Prop} {sb qb st : Nat → Nat} {q r i m : Nat} {T : Nat → Nat → Int32} (hf : kf g h) (w : kWA A) (q4 : kcq A.1 A.2.2.1 sb qb st h) (hq : q < qQ A.2.2.1) (hr : r < 256) (hi : i < 1024) (hT : kTI A.2.2.1 sb q T h) (hAt : ∀ j, j < (qNd A.2.2.1 q).length → kAt1 A.1 A.2.2.1 sb m h (qSh A.2.2.1 q j)) (hTc : T (i / 256) (i % 256) = lT A.1 m (i / 256) (i % 256)) (hpos : 0 < kAT A q T r)
    (e1 : ∀ h', kf g h' → kTf A.2.2.1 sb qb h h' → 0 < lT A.1 m (i / 256) (i % 256) → ¬ 0 < kAT A q (tU T (i / 256) (i % 256) 0) r → kTI A.2.2.1 sb q T h' → R (kp_ri 1) h')
    (e0 : ∀ h', kf g h' → kTf A.2.2.1 sb qb h h' → ¬ (0 < lT A.1 m (i / 256) (i % 256) ∧ ¬ 0 < kAT A q (tU T (i / 256) (i % 256) 0) r) → kTI A.2.2.1 sb q (if 0 < lT A.1 m (i / 256) (i % 256) ∧ 0 < kAT A q (tU T (i / 256) (i % 256) 0) r then tU T (i / 256) (i % 256) 0 else T) h' → R (kp_ri 0) h') : kp_T (d + 6) 144 [.ref 1, .ref (qb q), .int (nI i), .int (nI r)] h R := by
  have hQ := (q4.2.2.2.2.2.2.1 q hq).1
  have hKb : (ka_K h (qb q)).1 = 4 := by rw [hQ.2.2.1]
  have ht : i / 256 < 4 := by omega
  have hc : i % 256 < 256 := by omega
  have no : ∀ z, ¬ 0 < lT A.1 m (i / 256) (i % 256) ∨ ¬ kUse A.2.2.1 q (i / 256) → kd_ex g (d + 5) 144 R 38 [.ref 1, .ref (qb q), .int (nI i), .int (nI r), .int (nI (i / 256)), .int (nI (i % 256)), z] [] h := fun z hz => by
    refine kd_seg kp_no 4 ⟨Or.inl rfl, ?_⟩
    rcases hz with hz | hz
    · refine e0 h hf kTf.rfl' (fun y => hz y.1) ?_
      rw [if_neg (fun y => hz y.1)]
      exact hT
    · have same : kAT A q (tU T (i / 256) (i % 256) 0) r = kAT A q T r := kAT_use w hq hr (fun t c ut _ => tU_N _ _ (fun y => hz (by rw [← y.1]; exact ut)))
      refine e0 h hf kTf.rfl' (fun y => y.2 (by rw [same]; exact hpos)) ?_
      split
      · exact hT.use w.2.2.1 hq (fun t c ut _ => (tU_N _ _ (fun y => hz (by rw [← y.1]; exact ut))).symm)
      · exact hT
  refine kd_in hf rfl rfl rfl (kd_seg (fun p => Nat.beq p 38) 60 ⟨by decide, ⟨by decide, ⟨hKb, ?_⟩⟩⟩)
  have hrem : nI i - nI (i / 256) * Int32.ofInt 256 = nI (i % 256) := by
    have := nI_r256 (k := i) (by omega)
    rw [nI_d256 (by omega)] at this
    exact this
  rw [nI_d256 (by omega), hrem]
  refine kc_ofTable (op := fun k => (qKy A.2.2.1 (qSh A.2.2.1 q k)).1) (tb := fun k => if (qKy A.2.2.1 (qSh A.2.2.1 q k)).1 = 0 then nI (qKy A.2.2.1 (qSh A.2.2.1 q k)).2.1 else -1) hf hQ (fun k hk => ?_) (fun hno => ⟨hf, ?_⟩) (fun k hk o1 o2 => ⟨hf, ?_⟩)
  · obtain ⟨hp, hs, cs, h13⟩ := q4.nd w.2.2.1 hq hk
    rw [hp]
    exact ⟨cs.ne, cs.K, cs.1.2.2.1.1, h13, cs.1.2.2.2.1.2.1⟩
  · have nu : ¬ kUse A.2.2.1 q (i / 256) := fun ⟨k, hk, k1, k2⟩ => by
      obtain ⟨y1, y2, -⟩ := kNx_ky w.2.2.1 hq hk
      refine hno k hk ⟨by rw [y1]; exact k1, ?_⟩
      show (if _ then _ else _) = _
      rw [if_pos (by rw [y1]; exact k1), y2 k1, k2]
    exact ⟨fun _ => no (.ref 0) (Or.inr nu), fun y => absurd rfl y⟩
  · obtain ⟨hp, hs, cs, h13⟩ := q4.nd w.2.2.1 hq hk
    have k4 := ((w.2.2.1.2.2.2.1 _ hs).1).1.2.1.1
    have o2' : (if (qKy A.2.2.1 (qSh A.2.2.1 q k)).1 = 0 then nI (qKy A.2.2.1 (qSh A.2.2.1 q k)).2.1 else -1) = nI (i / 256) := o2
    rw [if_pos o1] at o2'
    have e2 := (nI_eq (by omega) (by omega)).mp o2'
    rw [hp]
    have q3 := cs.1.2.1.2.2.1
    have kr2 : kr h (sb (qSh A.2.2.1 q k) + 2) 256 := ⟨by rw [q3], by rw [q3]⟩
    have hcnt : ka_I h (sb (qSh A.2.2.1 q k) + 2) (i % 256) = lT A.1 m (i / 256) (i % 256) := by rw [hAt k hk _ hc, kSV_0 o1, e2]
    have hp8 : ∀ h', kf g h' → kTf A.2.2.1 sb qb h h' → kq_p h' (sb (qSh A.2.2.1 q k)) 8 = sb (qSh A.2.2.1 q k) + 2 := fun h' f1 f2 => (kq_p_s f1 _ _).trans (by rw [f2.2.2.2.1]; exact cs.1.2.2.1.2.2.2.2.2.1)
    refine ⟨fun y => absurd y cs.ne, fun _ => ⟨cs.K, ?_⟩⟩
    rw [hp8 h hf kTf.rfl']
    refine ⟨kr_in kr2 hc (by omega), ?_⟩
    rw [nI_clamp (by omega), hcnt]
    refine ⟨fun y => ⟨kK hf rfl rfl, ?_⟩, fun y => ?_⟩
    · have y' : 0 < lT A.1 m (i / 256) (i % 256) := y
      refine kc_tryCount hf q4 w.2.2.1 hq ht hc hT (fun h' f1 f2 f3 => ⟨f1, ?_⟩)
      refine kq_ci (kc_triedAnswer f1 w (f2.cq q4) hq hr f3) f1 ⟨fun u => ⟨by rw [f2.2.2.1]; exact cs.K, ?_⟩, fun u => ⟨Or.inl rfl, ?_⟩⟩
      · rw [hp8 h' f1 f2]
        refine ⟨kr_in ⟨by rw [f2.2.2.1]; exact kr2.1, by rw [f2.2.2.1]; exact kr2.2⟩ hc (by omega), ⟨kK f1 rfl rfl, ?_⟩⟩
        rw [nI_clamp (by omega), (f2.2.2.2.2.2.1 _ hs).2.2.1, hcnt]
        refine kc_tryCount f1 (f2.cq q4) w.2.2.1 hq ht hc f3 (fun h2 g1 g2 g3 => ⟨g1, ⟨Or.inr rfl, ?_⟩⟩)
        rw [tU_back hTc] at g3
        exact e1 h2 g1 (f2.tr g2) y' u g3
      · refine e0 h' f1 f2 (fun z => z.2 u) ?_
        rw [if_pos ⟨y', u⟩]
        exact f3
    · exact no _ (Or.inl y)
theorem ko_kern (w : kWA A) (v ed a b kk : Int32) : kOx kmp20 200 114 225 [.int v, .int ed, .int a, .int b, .int kk] A := by
  have hc := w.1.2.1
  have w6 := w.2.2.1.1
  refine ko_gen (v := v) (P1 := fun _ => True) (P2 := kp_row a b) (c2 := 2) (val := fun q => kValT A (qSh A.2.2.1 q ((qNd A.2.2.1 q).length - 1)) ed (kKnV A q (16 * a.toNatClampNeg + b.toNatClampNeg) kk) (Int32.ofInt (-1))) w (Or.inl rfl) (Or.inl ⟨rfl, rfl⟩) (fun _ z => absurd trivial z) (fun _ => Or.inr ⟨rfl, rfl⟩) (fun g h R hf hb hC e0 e1 e2 e3 => ?_) (kGm_of (Lc := [.ref 72, .int v, .int ed, .int a, .int b, .int kk, .retAddr 0, .retAddr 0]) (fun g h R hf k => kq_in hf rfl rfl rfl (kq_seg (fun p => Nat.beq p 5) 10 k)) (fun g h R hf hM h0 e0 e1 e2 e3 => ?_))
  · refine kd_in (d := 199) hf rfl rfl rfl (kd_seg (fun p => Nat.beq p 37 || Nat.beq p 52) 60 ⟨kK hf rfl rfl, ?_⟩)
    refine kx_q hf hb hC w (fun z => ⟨kf_new hf (by omega), e0 z⟩) (fun sb qb st q q4 ev hq hlf => ⟨hf, ?_⟩)
    refine kc_cellOf hf (by omega) (fun z => ⟨kf_new hf (by omega), e2 q ⟨ev, hq, hlf⟩ trivial z⟩) (fun z2 => ⟨hf, ⟨kK hf rfl rfl, ?_⟩⟩)
    obtain ⟨h1, h12⟩ := (w.2.2.1.2.2.2.2 q hq).1
    obtain ⟨a', b', ha, hb', rfl, rfl, hab⟩ := kp_rowN z2
    rw [hab]
    have eV : ∀ h' , kf g h' → kcA A h' → kFc h h' → R (kp_ri (kValT A (qSh A.2.2.1 q ((qNd A.2.2.1 q).length - 1)) ed (kKnV A q (16 * a' + b') kk) (Int32.ofInt (-1)))) h' := fun h' f1 f2 f3 => by
      have e : R (kp_ri (kValT A (qSh A.2.2.1 q ((qNd A.2.2.1 q).length - 1)) ed (kKnV A q (16 * (nI a').toNatClampNeg + (nI b').toNatClampNeg) kk) (Int32.ofInt (-1)))) h' := e3 q ⟨ev, hq, hlf⟩ trivial z2 h' f1 f2 f3
      rw [nI_clamp (by omega), nI_clamp (by omega)] at e
      exact e
    have hr : 16 * a' + b' < 256 := by omega
    generalize 16 * a' + b' = r at eV hr
    have j37 : ∀ H z8 z9, R (kp_ri (-1)) H → kd_ex g 199 114 R 37 [.ref 1, .int v, .int ed, .int (nI a'), .int (nI b'), .int kk, .ref (qb q), .int (nI r), z8, z9] [] H := fun H z8 z9 e => kd_seg kp_no 4 ⟨trivial, e⟩
    refine kx_toldW hf hC.1 w q4 hq (fun n en hn td => ⟨hf, ⟨fun y => absurd y (by decide), fun _ => ⟨kK hf rfl rfl, ?_⟩⟩⟩) (fun td => ⟨hf, ⟨fun _ => j37 _ _ _ ?_, fun y => absurd rfl y⟩⟩)
    · subst en
      have eV' : ∀ h' , kf g h' → kcA A h' → kFc h h' → R (kp_ri (kKnV A q r kk (lT A.1 (lE A.1 n)))) h' := fun h' f1 f2 f3 => by
        have e := eV h' f1 f2 f3
        rw [kValT_T td (by omega)] at e
        exact e
      refine kx_answerAsOf hf hC w q4 hq hn hr (fun h' st' f1 f2 f3 f4 => ⟨f1, ?_⟩)
      rw [show kAn (kSV (qKy A.2.2.1) (lT A.1 (lE A.1 n)) (qSh A.2.2.1 q ((qNd A.2.2.1 q).length - 1)) r) = kAT A q (lT A.1 (lE A.1 n)) r from rfl]
      obtain ⟨l1, l2⟩ := kl_endW f3.1 w hn
      refine ⟨fun y => ⟨kK f1 rfl rfl, ?_⟩, fun y => j37 _ _ _ ?_⟩
      · have y' : ¬ kAT A q (lT A.1 (lE A.1 n)) r = 0 := y
        have hp0 : 0 < kAT A q (lT A.1 (lE A.1 n)) r := Classical.byContradiction fun u => y' (by
          unfold kAT at u ⊢
          exact kAn_F (fun x => u (kAn_p.mpr x)))
        refine kc_beginTrial f1 f3.1 w.1 f4 w.2.2.1 hq l1 l2 (fun h2 st2 g1 g2 g4 g6 g5 => ⟨g1, ?_⟩)
        have g3 : kcA A h2 := ⟨g2.cl f3.1, g2.ct f3.2.1, g2.cr f3.2.2.1, sb, qb, st2, g4⟩
        have eV2 : ∀ h' , kf g h' → kcA A h' → kFc h h' → R (kp_ri (kv_nth (kKp A q r (lT A.1 (lE A.1 n))) kk 1024 0 0)) h' := fun h' f1 f2 f3 => by
          have e := eV' h' f1 f2 f3
          unfold kKnV at e
          rw [if_neg y'] at e
          exact e
        have main : ∀ m i bf h3, i + m = 1024 → kv_nth (kKp A q r (lT A.1 (lE A.1 n))) kk m bf i = kv_nth (kKp A q r (lT A.1 (lE A.1 n))) kk 1024 0 0 → kf g h3 → kTf A.2.2.1 sb qb h2 h3 → kTI A.2.2.1 sb q (kKt A q r (lT A.1 (lE A.1 n)) i) h3 → kd_ex g 199 114 R 52 [.ref 1, .int v, .int (nI n), .int (nI a'), .int (nI b'), .int kk, .ref (qb q), .int (nI r), .int bf, .int (nI i)] [] h3 := by
          intro m
          induction m with
          | zero =>
            intro i bf h3 hi hv k1 k2 k3
            have e := eV2 h3 k1 (k2.ca g3 g4) ((f2.tr g2).tr k2.bf).fc
            rw [← hv] at e
            exact kd_seg (fun p => Nat.beq p 52) 20 ⟨fun _ => ⟨trivial, e⟩, fun y => absurd y (nI_nlt (b := 1024) (by omega) (by omega))⟩
          | succ m ih =>
            intro i bf h3 hi hv k1 k2 k3
            refine kd_seg (fun p => Nat.beq p 52) 30 ⟨fun y => absurd (nI_lt (b := 1024) (by omega) (by omega)) y, fun _ => ⟨kK k1 rfl rfl, ?_⟩⟩
            refine kc_stays (m := lE A.1 n) k1 w (k2.cq g4) hq hr (by omega) k3 (fun j hj r' hr' => ?_) (kKt_ge (by omega) i (by omega)) (kKt_pos hp0 i) (fun h4 n1 n2 n3 n4 n5 => ⟨n1, ⟨fun u => absurd u (by decide), fun _ => ⟨fun z => ?_, fun z => ⟨trivial, ?_⟩⟩⟩⟩) (fun h4 n1 n2 n3 n4 => ⟨n1, ⟨fun _ => ?_, fun u => absurd rfl u⟩⟩)
            · rw [(k2.2.2.2.2.2.1 _ ((k2.cq g4).nd w.2.2.1 hq hj).2.1).2.2.1]
              exact g6 j hj r' hr'
            · have hp : kKp A q r (lT A.1 (lE A.1 n)) i = true := decide_eq_true ⟨n3, n4⟩
              have := ih (i + 1) (bf + 1) h4 (by omega) ((kv_nthN hp z).symm.trans hv) n1 (k2.tr n2) (by rw [kKt_F (fun x => n4 x.2)]; exact n5)
              rw [nI_succ i] at this
              exact this
            · have hp : kKp A q r (lT A.1 (lE A.1 n)) i = true := decide_eq_true ⟨n3, n4⟩
              have e := eV2 h4 n1 ((k2.tr n2).ca g3 g4) ((f2.tr g2).tr (k2.tr n2).bf).fc
              rw [← hv, kv_nthT hp z] at e
              exact e
            · have hp : ¬ kKp A q r (lT A.1 (lE A.1 n)) i = true := fun x => n3 (of_decide_eq_true x)
              have := ih (i + 1) bf h4 (by omega) ((kv_nthF hp).symm.trans hv) n1 (k2.tr n2) n4
              rw [nI_succ i] at this
              exact this
        exact main 1024 0 0 h2 rfl rfl g1 kTf.rfl' g5
      · have e := eV' h' f1 f3 f2.fc
        unfold kKnV at e
        rw [if_pos (show kAT A q (lT A.1 (lE A.1 n)) r = 0 from y)] at e
        exact e
    · have e := eV h hf hC kFc.rfl'
      rw [kValT_F td] at e
      exact e
  · refine kq_seg (fun p => Nat.beq p 77) 90 ?_
    refine kc_isQuestion hf h0 hM.2.2.1 w6 (fun q ev hq hlf => ⟨hf, ⟨fun z => absurd z (by decide), fun _ => ?_⟩⟩) (fun z => ⟨kf_m hf, ⟨fun _ => ⟨trivial, e0 z⟩, fun y => absurd rfl y⟩⟩)
    obtain ⟨h1, h12⟩ := (w.2.2.1.2.2.2.2 q hq).1
    refine kq_ci (kc_isRow hf) hf ?_
    by_cases z2 : kp_row a b
    · rw [kp_bT z2]
      refine kq_ci (kc_may1 (code := 2) hf h0) hf ⟨fun _ => ?_, fun y => absurd y (by decide)⟩
      subst ev
      obtain ⟨a', b', ha, hb', rfl, rfl, hab⟩ := kp_rowN z2
      have eV : ∀ h', kf g h' → kPq h h' → R (kp_ri (kValT A (qSh A.2.2.1 q ((qNd A.2.2.1 q).length - 1)) ed (kKnV A q (16 * a' + b') kk) (Int32.ofInt (-1)))) h' := fun h' f1 f2 => by
        have e : R (kp_ri (kValT A (qSh A.2.2.1 q ((qNd A.2.2.1 q).length - 1)) ed (kKnV A q (16 * (nI a').toNatClampNeg + (nI b').toNatClampNeg) kk) (Int32.ofInt (-1)))) h' := e3 q ⟨rfl, hq, hlf⟩ trivial z2 h' f1 f2
        rw [nI_clamp (by omega), nI_clamp (by omega)] at e
        exact e
      refine kc_isAnswer hf hM.1 hM.2.2.1 w.2.2.1 hc hq (fun td => ⟨hf, ⟨fun _ => ?_, fun y => absurd y (by decide)⟩⟩) (fun td => ⟨hf, ⟨fun y => absurd rfl y, fun _ => ⟨trivial, ?_⟩⟩⟩)
      · obtain ⟨n, rfl, hn⟩ := td.lt w (w.2.2.1.sh hq (by omega))
        refine ⟨nI_in (N := 6) (by omega) (by omega), ?_⟩
        rw [nI_clamp (by omega), show ka_I h (kq_p h 72 11) q = _ from (hM.2.2.1.2.2.2.1 q hq).2.1]
        refine km_plain (nI_m1' h1) hf hM w hq (by omega) hn (fun h' f1 f2 f3 f4 f5 f6 => ⟨f1, ?_⟩)
        refine kq_ci (km_answerAt (nI_cJ a' b') f1 f3 w hq (by omega)) f1 ?_
        rw [f4 _ _ (Nat.le_refl _) (by omega), show kAn (kSV (qKy A.2.2.1) (lT A.1 (lE A.1 n)) (qSh A.2.2.1 q ((qNd A.2.2.1 q).length - 1)) (16 * a' + b')) = kAT A q (lT A.1 (lE A.1 n)) (16 * a' + b') from rfl]
        refine ⟨fun y => ?_, fun y => ⟨trivial, ?_⟩⟩
        · have eV2 : ∀ h', kf g h' → kPq h h' → R (kp_ri (kv_nth (kKp A q (16 * a' + b') (lT A.1 (lE A.1 n))) kk 1024 0 0)) h' := fun h' f1 f2 => by
            have e := eV h' f1 f2
            rw [kValT_T td (by omega)] at e
            unfold kKnV at e
            rw [if_neg (show ¬ kAT A q (lT A.1 (lE A.1 n)) (16 * a' + b') = 0 from y)] at e
            exact e
          have main : ∀ m i bf h3, i + m = 1024 → kv_nth (kKp A q (16 * a' + b') (lT A.1 (lE A.1 n))) kk m bf i = kv_nth (kKp A q (16 * a' + b') (lT A.1 (lE A.1 n))) kk 1024 0 0 → kf g h3 → kPq h h3 → (∀ t c, t < 4 → c < 256 → kKt A q (16 * a' + b') (lT A.1 (lE A.1 n)) i t c = if ka_I h3 95 (256 * t + c) = 0 then lT A.1 (lE A.1 n) t c else 0) → ka_I h3 72 40 = -1 → kq_ex g 199 225 R 77 [.ref 72, .int (nI q), .int (nI n), .int (nI a'), .int (nI b'), .int kk, .int bf, .int (nI i)] [] h3 := by
            intro m
            induction m with
            | zero =>
              intro i bf h3 hi hv k1 k2 k3 k4
              have e := eV2 h3 k1 k2
              rw [← hv] at e
              exact kq_seg (fun p => Nat.beq p 77) 20 ⟨fun _ => ⟨trivial, e⟩, fun y => absurd y (nI_nlt (b := 1024) (by omega) (by omega))⟩
            | succ m ih =>
              intro i bf h3 hi hv k1 k2 k3 k4
              have hM3 := k2.ma hM
              have hdv : nI i / Int32.ofInt 256 = nI (i / 256) := nI_d256 (by omega)
              have hrm : nI i - nI i / Int32.ofInt 256 * Int32.ofInt 256 = nI (i % 256) := nI_r256 (by omega)
              refine kq_seg (fun p => Nat.beq p 77) 60 ⟨fun y => absurd (nI_lt (b := 1024) (by omega) (by omega)) y, fun _ => ⟨by decide, ⟨by decide, ?_⟩⟩⟩
              refine kp_opq (kc_countOf (t := nI i / Int32.ofInt 256) (row := nI i - nI i / Int32.ofInt 256 * Int32.ofInt 256) (e := nI n) k1 hM3.1.1 w.1.1) (fun cv hcv => ⟨k1, ?_⟩)
              rw [hdv] at hrm hcv
              rw [hrm, hM3.1.ct w.1 (by omega)] at hcv
              rw [hcv]
              refine ⟨fun u => ⟨⟨nI_in (N := 1024) (by omega) (by omega), Or.inr rfl⟩, ?_⟩, fun u => ?_⟩
              · rw [nI_clamp (by omega), show kq_p h3 72 39 = 95 from rfl]
                have u' : 0 < lT A.1 (lE A.1 n) (i / 256) (i % 256) := u
                have hfS : kf g (ka_sI h3 95 i (Int32.ofInt 1)) := kf_w k1 95 rfl rfl
                have fl : ∀ t c, t < 4 → c < 256 → tU (kKt A q (16 * a' + b') (lT A.1 (lE A.1 n)) i) (i / 256) (i % 256) 0 t c = if ka_I (ka_sI h3 95 i (Int32.ofInt 1)) 95 (256 * t + c) = 0 then lT A.1 (lE A.1 n) t c else 0 := fun t c h4 h5 => by
                  by_cases z : t = i / 256 ∧ c = i % 256
                  · rw [z.1, z.2, tU_S, show 256 * (i / 256) + i % 256 = i by omega, ka_IS, if_neg (by decide)]
                  · rw [tU_N _ _ z, ka_IJ _ _ _ _ (by omega)]
                    exact k3 t c h4 h5
                refine km_now (T := tU (kKt A q (16 * a' + b') (lT A.1 (lE A.1 n)) i) (i / 256) (i % 256) 0) (nI_cJ a' b') hfS (kPq.s95.ma hM3) w hq hn (by omega) (Or.inl (by rw [kI_o _ _ _ (by decide)]; exact k4)) (fun t c h4 h5 => ?_) (fun h4 g1 g2 g3 g4 => ⟨g1, ?_⟩)
                · rw [show ka_I (ka_sI h3 95 i (Int32.ofInt 1)) 72 40 = -1 by rw [kI_o _ _ _ (by decide)]; exact k4, if_neg (c := (-1 : Int32) = nI (256 * t + c)) (nI_m1_ne (by omega)), Int32.add_zero]
                  exact fl t c h4 h5
                · have p2 : kPq h h4 := (k2.tr kPq.s95).tr g2.pq
                  have p4 : ka_I h4 72 40 = -1 := by rw [g4, kI_o _ _ _ (by decide)]; exact k4
                  refine ⟨fun z => ⟨⟨nI_in (N := 1024) (by omega) (by omega), Or.inl rfl⟩, ?_⟩, fun z => ?_⟩
                  · have hp : kKp A q (16 * a' + b') (lT A.1 (lE A.1 n)) i = true := decide_eq_true ⟨u', z⟩
                    rw [nI_clamp (by omega)]
                    have hf5 : kf g (ka_sI h4 95 i (Int32.ofInt 0)) := kf_w g1 95 rfl rfl
                    refine ⟨fun zz => ?_, fun zz => ⟨trivial, ?_⟩⟩
                    · have := ih (i + 1) (bf + 1) (ka_sI h4 95 i (Int32.ofInt 0)) (by omega) ((kv_nthN hp zz).symm.trans hv) hf5 (p2.tr kPq.s95) (fun t c h4 h5 => by
                        rw [kKt_F (fun x => z x.2)]
                        by_cases y : t = i / 256 ∧ c = i % 256
                        · rw [y.1, y.2, show 256 * (i / 256) + i % 256 = i by omega, ka_IS, if_pos (show Int32.ofInt 0 = 0 from rfl)]
                          exact kKt_ge (by omega) i (by omega)
                        · rw [ka_IJ _ _ _ _ (by omega), g3, ka_IJ _ _ _ _ (by omega)]
                          exact k3 t c h4 h5) (by rw [kI_o _ _ _ (by decide)]; exact p4)
                      rw [nI_succ i] at this
                      exact this
                    · have e := eV2 (ka_sI h4 95 i (Int32.ofInt 0)) hf5 (p2.tr kPq.s95)
                      rw [← hv, kv_nthT hp zz] at e
                      exact e
                  · have hp : ¬ kKp A q (16 * a' + b') (lT A.1 (lE A.1 n)) i = true := fun x => (of_decide_eq_true x).2 z
                    have := ih (i + 1) bf h4 (by omega) ((kv_nthF hp).symm.trans hv) g1 p2 (fun t c h4 h5 => by
                      rw [kKt_T ⟨u', z⟩, g3]
                      exact fl t c h4 h5) p4
                    rw [nI_succ i] at this
                    exact this
              · have hp : ¬ kKp A q (16 * a' + b') (lT A.1 (lE A.1 n)) i = true := fun x => u (of_decide_eq_true x).1
                have := ih (i + 1) bf h3 (by omega) ((kv_nthF hp).symm.trans hv) k1 k2 (fun t c h4 h5 => by
                  rw [kKt_F (fun x => u x.1)]
                  exact k3 t c h4 h5) k4
                rw [nI_succ i] at this
                exact this
          exact main 1024 0 0 h' rfl rfl f1 f2.pq (fun t c h4 h5 => by rw [if_pos (f5 _ (by omega))]; rfl) f6
        · have e := eV h' f1 f2.pq
          rw [kValT_T td (by omega)] at e
          unfold kKnV at e
          rw [if_pos (show kAT A q (lT A.1 (lE A.1 n)) (16 * a' + b') = 0 from y)] at e
          exact e
      · have e := eV h hf kPq.rfl'
        rw [kValT_F td] at e
        exact e
    · rw [kp_bF z2]
      exact kq_ci (kc_may0 (code := 2) hf h0 (by decide)) (kf_m hf) ⟨fun y => absurd rfl y, fun _ => ⟨trivial, e2 q ⟨ev, hq, hlf⟩ trivial z2⟩⟩
end KE
