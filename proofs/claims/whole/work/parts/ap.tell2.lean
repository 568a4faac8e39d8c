/-! ===== answer, size, row, digest ===== -/
section T2
variable {A : kA}
/-- the class: what a question's answer has of a row -/
theorem kx_answerAsOf {g : Nat × (Nat → Int32)} {d : Nat} {h : ka_H} {R : ka_R → ka_H → Prop} {sb qb st : Nat → Nat} {q n r : Nat} (hf : kf g h) (hC : kcA A h) (w : kWA A) (q4 : kcq A.1 A.2.2.1 sb qb st h) (hq : q < qQ A.2.2.1) (hn : n < lC A.1) (hr : r < 256)
    (e : ∀ h' st', kf g h' → kBf h h' → kcA A h' → kcq A.1 A.2.2.1 sb qb st' h' → R (kp_ri (kAn (kSV (qKy A.2.2.1) (lT A.1 (lE A.1 n)) (qSh A.2.2.1 q ((qNd A.2.2.1 q).length - 1)) r))) h') : kp_T (d + 7) 136 [.ref 1, .ref (qb q), .int (nI n), .int (nI r)] h R := by
  obtain ⟨h1, h12⟩ := (w.2.2.1.2.2.2.2 q hq).1
  have hQ := (q4.2.2.2.2.2.2.1 q hq).1
  have hKb : (ka_K h (qb q)).1 = 4 := by rw [hQ.2.2.1]
  refine kd_in hf rfl rfl rfl (kd_seg kp_no 20 ⟨hKb, ?_⟩)
  refine kq_ci (kc_last hf hQ) hf ⟨kK hf rfl rfl, ?_⟩
  refine kx_cnt (nI_m1' h1) hf hC w q4 hq (k := (qNd A.2.2.1 q).length - 1) (by omega) hn (fun h' st' f1 f2 f3 f4 f5 f6 => ⟨f1, ⟨kr_in f5 hr (by omega), ?_⟩⟩)
  rw [nI_clamp (by omega), f6 r hr]
  exact kq_ci (kc_max f1) f1 ⟨trivial, e h' st' f1 f2 f3 f4⟩
theorem ko_answer (w : kWA A) (v ed a b : Int32) : kOx kmp20 200 103 212 [.int v, .int ed, .int a, .int b] A := by
  have hc := w.1.2.1
  have w6 := w.2.2.1.1
  refine ko_gen (v := v) (P1 := fun _ => True) (P2 := kp_row a b) (c2 := 2) (val := fun q => kVal A (qSh A.2.2.1 q ((qNd A.2.2.1 q).length - 1)) ed (fun V => kAn (V (16 * a.toNatClampNeg + b.toNatClampNeg))) (Int32.ofInt (-1))) w (Or.inl rfl) (Or.inl ⟨rfl, rfl⟩) (fun _ z => absurd trivial z) (fun _ => Or.inr ⟨rfl, rfl⟩) (fun g h R hf hb hC e0 e1 e2 e3 => ?_) (kGm_of (Lc := [.ref 72, .int v, .int ed, .int a, .int b]) (fun g h R hf k => kq_in hf rfl rfl rfl (kq_seg (fun p => Nat.beq p 5) 10 k)) (fun g h R hf hM h0 e0 e1 e2 e3 => ?_))
  · refine kd_in (d := 199) hf rfl rfl rfl (kd_seg kp_no 40 ⟨kK hf rfl rfl, ?_⟩)
    refine kx_q hf hb hC w (fun z => ⟨kf_new hf (by omega), e0 z⟩) (fun sb qb st q q4 ev hq hlf => ⟨hf, ?_⟩)
    refine kc_cellOf hf (by omega) (fun z => ⟨kf_new hf (by omega), e2 q ⟨ev, hq, hlf⟩ trivial z⟩) (fun z => ⟨hf, ?_⟩)
    obtain ⟨x, y, hx, hy, rfl, rfl, hxy⟩ := kp_rowN z
    rw [hxy]
    refine ⟨kK hf rfl rfl, ?_⟩
    refine kx_toldW hf hC.1 w q4 hq (fun n en hn t => ⟨hf, ⟨fun y => absurd y (by decide), fun _ => ⟨kK hf rfl rfl, ?_⟩⟩⟩) (fun t => ⟨hf, ⟨fun _ => ⟨trivial, ?_⟩, fun y => absurd rfl y⟩⟩)
    · subst en
      refine kx_answerAsOf hf hC w q4 hq hn (by omega) (fun h' st' f1 f2 f3 f4 => ⟨f1, ⟨trivial, ?_⟩⟩)
      have e : R (kp_ri (kVal A (qSh A.2.2.1 q ((qNd A.2.2.1 q).length - 1)) (nI n) (fun V => kAn (V (16 * (nI x).toNatClampNeg + (nI y).toNatClampNeg))) (Int32.ofInt (-1)))) h' := e3 q ⟨ev, hq, hlf⟩ trivial z h' f1 f3 f2.fc
      rw [nI_clamp (by omega), nI_clamp (by omega), kVal_T t (by omega)] at e
      exact e
    · have e : R (kp_ri (kVal A (qSh A.2.2.1 q ((qNd A.2.2.1 q).length - 1)) ed (fun V => kAn (V (16 * (nI x).toNatClampNeg + (nI y).toNatClampNeg))) (Int32.ofInt (-1)))) h := e3 q ⟨ev, hq, hlf⟩ trivial z h hf hC kFc.rfl'
      rw [kVal_F t] at e
      exact e
  · refine kq_seg kp_no 60 ?_
    refine kc_isQuestion hf h0 hM.2.2.1 w6 (fun q ev hq hlf => ⟨hf, ⟨fun z => absurd z (by decide), fun _ => ?_⟩⟩) (fun z => ⟨kf_m hf, ⟨fun _ => ⟨trivial, e0 z⟩, fun y => absurd rfl y⟩⟩)
    obtain ⟨h1, h12⟩ := (w.2.2.1.2.2.2.2 q hq).1
    refine kq_ci (kc_isRow hf) hf ?_
    by_cases z : kp_row a b
    · rw [kp_bT z]
      refine kq_ci (kc_may1 (code := 2) hf h0) hf ⟨fun _ => ?_, fun y => absurd y (by decide)⟩
      subst ev
      obtain ⟨x, y, hx, hy, rfl, rfl, hxy⟩ := kp_rowN z
      refine kc_isAnswer hf hM.1 hM.2.2.1 w.2.2.1 hc hq (fun t => ⟨hf, ⟨fun _ => ?_, fun y => absurd y (by decide)⟩⟩) (fun t => ⟨hf, ⟨fun y => absurd rfl y, fun _ => ⟨trivial, ?_⟩⟩⟩)
      · obtain ⟨n, rfl, hn⟩ := t.lt w (w.2.2.1.sh hq (by omega))
        refine ⟨nI_in (N := 6) (by omega) (by omega), ?_⟩
        rw [nI_clamp (by omega), show ka_I h (kq_p h 72 11) q = _ from (hM.2.2.1.2.2.2.1 q hq).2.1]
        refine km_plain (nI_m1' h1) hf hM w hq (by omega) hn (fun h' f1 f2 f3 f4 f5 f6 => ⟨f1, ?_⟩)
        refine kq_ci (km_answerAt (nI_cJ x y) f1 f3 w hq (by omega)) f1 ⟨trivial, ?_⟩
        rw [f4 _ _ (Nat.le_refl _) (by omega)]
        have e : R (kp_ri (kVal A (qSh A.2.2.1 q ((qNd A.2.2.1 q).length - 1)) (nI n) (fun V => kAn (V (16 * (nI x).toNatClampNeg + (nI y).toNatClampNeg))) (Int32.ofInt (-1)))) h' := e3 q ⟨rfl, hq, hlf⟩ trivial z h' f1 f2.pq
        rw [nI_clamp (by omega), nI_clamp (by omega), kVal_T t (by omega)] at e
        exact e
      · have e : R (kp_ri (kVal A (qSh A.2.2.1 q ((qNd A.2.2.1 q).length - 1)) ed (fun V => kAn (V (16 * (nI x).toNatClampNeg + (nI y).toNatClampNeg))) (Int32.ofInt (-1)))) h := e3 q ⟨rfl, hq, hlf⟩ trivial z h hf kPq.rfl'
        rw [kVal_F t] at e
        exact e
    · rw [kp_bF z]
      exact kq_ci (kc_may0 (code := 2) hf h0 (by decide)) (kf_m hf) ⟨fun y => absurd rfl y, fun _ => ⟨trivial, e2 q ⟨ev, hq, hlf⟩ trivial z⟩⟩
/-- how many rows are there -/
def kSz (V : Nat → Int32) : Nat → Int32 := kp_sum (fun r => kp_b (0 < V r))
theorem kSz_T {V : Nat → Int32} {k : Nat} (h : 0 < V k) : kSz V (k + 1) = kSz V k + 1 := by
  show _ + kp_b _ = _
  rw [kp_bT h]; rfl
theorem kSz_F {V : Nat → Int32} {k : Nat} (h : ¬ 0 < V k) : kSz V (k + 1) = kSz V k + 0 := by
  show _ + kp_b _ = _
  rw [kp_bF h]; rfl
theorem ko_size (w : kWA A) (v ed : Int32) : kOx (kmp1 2) 200 104 213 [.int v, .int ed] A := by
  have hc := w.1.2.1
  have w6 := w.2.2.1.1
  refine ko_gen (v := v) (P1 := fun _ => True) (P2 := True) (c2 := 2) (val := fun q => kVal A (qSh A.2.2.1 q ((qNd A.2.2.1 q).length - 1)) ed (fun V => kSz V 256) (Int32.ofInt (-1))) w (Or.inl rfl) ⟨rfl, rfl⟩ (fun _ z => absurd trivial z) (fun z => absurd trivial z) (fun g h R hf hb hC e0 e1 e2 e3 => ?_) (kGm_of (Lc := [.ref 72, .int v, .int ed, .retAddr 0, .retAddr 0]) (fun g h R hf k => kq_in hf rfl rfl rfl (kq_seg (fun p => Nat.beq p 5) 10 k)) (fun g h R hf hM h0 e0 e1 e2 e3 => ?_))
  · refine kd_in (d := 199) hf rfl rfl rfl (kd_seg (fun p => Nat.beq p 35) 40 ⟨kK hf rfl rfl, ?_⟩)
    refine kx_q hf hb hC w (fun z => ⟨kf_new hf (by omega), e0 z⟩) (fun sb qb st q q4 ev hq hlf => ⟨hf, ?_⟩)
    obtain ⟨h1, h12⟩ := (w.2.2.1.2.2.2.2 q hq).1
    have hQ := (q4.2.2.2.2.2.2.1 q hq).1
    have hKb : (ka_K h (qb q)).1 = 4 := by rw [hQ.2.2.1]
    refine ⟨kK hf rfl rfl, ?_⟩
    refine kx_toldW hf hC.1 w q4 hq (fun n en hn t => ⟨hf, ⟨fun _ => ⟨hKb, ?_⟩, fun y => absurd y (by decide)⟩⟩) (fun t => ⟨hf, ⟨fun y => absurd rfl y, fun _ => ⟨trivial, ?_⟩⟩⟩)
    · subst en
      refine kq_ci (kc_last hf hQ) hf ⟨kK hf rfl rfl, ?_⟩
      refine kx_cnt (nI_m1' h1) hf hC w q4 hq (k := (qNd A.2.2.1 q).length - 1) (by omega) hn (fun h' st' f1 f2 f3 f4 f5 f6 => ⟨f1, ?_⟩)
      have e : R (kp_ri (kVal A (qSh A.2.2.1 q ((qNd A.2.2.1 q).length - 1)) (nI n) (fun V => kSz V 256) (Int32.ofInt (-1)))) h' := e3 q ⟨ev, hq, hlf⟩ trivial trivial h' f1 f3 f2.fc
      rw [kVal_T t (by omega)] at e
      generalize kSV (qKy A.2.2.1) (lT A.1 (lE A.1 n)) (qSh A.2.2.1 q ((qNd A.2.2.1 q).length - 1)) = V at e f6
      generalize sb (qSh A.2.2.1 q ((qNd A.2.2.1 q).length - 1)) + 2 = c at f5 f6
      have hd := kq_for (P := fun k => kd_ex g 199 104 R 35 [.ref 1, .int v, .int (nI n), .ref (qb q), .ref c, .int (kSz V k), .int (nI k)] [] h') 256 ?_ (fun k hk ih => ?_)
      · exact hd
      · exact kd_seg (fun p => Nat.beq p 35) 20 ⟨fun _ => ⟨trivial, e⟩, fun y => absurd y (nI_nlt (b := 256) (by omega) (by omega))⟩
      · rw [nI_succ] at ih
        refine kd_seg (fun p => Nat.beq p 35) 30 ⟨fun y => absurd (nI_lt (b := 256) hk (by omega)) y, fun _ => ⟨kr_in f5 hk (by omega), ?_⟩⟩
        rw [nI_clamp (by omega), f6 k hk]
        refine ⟨fun y => ?_, fun y => ?_⟩
        · rw [kSz_F y] at ih; exact ih
        · rw [kSz_T y] at ih; exact ih
    · have e : R (kp_ri (kVal A (qSh A.2.2.1 q ((qNd A.2.2.1 q).length - 1)) ed (fun V => kSz V 256) (Int32.ofInt (-1)))) h := e3 q ⟨ev, hq, hlf⟩ trivial trivial h hf hC kFc.rfl'
      rw [kVal_F t] at e
      exact e
  · refine kq_seg (fun p => Nat.beq p 45) 60 ?_
    refine kc_isQuestion hf h0 hM.2.2.1 w6 (fun q ev hq hlf => ⟨hf, ⟨fun _ => ?_, fun z => absurd z (by decide)⟩⟩) (fun z => ⟨kf_m hf, ⟨fun y => absurd rfl y, fun _ => ⟨trivial, e0 z⟩⟩⟩)
    obtain ⟨h1, h12⟩ := (w.2.2.1.2.2.2.2 q hq).1
    subst ev
    refine kc_isAnswer hf hM.1 hM.2.2.1 w.2.2.1 hc hq (fun t => ⟨hf, ⟨fun _ => ?_, fun y => absurd y (by decide)⟩⟩) (fun t => ⟨hf, ⟨fun y => absurd rfl y, fun _ => ⟨trivial, ?_⟩⟩⟩)
    · obtain ⟨n, rfl, hn⟩ := t.lt w (w.2.2.1.sh hq (by omega))
      refine ⟨nI_in (N := 6) (by omega) (by omega), ?_⟩
      rw [nI_clamp (by omega), show ka_I h (kq_p h 72 11) q = _ from (hM.2.2.1.2.2.2.1 q hq).2.1]
      refine km_plain (nI_m1' h1) hf hM w hq (by omega) hn (fun h' f1 f2 f3 f4 f5 f6 => ⟨f1, ?_⟩)
      have e : R (kp_ri (kVal A (qSh A.2.2.1 q ((qNd A.2.2.1 q).length - 1)) (nI n) (fun V => kSz V 256) (Int32.ofInt (-1)))) h' := e3 q ⟨rfl, hq, hlf⟩ trivial trivial h' f1 f2.pq
      rw [kVal_T t (by omega)] at e
      have f4' := fun r (hr : r < 256) => f4 _ r (Nat.le_refl _) hr
      generalize kSV (qKy A.2.2.1) (lT A.1 (lE A.1 n)) (qSh A.2.2.1 q ((qNd A.2.2.1 q).length - 1)) = V at e f4'
      have hd := kq_for (P := fun k => kq_ex g 199 213 R 45 [.ref 72, .int (nI q), .int (nI n), .int (kSz V k), .int (nI k)] [] h') 256 ?_ (fun k hk ih => ?_)
      · exact hd
      · exact kq_seg (fun p => Nat.beq p 45) 20 ⟨fun _ => ⟨trivial, e⟩, fun y => absurd y (nI_nlt (b := 256) (by omega) (by omega))⟩
      · rw [nI_succ] at ih
        refine kq_seg (fun p => Nat.beq p 45) 30 ⟨fun y => absurd (nI_lt (b := 256) hk (by omega)) y, fun _ => ?_⟩
        refine kq_ci (km_answerAt rfl f1 f3 w hq hk) f1 ?_
        rw [f4' k hk]
        refine ⟨fun y => ?_, fun y => ?_⟩
        · rw [kSz_F (fun z => y (kAn_p.mpr z))] at ih; exact ih
        · rw [kSz_T (kAn_p.mp y)] at ih; exact ih
    · have e : R (kp_ri (kVal A (qSh A.2.2.1 q ((qNd A.2.2.1 q).length - 1)) ed (fun V => kSz V 256) (Int32.ofInt (-1)))) h := e3 q ⟨rfl, hq, hlf⟩ trivial trivial h hf kPq.rfl'
      rw [kVal_F t] at e
      exact e
/-- the k-th row that is there -/
def kRw (V : Nat → Int32) (k : Int32) : Nat → Int32 → Nat → Int32 := kv_nth (fun r => decide (0 < V r)) k
theorem kRw_F {V : Nat → Int32} {k bf : Int32} {j b : Nat} (h : ¬ 0 < V b) : kRw V k (j + 1) bf b = kRw V k j bf (b + 1) := kv_nthF (fun z => h (of_decide_eq_true z))
theorem kRw_T {V : Nat → Int32} {k bf : Int32} {j b : Nat} (h : 0 < V b) (e : bf = k) : kRw V k (j + 1) bf b = nI b := kv_nthT (decide_eq_true h) e
theorem kRw_N {V : Nat → Int32} {k bf : Int32} {j b : Nat} (h : 0 < V b) (e : ¬ bf = k) : kRw V k (j + 1) bf b = kRw V k j (bf + 1) (b + 1) := kv_nthN (decide_eq_true h) e
theorem ko_row (w : kWA A) (v ed kk : Int32) : kOx (kmp1 2) 200 105 214 [.int v, .int ed, .int kk] A := by
  have hc := w.1.2.1
  have w6 := w.2.2.1.1
  refine ko_gen (v := v) (P1 := fun _ => True) (P2 := True) (c2 := 2) (val := fun q => kVal A (qSh A.2.2.1 q ((qNd A.2.2.1 q).length - 1)) ed (fun V => kRw V kk 256 0 0) (Int32.ofInt (-1))) w (Or.inl rfl) ⟨rfl, rfl⟩ (fun _ z => absurd trivial z) (fun z => absurd trivial z) (fun g h R hf hb hC e0 e1 e2 e3 => ?_) (kGm_of (Lc := [.ref 72, .int v, .int ed, .int kk, .retAddr 0, .retAddr 0]) (fun g h R hf k => kq_in hf rfl rfl rfl (kq_seg (fun p => Nat.beq p 5) 10 k)) (fun g h R hf hM h0 e0 e1 e2 e3 => ?_))
  · refine kd_in (d := 199) hf rfl rfl rfl (kd_seg (fun p => Nat.beq p 39) 40 ⟨kK hf rfl rfl, ?_⟩)
    refine kx_q hf hb hC w (fun z => ⟨kf_new hf (by omega), e0 z⟩) (fun sb qb st q q4 ev hq hlf => ⟨hf, ?_⟩)
    obtain ⟨h1, h12⟩ := (w.2.2.1.2.2.2.2 q hq).1
    have hQ := (q4.2.2.2.2.2.2.1 q hq).1
    have hKb : (ka_K h (qb q)).1 = 4 := by rw [hQ.2.2.1]
    refine ⟨kK hf rfl rfl, ?_⟩
    refine kx_toldW hf hC.1 w q4 hq (fun n en hn t => ⟨hf, ⟨fun _ => ⟨hKb, ?_⟩, fun y => absurd y (by decide)⟩⟩) (fun t => ⟨hf, ⟨fun y => absurd rfl y, fun _ => ⟨trivial, ?_⟩⟩⟩)
    · subst en
      refine kq_ci (kc_last hf hQ) hf ⟨kK hf rfl rfl, ?_⟩
      refine kx_cnt (nI_m1' h1) hf hC w q4 hq (k := (qNd A.2.2.1 q).length - 1) (by omega) hn (fun h' st' f1 f2 f3 f4 f5 f6 => ⟨f1, ?_⟩)
      have e : R (kp_ri (kVal A (qSh A.2.2.1 q ((qNd A.2.2.1 q).length - 1)) (nI n) (fun V => kRw V kk 256 0 0) (Int32.ofInt (-1)))) h' := e3 q ⟨ev, hq, hlf⟩ trivial trivial h' f1 f3 f2.fc
      rw [kVal_T t (by omega)] at e
      generalize kSV (qKy A.2.2.1) (lT A.1 (lE A.1 n)) (qSh A.2.2.1 q ((qNd A.2.2.1 q).length - 1)) = V at e f6
      generalize sb (qSh A.2.2.1 q ((qNd A.2.2.1 q).length - 1)) + 2 = c at f5 f6
      have main : ∀ m i bf, i + m = 256 → kRw V kk m bf i = kRw V kk 256 0 0 → kd_ex g 199 105 R 39 [.ref 1, .int v, .int (nI n), .int kk, .ref (qb q), .ref c, .int bf, .int (nI i)] [] h' := by
        intro m
        induction m with
        | zero =>
          intro i bf hi hr
          rw [← hr] at e
          exact kd_seg (fun p => Nat.beq p 39) 20 ⟨fun _ => ⟨trivial, e⟩, fun y => absurd y (nI_nlt (b := 256) (by omega) (by omega))⟩
        | succ m ih =>
          intro i bf hi hr
          refine kd_seg (fun p => Nat.beq p 39) 30 ⟨fun y => absurd (nI_lt (b := 256) (by omega) (by omega)) y, fun _ => ⟨kr_in f5 (by omega) (by omega), ?_⟩⟩
          rw [nI_clamp (by omega), f6 i (by omega)]
          refine ⟨fun y => ?_, fun y => ⟨fun z => ?_, fun z => ⟨trivial, ?_⟩⟩⟩
          · have := ih (i + 1) bf (by omega) ((kRw_F y).symm.trans hr)
            rw [nI_succ] at this
            exact this
          · have := ih (i + 1) (bf + 1) (by omega) ((kRw_N y z).symm.trans hr)
            rw [nI_succ] at this
            exact this
          · rw [← hr, kRw_T y z] at e
            exact e
      exact main 256 0 0 rfl rfl
    · have e : R (kp_ri (kVal A (qSh A.2.2.1 q ((qNd A.2.2.1 q).length - 1)) ed (fun V => kRw V kk 256 0 0) (Int32.ofInt (-1)))) h := e3 q ⟨ev, hq, hlf⟩ trivial trivial h hf hC kFc.rfl'
      rw [kVal_F t] at e
      exact e
  · refine kq_seg (fun p => Nat.beq p 46) 60 ?_
    refine kc_isQuestion hf h0 hM.2.2.1 w6 (fun q ev hq hlf => ⟨hf, ⟨fun _ => ?_, fun z => absurd z (by decide)⟩⟩) (fun z => ⟨kf_m hf, ⟨fun y => absurd rfl y, fun _ => ⟨trivial, e0 z⟩⟩⟩)
    obtain ⟨h1, h12⟩ := (w.2.2.1.2.2.2.2 q hq).1
    subst ev
    refine kc_isAnswer hf hM.1 hM.2.2.1 w.2.2.1 hc hq (fun t => ⟨hf, ⟨fun _ => ?_, fun y => absurd y (by decide)⟩⟩) (fun t => ⟨hf, ⟨fun y => absurd rfl y, fun _ => ⟨trivial, ?_⟩⟩⟩)
    · obtain ⟨n, rfl, hn⟩ := t.lt w (w.2.2.1.sh hq (by omega))
      refine ⟨nI_in (N := 6) (by omega) (by omega), ?_⟩
      rw [nI_clamp (by omega), show ka_I h (kq_p h 72 11) q = _ from (hM.2.2.1.2.2.2.1 q hq).2.1]
      refine km_plain (nI_m1' h1) hf hM w hq (by omega) hn (fun h' f1 f2 f3 f4 f5 f6 => ⟨f1, ?_⟩)
      have e : R (kp_ri (kVal A (qSh A.2.2.1 q ((qNd A.2.2.1 q).length - 1)) (nI n) (fun V => kRw V kk 256 0 0) (Int32.ofInt (-1)))) h' := e3 q ⟨rfl, hq, hlf⟩ trivial trivial h' f1 f2.pq
      rw [kVal_T t (by omega)] at e
      have f4' := fun r (hr : r < 256) => f4 _ r (Nat.le_refl _) hr
      generalize kSV (qKy A.2.2.1) (lT A.1 (lE A.1 n)) (qSh A.2.2.1 q ((qNd A.2.2.1 q).length - 1)) = V at e f4'
      have main : ∀ m i bf, i + m = 256 → kRw V kk m bf i = kRw V kk 256 0 0 → kq_ex g 199 214 R 46 [.ref 72, .int (nI q), .int (nI n), .int kk, .int bf, .int (nI i)] [] h' := by
        intro m
        induction m with
        | zero =>
          intro i bf hi hr
          rw [← hr] at e
          exact kq_seg (fun p => Nat.beq p 46) 20 ⟨fun _ => ⟨trivial, e⟩, fun y => absurd y (nI_nlt (b := 256) (by omega) (by omega))⟩
        | succ m ih =>
          intro i bf hi hr
          refine kq_seg (fun p => Nat.beq p 46) 30 ⟨fun y => absurd (nI_lt (b := 256) (by omega) (by omega)) y, fun _ => ?_⟩
          refine kq_ci (km_answerAt rfl f1 f3 w hq (by omega)) f1 ?_
          rw [f4' i (by omega)]
          refine ⟨fun y => ⟨fun z => ?_, fun z => ⟨trivial, ?_⟩⟩, fun y => ?_⟩
          · have y' : 0 < V i := Classical.byContradiction fun u => y (kAn_0.mpr u)
            have := ih (i + 1) (bf + 1) (by omega) ((kRw_N y' z).symm.trans hr)
            rw [nI_succ] at this
            exact this
          · have y' : 0 < V i := Classical.byContradiction fun u => y (kAn_0.mpr u)
            rw [← hr, kRw_T y' z] at e
            exact e
          · have := ih (i + 1) bf (by omega) ((kRw_F (kAn_0.mp y)).symm.trans hr)
            rw [nI_succ] at this
            exact this
      exact main 256 0 0 rfl rfl
    · have e : R (kp_ri (kVal A (qSh A.2.2.1 q ((qNd A.2.2.1 q).length - 1)) ed (fun V => kRw V kk 256 0 0) (Int32.ofInt (-1)))) h := e3 q ⟨rfl, hq, hlf⟩ trivial trivial h hf kPq.rfl'
      rw [kVal_F t] at e
      exact e
def kDg (V : Nat → Int32) : Nat → Int32
  | 0 => 7
  | n + 1 => Int32.ofInt 31 * kDg V n + V n
theorem ko_digest (w : kWA A) (v u ed : Int32) : kOx kmp21 200 110 229 [.int v, .int u, .int ed] A := by
  have hc := w.1.2.1
  have w6 := w.2.2.1.1
  refine ko_gen (v := v) (P1 := fun q => kIsN (qNd A.2.2.1 q).length u) (P2 := True) (c2 := 3) (val := fun q => kVal A (qSh A.2.2.1 q u.toNatClampNeg) ed (fun V => kDg V 256) (Int32.ofInt 0)) w (Or.inr rfl) (Or.inl ⟨rfl, rfl⟩) (fun _ _ => Or.inr ⟨rfl, rfl⟩) (fun z => absurd trivial z) (fun g h R hf hb hC e0 e1 e2 e3 => ?_) (kGm_of (Lc := [.ref 72, .int v, .int u, .int ed, .retAddr 0, .retAddr 0]) (fun g h R hf k => kq_in hf rfl rfl rfl (kq_seg (fun p => Nat.beq p 5) 10 k)) (fun g h R hf hM h0 e0 e1 e2 e3 => ?_))
  · refine kd_in (d := 199) hf rfl rfl rfl (kd_seg (fun p => Nat.beq p 40) 40 ⟨kK hf rfl rfl, ?_⟩)
    refine kx_q hf hb hC w (fun z => ⟨kf_new hf (by omega), e0 z⟩) (fun sb qb st q q4 ev hq hlf => ⟨hf, ?_⟩)
    refine kx_s hf hb q4 w hq (fun z => ⟨kf_new hf (by omega), e1 q ⟨ev, hq, hlf⟩ z⟩) (fun k eu hk => ⟨hf, ?_⟩)
    have h12 := (w.2.2.1.2.2.2.2 q hq).1.2
    refine ⟨kK hf rfl rfl, ?_⟩
    refine kx_told hf hC.1 w q4 hq hk (fun n en hn t => ⟨hf, ⟨fun _ => ⟨kK hf rfl rfl, ?_⟩, fun y => absurd y (by decide)⟩⟩) (fun t => ⟨hf, ⟨fun y => absurd rfl y, fun _ => ⟨trivial, ?_⟩⟩⟩)
    · subst eu
      subst en
      refine kx_cnt rfl hf hC w q4 hq hk hn (fun h' st' f1 f2 f3 f4 f5 f6 => ⟨f1, ?_⟩)
      have e : R (kp_ri (kVal A (qSh A.2.2.1 q (nI k).toNatClampNeg) (nI n) (fun V => kDg V 256) (Int32.ofInt 0))) h' := e3 q ⟨ev, hq, hlf⟩ ⟨k, rfl, hk⟩ trivial h' f1 f3 f2.fc
      rw [nI_clamp (by omega), kVal_T t (by omega)] at e
      generalize kSV (qKy A.2.2.1) (lT A.1 (lE A.1 n)) (qSh A.2.2.1 q k) = V at e f6
      generalize sb (qSh A.2.2.1 q k) + 2 = c at f5 f6
      have hd := kq_for (P := fun i => kd_ex g 199 110 R 40 [.ref 1, .int v, .int (nI k), .int (nI n), .ref (qb q), .ref c, .int (kDg V i), .int (nI i)] [] h') 256 ?_ (fun i hi ih => ?_)
      · exact hd
      · exact kd_seg (fun p => Nat.beq p 40) 20 ⟨fun _ => ⟨trivial, e⟩, fun y => absurd y (nI_nlt (b := 256) (by omega) (by omega))⟩
      · rw [nI_succ] at ih
        refine kd_seg (fun p => Nat.beq p 40) 30 ⟨fun y => absurd (nI_lt (b := 256) hi (by omega)) y, fun _ => ⟨kr_in f5 hi (by omega), ?_⟩⟩
        rw [nI_clamp (by omega), f6 i hi]
        exact ih
    · subst eu
      have e : R (kp_ri (kVal A (qSh A.2.2.1 q (nI k).toNatClampNeg) ed (fun V => kDg V 256) (Int32.ofInt 0))) h := e3 q ⟨ev, hq, hlf⟩ ⟨k, rfl, hk⟩ trivial h hf hC kFc.rfl'
      rw [nI_clamp (by omega), kVal_F t] at e
      exact e
  · refine kq_seg (fun p => Nat.beq p 40) 60 ?_
    refine kc_isNode hf h0 hM.2.2.1 w.2.2.1 (fun q k ev hq hlf eu hk => ⟨hf, ⟨fun z => absurd z (by decide), fun _ => ?_⟩⟩) (fun z => ⟨kf_m hf, ⟨fun _ => ⟨trivial, e0 z⟩, fun y => absurd rfl y⟩⟩) (fun q ev hq hlf z => ⟨kf_m hf, ⟨fun _ => ⟨trivial, e1 q ⟨ev, hq, hlf⟩ z⟩, fun y => absurd rfl y⟩⟩)
    have h12 := (w.2.2.1.2.2.2.2 q hq).1.2
    subst ev
    subst eu
    refine kc_misTold hf hM.1 hM.2.2.1 w.2.2.1 hc hq hk (fun t => ⟨hf, ⟨fun _ => ?_, fun y => absurd y (by decide)⟩⟩) (fun t => ⟨hf, ⟨fun y => absurd rfl y, fun _ => ⟨trivial, ?_⟩⟩⟩)
    · obtain ⟨n, rfl, hn⟩ := t.lt w (w.2.2.1.sh hq hk)
      refine km_plain rfl hf hM w hq hk hn (fun h' f1 f2 f3 f4 f5 f6 => ⟨f1, ?_⟩)
      have e : R (kp_ri (kVal A (qSh A.2.2.1 q (nI k).toNatClampNeg) (nI n) (fun V => kDg V 256) (Int32.ofInt 0))) h' := e3 q ⟨rfl, hq, hlf⟩ ⟨k, rfl, hk⟩ trivial h' f1 f2.pq
      rw [nI_clamp (by omega), kVal_T t (by omega)] at e
      have f4' := fun r (hr : r < 256) => f4 k r (Nat.le_refl _) hr
      generalize kSV (qKy A.2.2.1) (lT A.1 (lE A.1 n)) (qSh A.2.2.1 q k) = V at e f4'
      have hd := kq_for (P := fun i => kq_ex g 199 229 R 40 [.ref 72, .int (nI q), .int (nI k), .int (nI n), .int (kDg V i), .int (nI i)] [] h') 256 ?_ (fun i hi ih => ?_)
      · exact hd
      · exact kq_seg (fun p => Nat.beq p 40) 20 ⟨fun _ => ⟨trivial, e⟩, fun y => absurd y (nI_nlt (b := 256) (by omega) (by omega))⟩
      · rw [nI_succ] at ih
        refine kq_seg (fun p => Nat.beq p 40) 30 ⟨fun y => absurd (nI_lt (b := 256) hi (by omega)) y, fun _ => ⟨by rw [nI_256m, nI_add]; exact nI_in (N := 3072) (by omega) (by omega), ?_⟩⟩
        rw [nI_256m, nI_add, nI_clamp (by omega), show ka_I h' (kq_p h' 72 41) (256 * k + i) = V i from f4' i hi]
        exact ih
    · have e : R (kp_ri (kVal A (qSh A.2.2.1 q (nI k).toNatClampNeg) ed (fun V => kDg V 256) (Int32.ofInt 0))) h := e3 q ⟨rfl, hq, hlf⟩ ⟨k, rfl, hk⟩ trivial h hf kPq.rfl'
      rw [nI_clamp (by omega), kVal_F t] at e
      exact e
end T2
