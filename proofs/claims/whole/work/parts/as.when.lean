/-! ===== when, unlike ===== -/
theorem kv_nth_sk {p : Nat → Bool} {k : Int32} {bf : Int32} : ∀ (e n i : Nat), (∀ j, i ≤ j → j < i + e → ¬ p j = true) → kv_nth p k (e + n) bf i = kv_nth p k n bf (i + e)
  | 0, n, i, _ => by rw [Nat.zero_add, Nat.add_zero]
  | e + 1, n, i, h => by
    rw [show e + 1 + n = (e + n) + 1 by omega, kv_nthF (h i (Nat.le_refl _) (by omega)), kv_nth_sk e n (i + 1) (fun j h1 h2 => h j (by omega) (by omega)), show i + 1 + e = i + (e + 1) by omega]
noncomputable def kWv (A : kA) (s r : Nat) (e : Int32) : Int32 := kAn (kSV (qKy A.2.2.1) (lT A.1 (lM A.1 e)) s r)
noncomputable def kWp (A : kA) (s r : Nat) (e : Nat) : Bool := @decide (kTd2 A.1 A.2.2.1 s (nI e) ∧ ¬ kWv A s r (nI e - 1) = kWv A s r (nI e)) (Classical.propDecidable _)
section WH
variable {A : kA}
theorem kWp_T {s r e : Nat} (h1 : kTd2 A.1 A.2.2.1 s (nI e)) (h2 : ¬ kWv A s r (nI e - 1) = kWv A s r (nI e)) : kWp A s r e = true := @decide_eq_true _ (Classical.propDecidable _) ⟨h1, h2⟩
theorem kWp_F {s r e : Nat} (h : ¬ (kTd2 A.1 A.2.2.1 s (nI e) ∧ ¬ kWv A s r (nI e - 1) = kWv A s r (nI e))) : ¬ kWp A s r e = true := fun z => h (@of_decide_eq_true _ (Classical.propDecidable _) z)
theorem kx_answerM {g : Nat × (Nat → Int32)} {d : Nat} {h : ka_H} {R : ka_R → ka_H → Prop} {sb qb st : Nat → Nat} {q r : Nat} {ed : Int32} (hf : kf g h) (hC : kcA A h) (w : kWA A) (q4 : kcq A.1 A.2.2.1 sb qb st h) (hq : q < qQ A.2.2.1) (he : ed = -1 ∨ ∃ n, ed = nI n ∧ n < lC A.1) (hr : r < 256)
    (e : ∀ h' st', kf g h' → kBf h h' → kcA A h' → kcq A.1 A.2.2.1 sb qb st' h' → R (kp_ri (kWv A (qSh A.2.2.1 q ((qNd A.2.2.1 q).length - 1)) r ed)) h') : kp_T (d + 7) 136 [.ref 1, .ref (qb q), .int ed, .int (nI r)] h R := by
  obtain ⟨h1, h12⟩ := (w.2.2.1.2.2.2.2 q hq).1
  have hQ := (q4.2.2.2.2.2.2.1 q hq).1
  have hKb : (ka_K h (qb q)).1 = 4 := by rw [hQ.2.2.1]
  have l1 := kl_endD hC.1 w.1 he
  refine kd_in hf rfl rfl rfl (kd_seg kp_no 20 ⟨hKb, ?_⟩)
  refine kq_ci (kc_last hf hQ) hf ⟨kK hf rfl rfl, ?_⟩
  refine kx_cntM (nI_m1' h1) hf hC w q4 hq (k := (qNd A.2.2.1 q).length - 1) (by omega) l1.1 l1.2 (fun h' st' f1 f2 f3 f4 f5 f6 => ⟨f1, ⟨kr_in f5 hr (by omega), ?_⟩⟩)
  rw [nI_clamp (by omega), f6 r hr]
  exact kq_ci (kc_max f1) f1 ⟨trivial, e h' st' f1 f2 f3 f4⟩
theorem km_plainE {g : Nat × (Nat → Int32)} {d : Nat} {h : ka_H} {R : ka_R → ka_H → Prop} {q k n : Nat} {u ed : Int32} (eu : u = nI k) (ee : ed = nI n) (hf : kf g h) (hM : kmA A h) (w : kWA A) (hq : q < qQ A.2.2.1) (hk : k < (qNd A.2.2.1 q).length) (hn : n < lC A.1)
    (e : ∀ h', kf g h' → kPl h h' → kmA A h' → (∀ j r, j ≤ k → r < 256 → ka_I h' 96 (256 * j + r) = kSV (qKy A.2.2.1) (lT A.1 (lE A.1 n)) (qSh A.2.2.1 q j) r) → (∀ r, r < 1024 → ka_I h' 95 r = 0) → ka_I h' 72 40 = -1 → R (.inl none) h') : kp_T (d + 5) 207 [.ref 72, .int (nI q), .int u, .int ed] h R := by
  rw [ee]
  exact km_plain eu hf hM w hq hk hn e
theorem ko_when (w : kWA A) (v a b kk : Int32) : kOx kmp20 200 108 227 [.int v, .int a, .int b, .int kk] A := by
  have hc := w.1.2.1
  have w6 := w.2.2.1.1
  have hfo := w.2.2.1.2.2.1
  refine ko_gen (v := v) (P1 := fun _ => True) (P2 := kp_row a b) (c2 := 2) (val := fun q => kv_nth (kWp A (qSh A.2.2.1 q ((qNd A.2.2.1 q).length - 1)) (16 * a.toNatClampNeg + b.toNatClampNeg)) kk (lC A.1) 0 0) w (Or.inl rfl) (Or.inl ⟨rfl, rfl⟩) (fun _ z => absurd trivial z) (fun _ => Or.inr ⟨rfl, rfl⟩) (fun g h R hf hb hC e0 e1 e2 e3 => ?_) (kGm_of (Lc := [.ref 72, .int v, .int a, .int b, .int kk, .retAddr 0, .retAddr 0, .retAddr 0]) (fun g h R hf k => kq_in hf rfl rfl rfl (kq_seg (fun p => Nat.beq p 5) 10 k)) (fun g h R hf hM h0 e0 e1 e2 e3 => ?_))
  · refine kd_in (d := 199) hf rfl rfl rfl (kd_seg (fun p => Nat.beq p 29) 40 ⟨kK hf rfl rfl, ?_⟩)
    refine kx_q hf hb hC w (fun z => ⟨kf_new hf (by omega), e0 z⟩) (fun sb qb st q q4 ev hq hlf => ⟨hf, ?_⟩)
    refine kc_cellOf hf (by omega) (fun z => ⟨kf_new hf (by omega), e2 q ⟨ev, hq, hlf⟩ trivial z⟩) (fun z => ⟨hf, ?_⟩)
    obtain ⟨h1, h12⟩ := (w.2.2.1.2.2.2.2 q hq).1
    obtain ⟨x, y, hx, hy, rfl, rfl, hxy⟩ := kp_rowN z
    rw [hxy]
    refine ⟨kK hf rfl rfl, ?_⟩
    rw [q4.1.2.2]
    refine kq_ci (kc_max hf) hf ?_
    have hmax : (if (Int32.ofInt 0) < nI (qFo A.2.2.1) - Int32.ofInt 1 then nI (qFo A.2.2.1) - Int32.ofInt 1 else Int32.ofInt 0) = nI (qFo A.2.2.1 - 1) := by
      by_cases c : qFo A.2.2.1 = 0
      · rw [c]; rfl
      · rw [show nI (qFo A.2.2.1) - Int32.ofInt 1 = nI (qFo A.2.2.1 - 1) from nI_m1' (by omega)]
        split
        · rfl
        · rename_i y
          have : ¬ 0 < qFo A.2.2.1 - 1 := fun u => y (nI_lt (a := 0) u (by omega))
          rw [show qFo A.2.2.1 - 1 = 0 by omega]; rfl
    rw [hmax]
    have eV : ∀ h', kf g h' → kcA A h' → kFc h h' → R (kp_ri (kv_nth (kWp A (qSh A.2.2.1 q ((qNd A.2.2.1 q).length - 1)) (16 * x + y)) kk (lC A.1) 0 0)) h' := fun h' f1 f2 f3 => by
      have e : R (kp_ri (kv_nth (kWp A (qSh A.2.2.1 q ((qNd A.2.2.1 q).length - 1)) (16 * (nI x).toNatClampNeg + (nI y).toNatClampNeg)) kk (lC A.1) 0 0)) h' := e3 q ⟨ev, hq, hlf⟩ trivial z h' f1 f2 f3
      rw [nI_clamp (by omega), nI_clamp (by omega)] at e
      exact e
    have hsk : kv_nth (kWp A (qSh A.2.2.1 q ((qNd A.2.2.1 q).length - 1)) (16 * x + y)) kk (lC A.1) 0 0 = kv_nth (kWp A (qSh A.2.2.1 q ((qNd A.2.2.1 q).length - 1)) (16 * x + y)) kk (lC A.1 - (qFo A.2.2.1 - 1)) 0 (qFo A.2.2.1 - 1) := by
      have := kv_nth_sk (p := kWp A (qSh A.2.2.1 q ((qNd A.2.2.1 q).length - 1)) (16 * x + y)) (k := kk) (bf := 0) (qFo A.2.2.1 - 1) (lC A.1 - (qFo A.2.2.1 - 1)) 0 (fun j _ hj => kWp_F (fun u => by
        obtain ⟨n, en, hn1, hn⟩ := u.1.1
        have := w.2.2.1.F hc _ (w.2.2.1.sh hq (k := (qNd A.2.2.1 q).length - 1) (by omega))
        have := (nI_eq (by omega) (by omega)).mp en
        omega))
      rw [show qFo A.2.2.1 - 1 + (lC A.1 - (qFo A.2.2.1 - 1)) = lC A.1 by omega, Nat.zero_add] at this
      exact this
    have hr : 16 * x + y < 256 := by omega
    generalize 16 * x + y = r at eV hsk hr
    have main : ∀ m i bf h' st', i + m = lC A.1 → kv_nth (kWp A (qSh A.2.2.1 q ((qNd A.2.2.1 q).length - 1)) r) kk m bf i = kv_nth (kWp A (qSh A.2.2.1 q ((qNd A.2.2.1 q).length - 1)) r) kk (lC A.1) 0 0 → kf g h' → kBf h h' → kcA A h' → kcq A.1 A.2.2.1 sb qb st' h' → kd_ex g 199 108 R 29 [.ref 1, .int v, .int (nI x), .int (nI y), .int kk, .ref (qb q), .int (nI r), .int bf, .int (nI i)] [] h' := by
      intro m
      induction m with
      | zero =>
        intro i bf h' st' hi hv f1 f2 f3 f4
        refine kd_seg (fun p => Nat.beq p 29) 60 ⟨kK f1 rfl rfl, ⟨kK f1 (a := 2) rfl rfl, ?_⟩⟩
        rw [show ka_I h' (kq_p h' 1 0) 7 = nI (lC A.1) from f3.1.2.1]
        have e := eV h' f1 f3 f2.fc
        rw [← hv] at e
        exact ⟨fun _ => ⟨trivial, e⟩, fun y => absurd y (nI_nlt (by omega) (by omega))⟩
      | succ m ih =>
        intro i bf h' st' hi hv f1 f2 f3 f4
        obtain ⟨hp, hs, cs, h13⟩ := f4.nd w.2.2.1 hq (k := (qNd A.2.2.1 q).length - 1) (by omega)
        have hQ := (f4.2.2.2.2.2.2.1 q hq).1
        have hKb : (ka_K h' (qb q)).1 = 4 := by rw [hQ.2.2.1]
        have nx : ∀ h2 st2, ¬ kWp A (qSh A.2.2.1 q ((qNd A.2.2.1 q).length - 1)) r i = true → kf g h2 → kBf h h2 → kcA A h2 → kcq A.1 A.2.2.1 sb qb st2 h2 → kd_ex g 199 108 R 93 [.ref 1, .int v, .int (nI x), .int (nI y), .int kk, .ref (qb q), .int (nI r), .int bf, .int (nI i)] [] h2 := fun h2 st2 u g1 g2 g3 g4 => by
          have := ih (i + 1) bf h2 st2 (by omega) ((kv_nthF u).symm.trans hv) g1 g2 g3 g4
          rw [nI_succ] at this
          exact kd_seg (fun p => Nat.beq p 29) 10 this
        refine kd_seg (fun p => Nat.beq p 29 || Nat.beq p 93) 60 ⟨kK f1 rfl rfl, ⟨kK f1 (a := 2) rfl rfl, ?_⟩⟩
        rw [show ka_I h' (kq_p h' 1 0) 7 = nI (lC A.1) from f3.1.2.1]
        refine ⟨fun y => absurd (nI_lt (by omega) (by omega)) y, fun _ => ⟨hKb, ?_⟩⟩
        refine kc_whole f1 hQ h1 ⟨f1, ⟨kK f1 rfl rfl, ?_⟩⟩
        rw [hp]
        refine kc_isToldOne f1 f3.1 f4.1.2.2 cs h13 (w.2.2.1.F hc _ hs) (by omega) (fun t1 t2 => ⟨f1, ⟨fun y => absurd y (by decide), fun _ => ⟨kK f1 rfl rfl, ?_⟩⟩⟩) (fun t => ⟨f1, ⟨fun _ => nx h' st' (kWp_F (fun u => t u.1)) f1 f2 f3 f4, fun y => absurd rfl y⟩⟩)
        have t : kTd2 A.1 A.2.2.1 (qSh A.2.2.1 q ((qNd A.2.2.1 q).length - 1)) (nI i) := ⟨t1, t2⟩
        obtain ⟨m1, m2⟩ := t.m w hs
        refine kx_answerM f1 f3 w f4 hq m1 hr (fun h2 st2 g1 g2 g3 g4 => ⟨g1, ⟨kK g1 rfl rfl, ?_⟩⟩)
        refine kx_answerM g1 g3 w g4 hq (Or.inr m2) hr (fun h3 st3 k1 k2 k3 k4 => ⟨k1, ⟨fun y => ?_, fun y => ⟨fun u => ?_, fun u => ⟨trivial, ?_⟩⟩⟩⟩)
        · exact nx h3 st3 (kWp_F (fun u => u.2 y)) k1 ((f2.tr g2).tr k2) k3 k4
        · have := ih (i + 1) (bf + 1) h3 st3 (by omega) ((kv_nthN (kWp_T t y) u).symm.trans hv) k1 ((f2.tr g2).tr k2) k3 k4
          rw [nI_succ] at this
          exact kd_seg (fun p => Nat.beq p 29) 10 this
        · have e := eV h3 k1 k3 ((f2.tr g2).tr k2).fc
          rw [← hv, kv_nthT (kWp_T t y) u] at e
          exact e
    exact main (lC A.1 - (qFo A.2.2.1 - 1)) (qFo A.2.2.1 - 1) 0 h st (by omega) hsk.symm hf kBf.rfl' hC q4
  · refine kq_seg (fun p => Nat.beq p 34) 60 ?_
    refine kc_isQuestion hf h0 hM.2.2.1 w6 (fun q ev hq hlf => ⟨hf, ⟨fun z => absurd z (by decide), fun _ => ?_⟩⟩) (fun z => ⟨kf_m hf, ⟨fun _ => ⟨trivial, e0 z⟩, fun y => absurd rfl y⟩⟩)
    obtain ⟨h1, h12⟩ := (w.2.2.1.2.2.2.2 q hq).1
    have hs := w.2.2.1.sh hq (k := (qNd A.2.2.1 q).length - 1) (by omega)
    have wk := fun s hs => (w.2.2.1.2.2.2.1 s hs).1
    refine kq_ci (kc_isRow hf) hf ?_
    by_cases z : kp_row a b
    · rw [kp_bT z]
      refine kq_ci (kc_may1 (code := 2) hf h0) hf ⟨fun _ => ?_, fun y => absurd y (by decide)⟩
      subst ev
      obtain ⟨x, y, hx, hy, rfl, rfl, hxy⟩ := kp_rowN z
      have eV : ∀ h', kf g h' → kPq h h' → R (kp_ri (kv_nth (kWp A (qSh A.2.2.1 q ((qNd A.2.2.1 q).length - 1)) (16 * x + y)) kk (lC A.1) 0 0)) h' := fun h' f1 f2 => by
        have e : R (kp_ri (kv_nth (kWp A (qSh A.2.2.1 q ((qNd A.2.2.1 q).length - 1)) (16 * (nI x).toNatClampNeg + (nI y).toNatClampNeg)) kk (lC A.1) 0 0)) h' := e3 q ⟨rfl, hq, hlf⟩ trivial z h' f1 f2
        rw [nI_clamp (by omega), nI_clamp (by omega)] at e
        exact e
      have main : ∀ m i bf h' z7, i + m = lC A.1 → kv_nth (kWp A (qSh A.2.2.1 q ((qNd A.2.2.1 q).length - 1)) (16 * x + y)) kk m bf i = kv_nth (kWp A (qSh A.2.2.1 q ((qNd A.2.2.1 q).length - 1)) (16 * x + y)) kk (lC A.1) 0 0 → kf g h' → kPq h h' → kq_ex g 199 227 R 34 [.ref 72, .int (nI q), .int (nI x), .int (nI y), .int kk, .int bf, .int (nI i), z7] [] h' := by
        intro m
        induction m with
        | zero =>
          intro i bf h' z7 hi hv f1 f2
          have hM' := f2.ma hM
          have e := eV h' f1 f2
          rw [← hv] at e
          refine kq_seg (fun p => Nat.beq p 34) 20 ⟨fun _ => ⟨trivial, e⟩, fun c => ?_⟩
          rw [show ka_I h' 72 1 = nI (lC A.1) from hM'.1.2.1] at c
          exact absurd c (nI_nlt (by omega) (by omega))
        | succ m ih =>
          intro i bf h' z7 hi hv f1 f2
          have hM' := f2.ma hM
          have nx : ∀ h2 z7, ¬ kWp A (qSh A.2.2.1 q ((qNd A.2.2.1 q).length - 1)) (16 * x + y) i = true → kf g h2 → kPq h h2 → kq_ex g 199 227 R 158 [.ref 72, .int (nI q), .int (nI x), .int (nI y), .int kk, .int bf, .int (nI i), z7] [] h2 := fun h2 z7 u g1 g2 => by
            have := ih (i + 1) bf h2 z7 (by omega) ((kv_nthF u).symm.trans hv) g1 g2
            rw [nI_succ] at this
            exact kq_seg (fun p => Nat.beq p 34) 10 this
          have j111 : ∀ h2, kTd2 A.1 A.2.2.1 (qSh A.2.2.1 q ((qNd A.2.2.1 q).length - 1)) (nI i) → kf g h2 → kPq h h2 → ∀ wv, wv = kWv A (qSh A.2.2.1 q ((qNd A.2.2.1 q).length - 1)) (16 * x + y) (nI i - 1) → kq_ex g 199 227 R 111 [.ref 72, .int (nI q), .int (nI x), .int (nI y), .int kk, .int bf, .int (nI i), .int wv] [] h2 := by
            intro h2 t g1 g2 wv hw
            have hM2 := g2.ma hM
            refine kq_seg (fun p => Nat.beq p 34 || Nat.beq p 158) 60 ⟨nI_in (N := 6) (by omega) (by omega), ?_⟩
            rw [nI_clamp (by omega), show ka_I h2 (kq_p h2 72 11) q = _ from (hM2.2.2.1.2.2.2.1 q hq).2.1]
            refine km_plain (nI_m1' h1) g1 hM2 w hq (by omega) (by omega) (fun h3 k1 k2 k3 k4 k5 k6 => ⟨k1, ?_⟩)
            refine kq_ci (km_answerAt (nI_cJ x y) k1 k3 w hq (by omega)) k1 ?_
            rw [k4 _ _ (Nat.le_refl _) (by omega), show kAn (kSV (qKy A.2.2.1) (lT A.1 (lE A.1 i)) (qSh A.2.2.1 q ((qNd A.2.2.1 q).length - 1)) (16 * x + y)) = kWv A (qSh A.2.2.1 q ((qNd A.2.2.1 q).length - 1)) (16 * x + y) (nI i) by unfold kWv; rw [lM_n (by omega)], hw]
            refine ⟨fun yy => ⟨fun u => ?_, fun u => ⟨trivial, ?_⟩⟩, fun yy => ?_⟩
            · have := ih (i + 1) (bf + 1) h3 (.int (kWv A (qSh A.2.2.1 q ((qNd A.2.2.1 q).length - 1)) (16 * x + y) (nI i - 1))) (by omega) ((kv_nthN (kWp_T t (fun q => yy q.symm)) u).symm.trans hv) k1 (g2.tr k2.pq)
              rw [nI_succ] at this
              exact kq_seg (fun p => Nat.beq p 34) 10 this
            · have e := eV h3 k1 (g2.tr k2.pq)
              rw [← hv, kv_nthT (kWp_T t (fun q => yy q.symm)) u] at e
              exact e
            · exact nx h3 _ (kWp_F (fun q => q.2 yy.symm)) k1 (g2.tr k2.pq)
          have j73 : kTd2 A.1 A.2.2.1 (qSh A.2.2.1 q ((qNd A.2.2.1 q).length - 1)) (nI i) → kq_ex g 199 227 R 73 [.ref 72, .int (nI q), .int (nI x), .int (nI y), .int kk, .int bf, .int (nI i), z7] [] h' := by
            intro t
            refine kq_seg (fun p => Nat.beq p 111) 30 ⟨fun yy => ?_, fun yy => ⟨nI_in (N := 6) (by omega) (by omega), ?_⟩⟩
            · have i0 : i = 0 := by
                have : ¬ 0 < i := fun z => yy (nI_lt (a := 0) z (by omega))
                omega
              refine j111 h' t f1 f2 _ ?_
              rw [i0]
              unfold kWv
              rw [show nI 0 - 1 = (-1 : Int32) from rfl, lM_m, kSV_z (fun t r => lT_0 t r) _ (fun s' h' => wk s' (by omega)) _ (by omega)]
              rfl
            · have i0 : 0 < i := by
                have := (nI_ltI (a := 0) (b := i) (by omega) (by omega)).mp yy
                omega
              rw [nI_clamp (by omega), show ka_I h' (kq_p h' 72 11) q = _ from (hM'.2.2.1.2.2.2.1 q hq).2.1]
              refine km_plainE (nI_m1' h1) (nI_m1' i0) f1 hM' w hq (by omega) (by omega) (fun h2 g1 g2 g3 g4 g5 g6 => ⟨g1, ?_⟩)
              refine kq_ci (km_answerAt (nI_cJ x y) g1 g3 w hq (by omega)) g1 ?_
              refine j111 h2 t g1 (f2.tr g2.pq) _ ?_
              rw [g4 _ _ (Nat.le_refl _) (by omega), nI_m1' i0]
              unfold kWv
              rw [lM_n (by omega)]
          refine kq_seg (fun p => Nat.beq p 34 || Nat.beq p 73 || Nat.beq p 158) 60 ⟨fun c => ?_, fun _ => ?_⟩
          · rw [show ka_I h' 72 1 = nI (lC A.1) from hM'.1.2.1] at c
            exact absurd (nI_lt (by omega) (by omega)) c
          refine kc_isAnswer f1 hM'.1 hM'.2.2.1 w.2.2.1 hc hq (fun t1 => ⟨f1, ⟨fun y => absurd y (by decide), fun _ => ?_⟩⟩) (fun t => ⟨f1, ⟨fun _ => nx h' z7 (kWp_F (fun u => t u.1.1)) f1 f2, fun y => absurd rfl y⟩⟩)
          refine ⟨fun y => j73 ⟨t1, Or.inl ?_⟩, fun y => ?_⟩
          · have : ¬ 0 < i := fun z => y (nI_lt (a := 0) z (by omega))
            rw [show i = 0 by omega]; rfl
          · refine kc_isAnswer f1 hM'.1 hM'.2.2.1 w.2.2.1 hc hq (fun t2 => ⟨f1, ⟨fun _ => j73 ⟨t1, Or.inr t2⟩, fun y => absurd y (by decide)⟩⟩) (fun t => ⟨f1, ⟨fun y => absurd rfl y, fun _ => nx h' z7 (kWp_F (fun z => z.1.2.elim (fun u => ?_) t)) f1 f2⟩⟩)
            rw [u] at y
            exact absurd y (by decide)
      exact main (lC A.1) 0 0 h _ (by omega) rfl hf kPq.rfl'
    · rw [kp_bF z]
      exact kq_ci (kc_may0 (code := 2) hf h0 (by decide)) (kf_m hf) ⟨fun y => absurd rfl y, fun _ => ⟨trivial, e2 q ⟨ev, hq, hlf⟩ trivial z⟩⟩
end WH
