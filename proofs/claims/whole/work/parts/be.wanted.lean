/-! ===== wanted ===== -/
noncomputable def kWn (A : kA) (q : Nat) (T : Nat → Nat → Int32) (t r c : Nat) : Bool := decide (0 < kAT A q (tU T t c (T t c + 1)) r)
noncomputable def kWnV (A : kA) (q t r : Nat) (kk : Int32) (T : Nat → Nat → Int32) : Int32 := if 0 < kAT A q T r then -1 else if kk = -1 then nI (kNum (kWn A q T t r) 256) else kv_nth (kWn A q T t r) kk 256 0 0
section WN
variable {A : kA}
theorem kNum_T {p : Nat → Bool} {k : Nat} (h : p k = true) : kNum p (k + 1) = kNum p k + 1 := by
  show kNum p k + _ = _
  rw [if_pos h]
theorem kNum_F {p : Nat → Bool} {k : Nat} (h : ¬ p k = true) : kNum p (k + 1) = kNum p k := by
  show kNum p k + _ = _
  rw [if_neg h]; rfl
theorem ko_wanted (w : kWA A) (v ed a b t kk : Int32) : kOx kmp213 200 115 226 [.int v, .int ed, .int a, .int b, .int t, .int kk] A := by
  have hc := w.1.2.1
  have w6 := w.2.2.1.1
  refine ko_gen (v := v) (P1 := fun _ => kp_tab t) (P2 := kp_row a b) (c2 := 3) (val := fun q => kValT A (qSh A.2.2.1 q ((qNd A.2.2.1 q).length - 1)) ed (kWnV A q t.toNatClampNeg (16 * a.toNatClampNeg + b.toNatClampNeg) kk) (Int32.ofInt (-1))) w (Or.inr rfl) (Or.inl ⟨rfl, rfl⟩) (fun _ _ => Or.inr (Or.inl ⟨rfl, rfl⟩)) (fun _ => Or.inr (Or.inr ⟨rfl, rfl⟩)) (fun g h R hf hb hC e0 e1 e2 e3 => ?_) (kGm_of (Lc := [.ref 72, .int v, .int ed, .int a, .int b, .int t, .int kk, .retAddr 0, .retAddr 0]) (fun g h R hf k => kq_in hf rfl rfl rfl (kq_seg (fun p => Nat.beq p 5) 10 k)) (fun g h R hf hM h0 e0 e1 e2 e3 => ?_))
  · refine kd_in (d := 199) hf rfl rfl rfl (kd_seg (fun p => Nat.beq p 42 || Nat.beq p 61) 60 ⟨kK hf rfl rfl, ?_⟩)
    refine kx_q hf hb hC w (fun z => ⟨kf_new hf (by omega), e0 z⟩) (fun sb qb st q q4 ev hq hlf => ⟨hf, ?_⟩)
    refine kc_reqTable hf (by omega) (fun z => ⟨kf_new hf (by omega), e1 q ⟨ev, hq, hlf⟩ z⟩) (fun z1 => ⟨hf, ?_⟩)
    refine kc_cellOf hf (by omega) (fun z => ⟨kf_new hf (by omega), e2 q ⟨ev, hq, hlf⟩ z1 z⟩) (fun z2 => ⟨hf, ⟨kK hf rfl rfl, ?_⟩⟩)
    obtain ⟨h1, h12⟩ := (w.2.2.1.2.2.2.2 q hq).1
    obtain ⟨t', ht, rfl⟩ := kp_tabN z1
    obtain ⟨a', b', ha, hb', rfl, rfl, hab⟩ := kp_rowN z2
    rw [hab]
    have eV : ∀ h' , kf g h' → kcA A h' → kFc h h' → R (kp_ri (kValT A (qSh A.2.2.1 q ((qNd A.2.2.1 q).length - 1)) ed (kWnV A q t' (16 * a' + b') kk) (Int32.ofInt (-1)))) h' := fun h' f1 f2 f3 => by
      have e : R (kp_ri (kValT A (qSh A.2.2.1 q ((qNd A.2.2.1 q).length - 1)) ed (kWnV A q (nI t').toNatClampNeg (16 * (nI a').toNatClampNeg + (nI b').toNatClampNeg) kk) (Int32.ofInt (-1)))) h' := e3 q ⟨ev, hq, hlf⟩ z1 z2 h' f1 f2 f3
      rw [nI_clamp (by omega), nI_clamp (by omega), nI_clamp (by omega)] at e
      exact e
    have hr : 16 * a' + b' < 256 := by omega
    generalize 16 * a' + b' = r at eV hr
    have j42 : ∀ H z8 z9 z10, R (kp_ri (-1)) H → kd_ex g 199 115 R 42 [.ref 1, .int v, .int ed, .int (nI a'), .int (nI b'), .int (nI t'), .int kk, .ref (qb q), .int (nI r), z8, z9, z10] [] H := fun H z8 z9 z10 e => kd_seg kp_no 4 ⟨trivial, e⟩
    refine kx_toldW hf hC.1 w q4 hq (fun n en hn td => ⟨hf, ⟨fun y => absurd y (by decide), fun _ => ⟨kK hf rfl rfl, ?_⟩⟩⟩) (fun td => ⟨hf, ⟨fun _ => j42 _ _ _ _ ?_, fun y => absurd rfl y⟩⟩)
    · subst en
      have eV' : ∀ h' , kf g h' → kcA A h' → kFc h h' → R (kp_ri (kWnV A q t' r kk (lT A.1 (lE A.1 n)))) h' := fun h' f1 f2 f3 => by
        have e := eV h' f1 f2 f3
        rw [kValT_T td (by omega)] at e
        exact e
      refine kx_answerAsOf hf hC w q4 hq hn hr (fun h' st' f1 f2 f3 f4 => ⟨f1, ?_⟩)
      rw [show kAn (kSV (qKy A.2.2.1) (lT A.1 (lE A.1 n)) (qSh A.2.2.1 q ((qNd A.2.2.1 q).length - 1)) r) = kAT A q (lT A.1 (lE A.1 n)) r from rfl]
      obtain ⟨l1, l2⟩ := kl_endW f3.1 w hn
      refine ⟨fun y => ⟨kK f1 rfl rfl, ?_⟩, fun y => j42 _ _ _ _ ?_⟩
      · have y' : ¬ 0 < kAT A q (lT A.1 (lE A.1 n)) r := y
        refine kc_beginTrialOf f1 f3 w f4 hq ht l1 l2 (fun h2 st2 c W g1 g2 g3 g4 g5 g6 g7 g8 g9 => ⟨g1, ?_⟩)
        have eV2 : ∀ h' , kf g h' → kcA A h' → kFc h h' → R (kp_ri (if kk = -1 then nI (kNum (kWn A q (lT A.1 (lE A.1 n)) t' r) 256) else kv_nth (kWn A q (lT A.1 (lE A.1 n)) t' r) kk 256 0 0)) h' := fun h' f1 f2 f3 => by
          have e := eV' h' f1 f2 f3
          unfold kWnV at e
          rw [if_neg y'] at e
          exact e
        generalize lT A.1 (lE A.1 n) = T0 at eV2 y' g5 g9
        have main : ∀ m i h3, i + m = 256 → kv_nth (kWn A q T0 t' r) kk m (nI (kNum (kWn A q T0 t' r) i)) i = kv_nth (kWn A q T0 t' r) kk 256 0 0 → kf g h3 → kTf A.2.2.1 sb qb h2 h3 → kTI A.2.2.1 sb q T0 h3 → kd_ex g 199 115 R 61 [.ref 1, .int v, .int (nI n), .int (nI a'), .int (nI b'), .int (nI t'), .int kk, .ref (qb q), .int (nI r), .ref c, .int (nI (kNum (kWn A q T0 t' r) i)), .int (nI i)] [] h3 := by
          intro m
          induction m with
          | zero =>
            intro i h3 hi hv k1 k2 k3
            have e := eV2 h3 k1 (k2.ca g3 g4) ((f2.tr g2).tr k2.bf).fc
            have ei : i = 256 := by omega
            refine kd_seg (fun p => Nat.beq p 61) 20 ⟨fun _ => ⟨fun z => ⟨trivial, ?_⟩, fun z => ⟨trivial, ?_⟩⟩, fun y => absurd y (nI_nlt (b := 256) (by omega) (by omega))⟩
            · rw [if_neg (show ¬ kk = -1 from z), ← hv] at e
              exact e
            · rw [if_pos (show kk = -1 from z)] at e
              rw [ei]
              exact e
          | succ m ih =>
            intro i h3 hi hv k1 k2 k3
            have krc : kr h3 c 256 := ⟨by rw [k2.2.2.1]; exact g7.1, by rw [k2.2.2.1]; exact g7.2⟩
            have Wi : ka_I h3 c i = W i := by rw [k2.cc g6]; exact g8 i (by omega)
            have q5 := k2.cq g4
            have hnum := kNum_le2 (p := kWn A q T0 t' r) i
            -- the answer that is tried, and the way back
            have hat : kAT A q (tU T0 t' i (W i + 1)) r = kAT A q (tU T0 t' i (T0 t' i + 1)) r := by
              rcases g9 with ⟨u3, u4⟩ | ⟨u3, u4⟩
              · rw [u4 i (by omega)]
              · exact kAT_use w hq hr (fun t c ut _ => by rw [tU_N _ _ (fun z => u3 (by rw [← z.1]; exact ut)), tU_N _ _ (fun z => u3 (by rw [← z.1]; exact ut))])
            have hbk : ∀ h5, kTI A.2.2.1 sb q (tU (tU T0 t' i (W i + 1)) t' i (W i)) h5 → kTI A.2.2.1 sb q T0 h5 := fun h5 o => by
              rcases g9 with ⟨u3, u4⟩ | ⟨u3, u4⟩
              · rw [tU_back (u4 i (by omega)).symm] at o
                exact o
              · exact o.use w.2.2.1 hq (fun t c ut _ => by rw [tU_N _ _ (fun z => u3 (by rw [← z.1]; exact ut)), tU_N _ _ (fun z => u3 (by rw [← z.1]; exact ut))])
            have j109 : ∀ h4 bf, kf g h4 → kTf A.2.2.1 sb qb h2 h4 → kTI A.2.2.1 sb q (tU T0 t' i (W i + 1)) h4 → bf = nI (kNum (kWn A q T0 t' r) (i + 1)) → kv_nth (kWn A q T0 t' r) kk m (nI (kNum (kWn A q T0 t' r) (i + 1))) (i + 1) = kv_nth (kWn A q T0 t' r) kk 256 0 0 → kd_ex g 199 115 R 109 [.ref 1, .int v, .int (nI n), .int (nI a'), .int (nI b'), .int (nI t'), .int kk, .ref (qb q), .int (nI r), .ref c, .int bf, .int (nI i)] [] h4 := by
              intro h4 bf n1 n2 n3 n4 n5
              have krc4 : kr h4 c 256 := ⟨by rw [n2.2.2.1]; exact g7.1, by rw [n2.2.2.1]; exact g7.2⟩
              refine kd_seg (fun p => Nat.beq p 61) 30 ⟨kr_in krc4 (by omega) (by omega), ⟨kK n1 rfl rfl, ?_⟩⟩
              rw [nI_clamp (by omega), n2.cc g6, g8 i (by omega)]
              refine kc_tryCount n1 (n2.cq g4) w.2.2.1 hq ht (c := i) (by omega) n3 (fun h5 o1 o2 o3 => ⟨o1, ?_⟩)
              have := ih (i + 1) h5 (by omega) n5 o1 (n2.tr o2) (hbk h5 o3)
              rw [nI_succ i, ← n4] at this
              exact this
            refine kd_seg (fun p => Nat.beq p 61 || Nat.beq p 109) 40 ⟨fun y => absurd (nI_lt (b := 256) (by omega) (by omega)) y, fun _ => ⟨kr_in krc (by omega) (by omega), ⟨kK k1 rfl rfl, ?_⟩⟩⟩
            rw [nI_clamp (by omega), Wi]
            refine kc_tryCount k1 q5 w.2.2.1 hq ht (c := i) (v := W i + 1) (by omega) k3 (fun h4 n1 n2 n3 => ⟨n1, ?_⟩)
            refine kq_ci (kc_triedAnswer n1 w ((k2.tr n2).cq g4) hq hr n3) n1 ?_
            rw [hat]
            refine ⟨fun u => ?_, fun u => ⟨fun z => ?_, fun z => ⟨trivial, ?_⟩⟩⟩
            · have hp : ¬ kWn A q T0 t' r i = true := fun x => u (of_decide_eq_true x)
              have hv' := (kv_nthF hp).symm.trans hv
              rw [← kNum_F hp] at hv'
              exact j109 h4 _ n1 (k2.tr n2) n3 (by rw [kNum_F hp]) hv'
            · have hp : kWn A q T0 t' r i = true := decide_eq_true u
              have hv' := (kv_nthN hp z).symm.trans hv
              rw [← nI_succ, ← kNum_T hp] at hv'
              have := j109 h4 _ n1 (k2.tr n2) n3 rfl hv'
              rw [kNum_T hp, nI_succ] at this
              exact this
            · have hp : kWn A q T0 t' r i = true := decide_eq_true u
              have e := eV2 h4 n1 ((k2.tr n2).ca g3 g4) ((f2.tr g2).tr (k2.tr n2).bf).fc
              have z' : nI (kNum (kWn A q T0 t' r) i) = kk := z
              rw [if_neg (by rw [← z']; exact nI_ne_m1 (by omega)), ← hv, kv_nthT hp z'] at e
              exact e
        exact main 256 0 h2 rfl rfl g1 kTf.rfl' g5
      · have e := eV' h' f1 f3 f2.fc
        unfold kWnV at e
        rw [if_pos (show 0 < kAT A q (lT A.1 (lE A.1 n)) r from y)] at e
        exact e
    · have e := eV h hf hC kFc.rfl'
      rw [kValT_F td] at e
      exact e
  · have j37 : ∀ H, R (kp_ri 0) H → kq_ex g 199 226 R 37 [.ref 72, .int v, .int ed, .int a, .int b, .int t, .int kk, .retAddr 0, .retAddr 0] [] H := fun H e => kq_seg kp_no 4 ⟨trivial, e⟩
    refine kq_seg (fun p => Nat.beq p 37 || Nat.beq p 87) 90 ?_
    refine kc_isQuestion hf h0 hM.2.2.1 w6 (fun q ev hq hlf => ⟨hf, ⟨fun z => absurd z (by decide), fun _ => ?_⟩⟩) (fun z => ⟨kf_m hf, ⟨fun _ => j37 _ (e0 z), fun y => absurd rfl y⟩⟩)
    obtain ⟨h1, h12⟩ := (w.2.2.1.2.2.2.2 q hq).1
    refine kq_ci (kc_isTable (code := 2) hf h0 (by decide)) (kf_mh hf) ?_
    by_cases z1 : kp_tab t
    · rw [kp_bT (show 0 ≤ t ∧ t ≤ 3 from z1), show kp_mh (0 ≤ t ∧ t ≤ 3) 2 h = h from if_pos z1]
      refine ⟨fun z => absurd z (by decide), fun _ => ?_⟩
      refine kq_ci (kc_isRow hf) hf ?_
      by_cases z2 : kp_row a b
      · rw [kp_bT z2]
        refine kq_ci (kc_may1 (code := 3) hf h0) hf ⟨fun _ => ?_, fun y => absurd y (by decide)⟩
        subst ev
        obtain ⟨t', ht, rfl⟩ := kp_tabN z1
        obtain ⟨a', b', ha, hb', rfl, rfl, hab⟩ := kp_rowN z2
        have eV : ∀ h', kf g h' → kPq h h' → R (kp_ri (kValT A (qSh A.2.2.1 q ((qNd A.2.2.1 q).length - 1)) ed (kWnV A q t' (16 * a' + b') kk) (Int32.ofInt (-1)))) h' := fun h' f1 f2 => by
          have e : R (kp_ri (kValT A (qSh A.2.2.1 q ((qNd A.2.2.1 q).length - 1)) ed (kWnV A q (nI t').toNatClampNeg (16 * (nI a').toNatClampNeg + (nI b').toNatClampNeg) kk) (Int32.ofInt (-1)))) h' := e3 q ⟨rfl, hq, hlf⟩ z1 z2 h' f1 f2
          rw [nI_clamp (by omega), nI_clamp (by omega), nI_clamp (by omega)] at e
          exact e
        refine kc_isAnswer hf hM.1 hM.2.2.1 w.2.2.1 hc hq (fun td => ⟨hf, ⟨fun _ => ?_, fun y => absurd y (by decide)⟩⟩) (fun td => ⟨hf, ⟨fun y => absurd rfl y, fun _ => ⟨trivial, ?_⟩⟩⟩)
        · obtain ⟨n, rfl, hn⟩ := td.lt w (w.2.2.1.sh hq (by omega))
          refine ⟨nI_in (N := 6) (by omega) (by omega), ?_⟩
          rw [nI_clamp (by omega), show ka_I h (kq_p h 72 11) q = _ from (hM.2.2.1.2.2.2.1 q hq).2.1]
          refine km_plain (nI_m1' h1) hf hM w hq (by omega) hn (fun h' f1 f2 f3 f4 f5 f6 => ⟨f1, ?_⟩)
          refine kq_ci (km_answerAt (nI_cJ a' b') f1 f3 w hq (by omega)) f1 ?_
          rw [f4 _ _ (Nat.le_refl _) (by omega), show kAn (kSV (qKy A.2.2.1) (lT A.1 (lE A.1 n)) (qSh A.2.2.1 q ((qNd A.2.2.1 q).length - 1)) (16 * a' + b')) = kAT A q (lT A.1 (lE A.1 n)) (16 * a' + b') from rfl]
          refine ⟨fun y => ?_, fun y => ⟨trivial, ?_⟩⟩
          · have eV2 : ∀ h', kf g h' → kPq h h' → R (kp_ri (if kk = -1 then nI (kNum (kWn A q (lT A.1 (lE A.1 n)) t' (16 * a' + b')) 256) else kv_nth (kWn A q (lT A.1 (lE A.1 n)) t' (16 * a' + b')) kk 256 0 0)) h' := fun h' f1 f2 => by
              have e := eV h' f1 f2
              rw [kValT_T td (by omega)] at e
              unfold kWnV at e
              rw [if_neg (show ¬ 0 < kAT A q (lT A.1 (lE A.1 n)) (16 * a' + b') from y)] at e
              exact e
            have hpe : ∀ c, kWn A q (lT A.1 (lE A.1 n)) t' (16 * a' + b') c = decide (0 < kAT A q (tU (lT A.1 (lE A.1 n)) t' c (lT A.1 (lE A.1 n) t' c + 1)) (16 * a' + b')) := fun c => rfl
            have main : ∀ m i h3, i + m = 256 → kv_nth (kWn A q (lT A.1 (lE A.1 n)) t' (16 * a' + b')) kk m (nI (kNum (kWn A q (lT A.1 (lE A.1 n)) t' (16 * a' + b')) i)) i = kv_nth (kWn A q (lT A.1 (lE A.1 n)) t' (16 * a' + b')) kk 256 0 0 → kf g h3 → kPq h h3 → (∀ r, r < 1024 → ka_I h3 95 r = 0) → kq_ex g 199 226 R 87 [.ref 72, .int (nI q), .int (nI n), .int (nI a'), .int (nI b'), .int (nI t'), .int kk, .int (nI (kNum (kWn A q (lT A.1 (lE A.1 n)) t' (16 * a' + b')) i)), .int (nI i)] [] h3 := by
              intro m
              induction m with
              | zero =>
                intro i h3 hi hv k1 k2 k3
                have e := eV2 h3 k1 k2
                have ei : i = 256 := by omega
                refine kq_seg (fun p => Nat.beq p 87) 20 ⟨fun _ => ⟨fun z => ⟨trivial, ?_⟩, fun z => ⟨trivial, ?_⟩⟩, fun y => absurd y (nI_nlt (b := 256) (by omega) (by omega))⟩
                · rw [if_neg (show ¬ kk = -1 from z), ← hv] at e
                  exact e
                · rw [if_pos (show kk = -1 from z)] at e
                  rw [ei]
                  exact e
              | succ m ih =>
                intro i h3 hi hv k1 k2 k3
                have hM3 := k2.ma hM
                have hnum := kNum_le2 (p := kWn A q (lT A.1 (lE A.1 n)) t' (16 * a' + b')) i
                have ix : Int32.ofInt 256 * nI t' + nI i = nI (256 * t' + i) := by rw [nI_256m, nI_add]
                refine kq_seg (fun p => Nat.beq p 87 || Nat.beq p 108) 60 ⟨fun y => absurd (nI_lt (b := 256) (by omega) (by omega)) y, fun _ => ?_⟩
                refine (?_ : kq_ex g 199 226 R 108 [.ref 72, .int (nI q), .int (nI n), .int (nI a'), .int (nI b'), .int (nI t'), .int kk, .int (nI (kNum (kWn A q (lT A.1 (lE A.1 n)) t' (16 * a' + b')) i)), .int (nI i)] [] (ka_sI h3 72 40 (Int32.ofInt 256 * nI t' + nI i)))
                rw [ix]
                have hfS : kf g (ka_sI h3 72 40 (nI (256 * t' + i))) := kf_m k1
                refine kq_seg (fun p => Nat.beq p 87) 60 ?_
                refine km_now (T := tU (lT A.1 (lE A.1 n)) t' i (lT A.1 (lE A.1 n) t' i + 1)) (nI_cJ a' b') hfS (kPq.s40.ma hM3) w hq hn (by omega) (Or.inr ⟨256 * t' + i, by omega, ka_IS _ _ _ _⟩) (fun t c h4 h5 => ?_) (fun h4 g1 g2 g3 g4 => ⟨g1, ?_⟩)
                · rw [ka_IS, kI_o _ _ _ (by decide), if_pos (k3 _ (by omega))]
                  by_cases z : t = t' ∧ c = i
                  · rw [z.1, z.2, tU_S, if_pos rfl]
                  · rw [tU_N _ _ z, if_neg (fun u => z (by have := (nI_eq (by omega) (by omega)).mp u; omega)), Int32.add_zero]
                · have p2 : kPq h h4 := (k2.tr kPq.s40).tr g2.pq
                  have p3 : ∀ r, r < 1024 → ka_I h4 95 r = 0 := fun r hr => by rw [g3, kI_o _ _ _ (by decide)]; exact k3 r hr
                  refine ⟨fun u => ⟨fun z => ?_, fun z => ⟨trivial, ?_⟩⟩, fun u => ?_⟩
                  · have hp : kWn A q (lT A.1 (lE A.1 n)) t' (16 * a' + b') i = true := by
                      rw [hpe]
                      exact decide_eq_true (Classical.byContradiction fun x => u (by
                        unfold kAT at x ⊢
                        exact kAn_F (fun y => x (kAn_p.mpr y))))
                    have hv' := (kv_nthN hp z).symm.trans hv
                    rw [← nI_succ, ← kNum_T hp] at hv'
                    have := ih (i + 1) h4 (by omega) hv' g1 p2 p3
                    rw [kNum_T hp, nI_succ, nI_succ i] at this
                    exact this
                  · have hp : kWn A q (lT A.1 (lE A.1 n)) t' (16 * a' + b') i = true := by
                      rw [hpe]
                      exact decide_eq_true (Classical.byContradiction fun x => u (by
                        unfold kAT at x ⊢
                        exact kAn_F (fun y => x (kAn_p.mpr y))))
                    have e := eV2 h4 g1 p2
                    have z' : nI (kNum (kWn A q (lT A.1 (lE A.1 n)) t' (16 * a' + b')) i) = kk := z
                    rw [if_neg (by rw [← z']; exact nI_ne_m1 (by omega)), ← hv, kv_nthT hp z'] at e
                    exact e
                  · have hp : ¬ kWn A q (lT A.1 (lE A.1 n)) t' (16 * a' + b') i = true := by
                      rw [hpe]
                      intro x
                      have x' := of_decide_eq_true x
                      have u' : kAT A q (tU (lT A.1 (lE A.1 n)) t' i (lT A.1 (lE A.1 n) t' i + 1)) (16 * a' + b') = 0 := u
                      rw [u'] at x'
                      exact absurd x' (by decide)
                    have hv' := (kv_nthF hp).symm.trans hv
                    rw [← kNum_F hp] at hv'
                    have := ih (i + 1) h4 (by omega) hv' g1 p2 p3
                    rw [kNum_F hp, nI_succ i] at this
                    exact this
            exact main 256 0 h' rfl rfl f1 f2.pq f5
          · have e := eV h' f1 f2.pq
            rw [kValT_T td (by omega)] at e
            unfold kWnV at e
            rw [if_pos (show 0 < kAT A q (lT A.1 (lE A.1 n)) (16 * a' + b') from y)] at e
            exact e
        · have e := eV h hf kPq.rfl'
          rw [kValT_F td] at e
          exact e
      · rw [kp_bF z2]
        exact kq_ci (kc_may0 (code := 3) hf h0 (by decide)) (kf_m hf) ⟨fun y => absurd rfl y, fun _ => j37 _ (e2 q ⟨ev, hq, hlf⟩ z1 z2)⟩
    · rw [kp_bF (show ¬ (0 ≤ t ∧ t ≤ 3) from z1), show kp_mh (0 ≤ t ∧ t ≤ 3) 2 h = ka_sI h 72 0 2 from if_neg z1]
      exact ⟨fun _ => j37 _ (e1 q ⟨ev, hq, hlf⟩ z1), fun y => absurd rfl y⟩
end WN
