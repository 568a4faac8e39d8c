/-! ===== way: both sides ===== -/
noncomputable def kWyE (A : kA) (s n : Nat) (x y : Nat) : Prop := 0 < kSV (qKy A.2.2.1) (lT A.1 (lE A.1 n)) s (16 * x + y)
noncomputable def kWyV (A : kA) (s0 s : Nat) (e a b kk : Int32) : Int32 := @ite _ ((qKy A.2.2.1 s).1 = 8 ∧ kTd1 A.1 A.2.2.1 s e) (Classical.propDecidable _) (wW (kWyE A s0 e.toNatClampNeg) b.toNatClampNeg a.toNatClampNeg kk) (Int32.ofInt (-1))
section WZ
variable {A : kA}
theorem kWyV_T {s0 s n x y : Nat} {kk : Int32} (h : (qKy A.2.2.1 s).1 = 8) (t : kTd1 A.1 A.2.2.1 s (nI n)) (hn : n < 2 ^ 31) (hx : x < 16) (hy : y < 16) : kWyV A s0 s (nI n) (nI x) (nI y) kk = wW (kWyE A s0 n) y x kk := by
  unfold kWyV
  rw [if_pos ⟨h, t⟩, nI_clamp hn, nI_clamp (by omega), nI_clamp (by omega)]
theorem kWyV_F {s0 s : Nat} {e a b kk : Int32} (h : ¬ ((qKy A.2.2.1 s).1 = 8 ∧ kTd1 A.1 A.2.2.1 s e)) : kWyV A s0 s e a b kk = Int32.ofInt (-1) := if_neg h
/-- the class's rows of links and steps may be written -/
theorem kcA.e67 {g : Nat × (Nat → Int32)} {h : ka_H} {F G : Nat → Int32} (hf : kf g h) (hC : kcA A h) : kcA A (ka_sF (ka_sF h 66 F) 67 G) := hC.st hf.1 (Nat.le_refl _) (fun _ _ => rfl) (fun _ _ => rfl) (fun a _ _ a3 a4 _ _ => by rw [ka_I_Fn _ _ a4, ka_I_Fn _ _ a3])
/-- the reference walks a way -/
theorem kc_mway {g : Nat × (Nat → Int32)} {d : Nat} {H : ka_H} {R : ka_R → ka_H → Prop} {E : Nat → Nat → Prop} {f a b n k : Nat} {q4 : List Value} {v1 v2 v3 : Value} (hf : kf g H) (hT : f + 256 ≤ 3072) (ha : a < 16) (hb : b < 16) (hE : ∀ x y, x < 16 → y < 16 → (E x y ↔ 0 < ka_I H 96 (f + (16 * x + y)))) (hU : ∀ x, x < 16 → wU E b 17 x (ka_I H 101 x)) (hn : n ≤ 15) (hM : wM E b a n) (hk : k ≤ n) (e : R (kp_ri (nI (wV E b k a n))) H) (z10 z11 : Value) : kq_ex g d 222 R 117 [.ref 72, v1, v2, v3, .int (nI a), .int (nI b), .int (nI k), .int (nI f), .int (nI a), .int (nI 0), z10, z11] [] H := by
  have ix : ∀ x y, nI f + Int32.ofInt 16 * nI x + nI y = nI (f + (16 * x + y)) := fun x y => by rw [Int32.add_assoc, nI_cJ, nI_add]
  have ha1 : ka_I H 101 a = nI (n + 1) := (wU_is (by omega) (by omega) (hU a ha)).mpr hM
  have main : ∀ j i x m z10 z11, i + j = k → i + m = n → x < 16 → wM E b x m → R (kp_ri (nI (wV E b j x m))) H → kq_ex g d 222 R 117 [.ref 72, v1, v2, v3, .int (nI a), .int (nI b), .int (nI k), .int (nI f), .int (nI x), .int (nI i), z10, z11] [] H := by
    intro j
    induction j with
    | zero =>
      intro i x m z10 z11 hi hm hx hMx eR
      have hY := wNx_Y hMx
      refine kq_seg (fun p => Nat.beq p 134) 30 ⟨nI_in (N := 16) ha (by omega), ?_⟩
      rw [nI_clamp (by omega), show ka_I H (kq_p H 72 47) a = _ from ha1]
      have hl : nI (n + 1) - Int32.ofInt 1 - nI i = nI m := by rw [show nI (n + 1) - Int32.ofInt 1 = nI n from nI_m1' (k := n + 1) (by omega), nI_sub (by omega), show n - i = m by omega]
      refine (?_ : kq_ex g d 222 R 134 [.ref 72, v1, v2, v3, .int (nI a), .int (nI b), .int (nI k), .int (nI f), .int (nI x), .int (nI i), .int (nI (n + 1) - Int32.ofInt 1 - nI i), .int (nI 0)] [] H)
      rw [hl]
      have fin : kq_ex g d 222 R 186 [.ref 72, v1, v2, v3, .int (nI a), .int (nI b), .int (nI k), .int (nI f), .int (nI x), .int (nI i), .int (nI m), .int (nI (wNx E b x m))] [] H := by
        refine kq_seg kp_no 20 ⟨fun y => absurd (by rw [show i = k by omega]) y, fun _ => ⟨trivial, ?_⟩⟩
        rw [nI_cJ]
        exact eR
      have sr : ∀ p y, y + p = wNx E b x m → kq_ex g d 222 R 134 [.ref 72, v1, v2, v3, .int (nI a), .int (nI b), .int (nI k), .int (nI f), .int (nI x), .int (nI i), .int (nI m), .int (nI y)] [] H := by
        intro p
        induction p with
        | zero =>
          intro y hy
          have ey : y = wNx E b x m := by omega
          have hY1 := hY.1
          refine kq_seg (fun p => Nat.beq p 134 || Nat.beq p 186) 30 ⟨by rw [ix]; exact nI_in (N := 3072) (by omega) (by omega), ?_⟩
          rw [ix, nI_clamp (by omega), ey]
          refine ⟨fun u => absurd ((hE x _ hx hY1).mp hY.2.1) u, fun _ => ⟨fun u => ⟨nI_in (N := 16) (by omega) (by omega), ?_⟩, fun u => ⟨fun _ => fin, fun w => absurd ?_ w⟩⟩⟩
          · rw [nI_clamp (by omega)]
            refine ⟨fun _ => fin, fun w => absurd ?_ w⟩
            obtain ⟨m', rfl⟩ : ∃ m', m = m' + 1 := ⟨m - 1, by
              have : m ≠ 0 := fun z => u (by rw [z]; rfl)
              omega⟩
            exact (wU_is (by omega) (by omega) (hU _ hY1)).mpr (wM_dn hMx hY1 hY.2.1 hY.2.2.1)
          · have : m = 0 := (nI_eq (b := 0) (by omega) (by omega)).mp u
            have hr := hY.2.2.1
            rw [this] at hr ⊢
            rw [show wNx E b x 0 = b from hr]
        | succ p ihp =>
          intro y hy
          have hY1 := hY.1
          have nx : kq_ex g d 222 R 180 [.ref 72, v1, v2, v3, .int (nI a), .int (nI b), .int (nI k), .int (nI f), .int (nI x), .int (nI i), .int (nI m), .int (nI y)] [] H := by
            have := ihp (y + 1) (by omega)
            rw [nI_succ] at this
            exact kq_seg (fun p => Nat.beq p 134) 10 this
          have hno : E x y → ¬ wR E b m y := fun u => hY.2.2.2 y (by omega) u
          refine kq_seg (fun p => Nat.beq p 134 || Nat.beq p 180 || Nat.beq p 186) 30 ⟨by rw [ix]; exact nI_in (N := 3072) (by omega) (by omega), ?_⟩
          rw [ix, nI_clamp (by omega)]
          refine ⟨fun _ => nx, fun u0 => ⟨fun u => ⟨nI_in (N := 16) (by omega) (by omega), ?_⟩, fun u => ⟨fun w => ?_, fun _ => nx⟩⟩⟩
          · rw [nI_clamp (by omega)]
            refine ⟨fun w => ?_, fun _ => nx⟩
            obtain ⟨m', rfl⟩ : ∃ m', m = m' + 1 := ⟨m - 1, by
              have : m ≠ 0 := fun z => u (by rw [z]; rfl)
              omega⟩
            exact absurd (wM_r ((wU_is (by omega) (by omega) (hU y (by omega))).mp w)) (hno ((hE x y hx (by omega)).mpr u0))
          · have hm0 : m = 0 := (nI_eq (b := 0) (by omega) (by omega)).mp u
            have hyb : y = b := (nI_eq (by omega) (by omega)).mp w
            exact absurd (show wR E b m y by rw [hm0]; exact hyb) (hno ((hE x y hx (by omega)).mpr u0))
      exact sr (wNx E b x m) 0 (by omega)
    | succ j ih =>
      intro i x m z10 z11 hi hm hx hMx eR
      have hY := wNx_Y hMx
      obtain ⟨m', rfl⟩ : ∃ m', m = m' + 1 := ⟨m - 1, by omega⟩
      refine kq_seg (fun p => Nat.beq p 134) 30 ⟨nI_in (N := 16) ha (by omega), ?_⟩
      rw [nI_clamp (by omega), show ka_I H (kq_p H 72 47) a = _ from ha1]
      have hl : nI (n + 1) - Int32.ofInt 1 - nI i = nI (m' + 1) := by rw [show nI (n + 1) - Int32.ofInt 1 = nI n from nI_m1' (k := n + 1) (by omega), nI_sub (by omega), show n - i = m' + 1 by omega]
      refine (?_ : kq_ex g d 222 R 134 [.ref 72, v1, v2, v3, .int (nI a), .int (nI b), .int (nI k), .int (nI f), .int (nI x), .int (nI i), .int (nI (n + 1) - Int32.ofInt 1 - nI i), .int (nI 0)] [] H)
      rw [hl]
      have fin : kq_ex g d 222 R 186 [.ref 72, v1, v2, v3, .int (nI a), .int (nI b), .int (nI k), .int (nI f), .int (nI x), .int (nI i), .int (nI (m' + 1)), .int (nI (wNx E b x (m' + 1)))] [] H := by
        refine kq_seg (fun p => Nat.beq p 117) 20 ⟨fun _ => ?_, fun y => ?_⟩
        · have := ih (i + 1) (wNx E b x (m' + 1)) m' (.int (nI (m' + 1))) (.int (nI (wNx E b x (m' + 1)))) (by omega) (by omega) hY.1 (wM_dn hMx hY.1 hY.2.1 hY.2.2.1) eR
          rw [nI_succ i] at this
          exact this
        · have := (nI_eq (by omega) (by omega)).mp y
          omega
      have sr : ∀ p y, y + p = wNx E b x (m' + 1) → kq_ex g d 222 R 134 [.ref 72, v1, v2, v3, .int (nI a), .int (nI b), .int (nI k), .int (nI f), .int (nI x), .int (nI i), .int (nI (m' + 1)), .int (nI y)] [] H := by
        intro p
        induction p with
        | zero =>
          intro y hy
          have ey : y = wNx E b x (m' + 1) := by omega
          have hY1 := hY.1
          refine kq_seg (fun p => Nat.beq p 134 || Nat.beq p 186) 30 ⟨by rw [ix]; exact nI_in (N := 3072) (by omega) (by omega), ?_⟩
          rw [ix, nI_clamp (by omega), ey]
          refine ⟨fun u => absurd ((hE x _ hx hY1).mp hY.2.1) u, fun _ => ⟨fun u => ⟨nI_in (N := 16) (by omega) (by omega), ?_⟩, fun u => absurd ((nI_eq (b := 0) (by omega) (by omega)).mp u) (by omega)⟩⟩
          rw [nI_clamp (by omega)]
          exact ⟨fun _ => fin, fun w => absurd ((wU_is (by omega) (by omega) (hU _ hY1)).mpr (wM_dn hMx hY1 hY.2.1 hY.2.2.1)) w⟩
        | succ p ihp =>
          intro y hy
          have hY1 := hY.1
          have nx : kq_ex g d 222 R 180 [.ref 72, v1, v2, v3, .int (nI a), .int (nI b), .int (nI k), .int (nI f), .int (nI x), .int (nI i), .int (nI (m' + 1)), .int (nI y)] [] H := by
            have := ihp (y + 1) (by omega)
            rw [nI_succ y] at this
            exact kq_seg (fun p => Nat.beq p 134) 10 this
          have hno : E x y → ¬ wR E b (m' + 1) y := fun u => hY.2.2.2 y (by omega) u
          refine kq_seg (fun p => Nat.beq p 134 || Nat.beq p 180 || Nat.beq p 186) 30 ⟨by rw [ix]; exact nI_in (N := 3072) (by omega) (by omega), ?_⟩
          rw [ix, nI_clamp (by omega)]
          refine ⟨fun _ => nx, fun u0 => ⟨fun u => ⟨nI_in (N := 16) (by omega) (by omega), ?_⟩, fun u => absurd ((nI_eq (b := 0) (by omega) (by omega)).mp u) (by omega)⟩⟩
          rw [nI_clamp (by omega)]
          exact ⟨fun w => absurd (wM_r ((wU_is (by omega) (by omega) (hU y (by omega))).mp w)) (hno ((hE x y hx (by omega)).mpr u0)), fun _ => nx⟩
      exact sr (wNx E b x (m' + 1)) 0 (by omega)
  exact main k 0 a n z10 z11 (by omega) (by omega) ha hM e
theorem kPq.s101 {h : ka_H} {F : Nat → Int32} : kPq h (ka_sF h 101 F) := ⟨⟨rfl, rfl, fun _ => rfl, fun _ => rfl, fun _ => rfl, fun a ha => ka_I_Fn _ _ (by omega)⟩, fun k _ => by rw [ka_I_Fn _ _ (by decide)], fun a a1 a2 a3 a4 a5 a6 => ka_I_Fn _ _ (by omega)⟩
theorem ko_way (w : kWA A) (v u ed a b kk : Int32) : kOx kmp213 200 111 222 [.int v, .int u, .int ed, .int a, .int b, .int kk] A := by
  have hc := w.1.2.1
  have w6 := w.2.2.1.1
  refine ko_gen (v := v) (P1 := fun q => kIsN (qNd A.2.2.1 q).length u) (P2 := kp_row a b) (c2 := 3) (val := fun q => kWyV A (qSh A.2.2.1 q (u.toNatClampNeg - 1)) (qSh A.2.2.1 q u.toNatClampNeg) ed a b kk) w (Or.inr rfl) (Or.inl ⟨rfl, rfl⟩) (fun _ _ => Or.inr (Or.inl ⟨rfl, rfl⟩)) (fun _ => Or.inr (Or.inr ⟨rfl, rfl⟩)) (fun g h R hf hb hC e0 e1 e2 e3 => ?_) (kGm_of (Lc := [.ref 72, .int v, .int u, .int ed, .int a, .int b, .int kk, .retAddr 0, .retAddr 0, .retAddr 0, .retAddr 0, .retAddr 0]) (fun g h R hf k => kq_in hf rfl rfl rfl (kq_seg (fun p => Nat.beq p 5) 10 k)) (fun g h R hf hM h0 e0 e1 e2 e3 => ?_))
  · refine kd_in (d := 199) hf rfl rfl rfl (kd_seg (fun p => Nat.beq p 44) 40 ⟨kK hf rfl rfl, ?_⟩)
    refine kx_q hf hb hC w (fun z => ⟨kf_new hf (by omega), e0 z⟩) (fun sb qb st q q4 ev hq hlf => ⟨hf, ?_⟩)
    refine kx_s hf hb q4 w hq (fun z => ⟨kf_new hf (by omega), e1 q ⟨ev, hq, hlf⟩ z⟩) (fun k eu hk => ⟨hf, ?_⟩)
    have h12 := (w.2.2.1.2.2.2.2 q hq).1.2
    have ecl : u.toNatClampNeg = k := by rw [eu, nI_clamp (by omega)]
    refine kc_cellOf hf (by omega) (fun z => ⟨kf_new hf (by omega), e2 q ⟨ev, hq, hlf⟩ ⟨k, eu, hk⟩ z⟩) (fun z => ⟨hf, ?_⟩)
    obtain ⟨x, y, hx, hy, rfl, rfl, hxy⟩ := kp_rowN z
    obtain ⟨-, hs, cs, h13⟩ := q4.nd w.2.2.1 hq hk
    have eF : ¬ ((qKy A.2.2.1 (qSh A.2.2.1 q k)).1 = 8 ∧ kTd1 A.1 A.2.2.1 (qSh A.2.2.1 q k) ed) → kd_ex g 199 111 R 44 [.ref 1, .int v, .int u, .int ed, .int (nI x), .int (nI y), .int kk, .ref (qb q), .ref (sb (qSh A.2.2.1 q k))] [] h := fun t => by
      have e : R (kp_ri (kWyV A (qSh A.2.2.1 q (u.toNatClampNeg - 1)) (qSh A.2.2.1 q u.toNatClampNeg) ed (nI x) (nI y) kk)) h := e3 q ⟨ev, hq, hlf⟩ ⟨k, eu, hk⟩ z h hf hC kFc.rfl'
      rw [ecl, kWyV_F t] at e
      exact kd_seg kp_no 4 ⟨trivial, e⟩
    refine ⟨cs.K, ?_⟩
    rw [cs.p1 hf]
    refine ⟨⟨(show 1000000 + (qKy A.2.2.1 (qSh A.2.2.1 q k)).1 < 1000014 by omega), by decide⟩, fun y => eF (fun t => y (by rw [t.1])), fun y8 => ⟨kK hf rfl rfl, ?_⟩⟩
    have h8 : (qKy A.2.2.1 (qSh A.2.2.1 q k)).1 = 8 := by
      have : 1000000 + (qKy A.2.2.1 (qSh A.2.2.1 q k)).1 = 1000008 := y8
      omega
    refine kx_told hf hC.1 w q4 hq hk (fun n en hn t => ⟨hf, ⟨fun _ => ⟨kK hf rfl rfl, ⟨kK hf rfl rfl, ?_⟩⟩, fun y => absurd y (by decide)⟩⟩) (fun t => ⟨hf, ⟨fun y => absurd rfl y, fun _ => eF (fun y => t y.2)⟩⟩)
    subst eu
    subst en
    obtain ⟨nx, hnx⟩ := kls_at hk
    have hk8 : nx.1 = 8 := by
      have := ((w.2.2.1.2.2.2.2 q hq).2.2 k nx hnx).2
      rw [this] at h8
      exact h8
    have hk1 : 1 ≤ k := by
      have := ((w.2.2.1.2.2.2.2 q hq).2.1 k nx hnx).2.2.1.2 hk8
      omega
    refine kx_cnt (nI_m1' hk1) hf hC w q4 hq (k := k - 1) (by omega) hn (fun h' st' f1 f2 f3 f4 f5 f6 => ⟨f1, ⟨kK f1 rfl rfl, ?_⟩⟩)
    have e : ∀ F G, R (kp_ri (kWyV A (qSh A.2.2.1 q ((nI k).toNatClampNeg - 1)) (qSh A.2.2.1 q (nI k).toNatClampNeg) (nI n) (nI x) (nI y) kk)) (ka_sF (ka_sF h' 66 F) 67 G) := fun F G => e3 q ⟨ev, hq, hlf⟩ ⟨k, rfl, hk⟩ z _ (kf_F (kf_F f1 66 rfl rfl) 67 rfl rfl) (f3.e67 f1) ⟨by show h'.1 ≤ _; rw [f2.1]; omega, by show h'.2.1 ≤ _; rw [f2.2.1]; omega, fun a a1 a2 => by rw [ka_I_Fn _ _ (by omega), ka_I_Fn _ _ (by omega)]; exact f2.2.2.2.2 a (by omega) (by omega) (by omega)⟩
    rw [nI_clamp (by omega), kWyV_T h8 t (by omega) hx hy] at e
    have hb' := (f4.2.2.1.1 _ (w.2.2.1.sh hq (k := k - 1) (by omega))).1
    refine kc_rowOfWay (E := kWyE A (qSh A.2.2.1 q (k - 1)) n) f1 f5 (by omega) hy hx (fun x' y' h1 h2 => ?_) (fun F G => ⟨kf_F (kf_F f1 66 rfl rfl) 67 rfl rfl, ⟨trivial, e F G⟩⟩)
    rw [f6 _ (by omega)]
    exact Iff.rfl
  · refine kq_seg (fun p => Nat.beq p 57 || Nat.beq p 108 || Nat.beq p 117) 60 ?_
    refine kc_isNode hf h0 hM.2.2.1 w.2.2.1 (fun q k ev hq hlf eu hk => ⟨hf, ⟨fun z => absurd z (by decide), fun _ => ?_⟩⟩) (fun z => ⟨kf_m hf, ⟨fun _ => ⟨trivial, e0 z⟩, fun y => absurd rfl y⟩⟩) (fun q ev hq hlf z => ⟨kf_m hf, ⟨fun _ => ⟨trivial, e1 q ⟨ev, hq, hlf⟩ z⟩, fun y => absurd rfl y⟩⟩)
    have h12 := (w.2.2.1.2.2.2.2 q hq).1.2
    refine kq_ci (kc_isRow hf) hf ?_
    by_cases z : kp_row a b
    · rw [kp_bT z]
      obtain ⟨nx, hnx⟩ := kls_at hk
      subst ev
      subst eu
      have e12 : Int32.ofInt 12 * nI q + nI k = nI (12 * q + k) := by rw [nI_12m, nI_add]
      refine kq_ci (kc_may1 (code := 3) hf h0) hf ⟨fun _ => ⟨by rw [e12]; exact nI_in (N := 72) (by omega) (by omega), ?_⟩, fun y => absurd y (by decide)⟩
      obtain ⟨x, y, hx, hy, rfl, rfl, hxy⟩ := kp_rowN z
      obtain ⟨a1, a2, a3, -⟩ := ((hM.2.2.1.2.2.2.1 q hq).2.2 k nx hnx).1
      obtain ⟨hs, hky⟩ := (w.2.2.1.2.2.2.2 q hq).2.2 k nx hnx
      have key1 : (qKy A.2.2.1 (qSh A.2.2.1 q k)).1 = nx.1 := by rw [hky]; rfl
      have n13 := ((w.2.2.1.2.2.2.2 q hq).2.1 k nx hnx).1.1
      rw [e12, nI_clamp (by omega), show ka_I h (kq_p h 72 12) (12 * q + k) = _ from a1]
      have eF : ¬ ((qKy A.2.2.1 (qSh A.2.2.1 q k)).1 = 8 ∧ kTd1 A.1 A.2.2.1 (qSh A.2.2.1 q k) ed) → kq_ex g 199 222 R 57 [.ref 72, .int (nI q), .int (nI k), .int ed, .int (nI x), .int (nI y), .int kk, .retAddr 0, .retAddr 0, .retAddr 0, .retAddr 0, .retAddr 0] [] h := fun t => by
        have e : R (kp_ri (kWyV A (qSh A.2.2.1 q ((nI k).toNatClampNeg - 1)) (qSh A.2.2.1 q (nI k).toNatClampNeg) ed (nI x) (nI y) kk)) h := e3 q ⟨rfl, hq, hlf⟩ ⟨k, rfl, hk⟩ z h hf kPq.rfl'
        rw [nI_clamp (by omega), kWyV_F t] at e
        exact kq_seg kp_no 4 ⟨trivial, e⟩
      refine ⟨fun y8 => eF (fun t => y8 (by rw [← key1, t.1]; rfl)), fun y8 => ?_⟩
      have h8 : nx.1 = 8 := (nI_eq (b := 8) (by omega) (by omega)).mp y8
      have hk1 : nx.2.2.1 + 1 = k := by
        have := ((w.2.2.1.2.2.2.2 q hq).2.1 k nx hnx).2.2.1.2 h8
        omega
      refine kc_misTold hf hM.1 hM.2.2.1 w.2.2.1 hc hq hk (fun t => ⟨hf, ⟨fun _ => ?_, fun y => absurd y (by decide)⟩⟩) (fun t => ⟨hf, ⟨fun y => absurd rfl y, fun _ => eF (fun y => t y.2)⟩⟩)
      obtain ⟨n, rfl, hn⟩ := t.lt w hs
      refine km_plain rfl hf hM w hq hk hn (fun h' f1 f2 f3 f4 f5 f6 => ⟨f1, ⟨by rw [e12]; exact nI_in (N := 72) (by omega) (by omega), ?_⟩⟩)
      rw [e12, nI_clamp (by omega), show ka_I h' (kq_p h' 72 14) (12 * q + k) = nI (k - 1) from (congrFun (f2.2.2 82 (by omega) (by omega) (by omega) (by omega) (by omega)) _).trans (a3.trans (by rw [if_neg (by omega), show nx.2.2.1 = k - 1 by omega]))]
      have hE : ∀ x' y', x' < 16 → y' < 16 → (kWyE A (qSh A.2.2.1 q (k - 1)) n x' y' ↔ 0 < ka_I h' 96 (256 * (k - 1) + (16 * x' + y'))) := fun x' y' h1 h2 => by
        rw [f4 (k - 1) (16 * x' + y') (by omega) (by omega)]
        exact Iff.rfl
      have hcall := fun R' e' => kc_findSteps (d := 198) (R := R') (f := 256 * (k - 1)) f1 hy (by omega) hE e'
      rw [← nI_256m] at hcall
      refine hcall _ (fun F hF => ⟨kf_F f1 101 rfl rfl, ?_⟩)
      have e : R (kp_ri (kWyV A (qSh A.2.2.1 q ((nI k).toNatClampNeg - 1)) (qSh A.2.2.1 q (nI k).toNatClampNeg) (nI n) (nI x) (nI y) kk)) (ka_sF h' 101 F) := e3 q ⟨rfl, hq, hlf⟩ ⟨k, rfl, hk⟩ z _ (kf_F f1 101 rfl rfl) (f2.pq.tr kPq.s101)
      rw [nI_clamp (by omega), kWyV_T (by rw [key1]; exact h8) t (by omega) hx hy] at e
      have hf2 : kf g (ka_sF h' 101 F) := kf_F f1 101 rfl rfl
      have hE2 : ∀ x' y', x' < 16 → y' < 16 → (kWyE A (qSh A.2.2.1 q (k - 1)) n x' y' ↔ 0 < ka_I (ka_sF h' 101 F) 96 (256 * (k - 1) + (16 * x' + y'))) := fun x' y' h1 h2 => by rw [ka_I_Fn _ _ (by decide)]; exact hE x' y' h1 h2
      have hU2 : ∀ x', x' < 16 → wU (kWyE A (qSh A.2.2.1 q (k - 1)) n) y 17 x' (ka_I (ka_sF h' 101 F) 101 x') := fun x' h1 => by rw [ka_I_F]; exact hF x' h1
      generalize ka_sF h' 101 F = H at e hf2 hE2 hU2
      generalize kWyE A (qSh A.2.2.1 q (k - 1)) n = E at e hE2 hU2
      rw [nI_256m]
      have no : wW E y x kk = -1 → kq_ex g 199 222 R 108 [.ref 72, .int (nI q), .int (nI k), .int (nI n), .int (nI x), .int (nI y), .int kk, .int (nI (256 * (k - 1))), .retAddr 0, .retAddr 0, .retAddr 0, .retAddr 0] [] H := fun hw => by
        rw [hw] at e
        exact kq_seg kp_no 4 ⟨trivial, e⟩
      refine ⟨fun c0 => no (wW_F (fun n k _ _ hk hle => ?_)), fun c0 => ⟨nI_in (N := 16) hx (by omega), ?_⟩⟩
      · have c0' : kk < 0 := c0
        rw [hk] at c0'
        exact absurd c0' (nI_n0 (by omega))
      · obtain ⟨j, hj, rfl⟩ := i32_ge c0
        rw [nI_clamp (by omega)]
        rcases hU2 x hx with ⟨m, m1, m2, m3⟩ | ⟨m1, m2⟩
        · have m15 := wM_15 hy m3 (by omega)
          rw [show ka_I H (kq_p H 72 47) x = _ from m2]
          refine ⟨fun c1 => ?_, fun c1 => no (wW_F (fun n' k' _ hM' hk' hle => ?_))⟩
          · have hjm : j ≤ m := by
              have := (nI_ltI (by omega) (by omega)).mp c1
              omega
            rw [wW_T m15 m3 hjm] at e
            exact kc_mway (q4 := []) hf2 (by omega) hx hy hE2 hU2 m15 m3 hjm e _ _
          · rw [← wM_u m3 hM'] at hle
            have := (nI_eq hj (by omega)).mp hk'
            exact c1 (nI_lt (by omega) (by omega))
        · rw [show ka_I H (kq_p H 72 47) x = _ from m1]
          exact ⟨fun c1 => absurd c1 (nI_n0 hj), fun c1 => no (wW_F (fun n' k' h1 h2 _ => absurd h2 (m2 n' (by omega))))⟩
    · rw [kp_bF z]
      exact kq_ci (kc_may0 (code := 3) hf h0 (by decide)) (kf_m hf) ⟨fun y => absurd rfl y, fun _ => ⟨trivial, e2 q ⟨ev, hq, hlf⟩ ⟨k, eu, hk⟩ z⟩⟩
end WZ
