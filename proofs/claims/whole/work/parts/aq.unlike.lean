/-! ===== changed, since ===== -/
/-- how many rows are unlike -/
def kUn (V W : Nat → Int32) : Nat → Int32 := kp_sum (fun r => kp_b (¬ V r = W r))
theorem kUn_T {V W : Nat → Int32} {k : Nat} (h : V k = W k) : kUn V W (k + 1) = kUn V W k + 0 := by
  show _ + kp_b _ = _
  rw [kp_bF (fun z => z h)]; rfl
theorem kUn_F {V W : Nat → Int32} {k : Nat} (h : ¬ V k = W k) : kUn V W (k + 1) = kUn V W k + 1 := by
  show _ + kp_b _ = _
  rw [kp_bT h]; rfl
theorem kUn_cg {V W V' W' : Nat → Int32} {n : Nat} (h1 : ∀ r, r < n → V r = V' r) (h2 : ∀ r, r < n → W r = W' r) : kUn V W n = kUn V' W' n := kp_sum_cg n (fun r hr => by show kp_b _ = kp_b _; rw [h1 r hr, h2 r hr])
theorem ka_cpy256 (f f' : Nat → Int32) : ka_cpy f f' 0 0 256 = kh_o f' f 256 := by
  funext k
  unfold ka_cpy kh_o
  by_cases c : k < 256
  · rw [if_pos (by omega), if_pos c, Nat.zero_add, Nat.sub_zero]
  · rw [if_neg (by omega), if_neg c]
theorem kcp_ok256 {h : ka_H} {a b : Nat} (ha : kr h a 256) (hb : kr h b 256) : (0 ≤ (Int32.ofInt 0).toInt ∧ 0 ≤ (Int32.ofInt 0).toInt ∧ 0 ≤ (Int32.ofInt 256).toInt ∧ (Int32.ofInt 0).toInt + (Int32.ofInt 256).toInt ≤ kd_z h a ∧ (Int32.ofInt 0).toInt + (Int32.ofInt 256).toInt ≤ kd_z h b) := by
  unfold kd_z
  rw [ha.2, hb.2]
  decide
/-- how many changes an edition takes in; none: the one ahead of the first -/
def lM (L : kAl) (e : Int32) : Nat := if e < 0 then 0 else lE L e.toNatClampNeg
theorem lM_n {L : kAl} {n : Nat} (h : n < 2 ^ 31) : lM L (nI n) = lE L n := by
  unfold lM
  rw [if_neg (nI_n0 h), nI_clamp h]
theorem lM_m {L : kAl} : lM L (-1) = 0 := if_pos (by decide)
section UC
variable {A : kA} {g : Nat × (Nat → Int32)} {d : Nat} {h : ka_H} {R : ka_R → ka_H → Prop} {sb qb st : Nat → Nat} {q k m1 m2 : Nat} {u ed1 ed2 ed : Int32}
theorem kx_cntM {m : Nat} (eu : u = nI k) (hf : kf g h) (hC : kcA A h) (w : kWA A) (q4 : kcq A.1 A.2.2.1 sb qb st h) (hq : q < qQ A.2.2.1) (hk : k < (qNd A.2.2.1 q).length) (hm : kl_end h (lNn A.1) (lC A.1) ed = nI m) (hmz : m ≤ lZ A.1)
    (e : ∀ h' st', kf g h' → kBf h h' → kcA A h' → kcq A.1 A.2.2.1 sb qb st' h' → kr h' (sb (qSh A.2.2.1 q k) + 2) 256 → (∀ r, r < 256 → ka_I h' (sb (qSh A.2.2.1 q k) + 2) r = kSV (qKy A.2.2.1) (lT A.1 m) (qSh A.2.2.1 q k) r) → R (.inl (some (.ref (sb (qSh A.2.2.1 q k) + 2)))) h') : kp_T (d + 6) 135 [.ref 1, .ref (qb q), .int u, .int ed] h R := by
  rw [eu]
  have hs := w.2.2.1.sh hq hk
  refine kc_countsAsOf hf hC.1 w.1 q4 w.2.2.1 hq hk hm hmz (fun h' st' f1 f2 f3 f4 f5 f6 => ?_)
  have q3 := (f4.2.2.2.2.1 _ hs).1.2.1.2.2.1
  exact e h' st' f1 f2 ⟨f2.cl hC.1, f2.ct hC.2.1, f2.cr hC.2.2.1, sb, qb, st', f4⟩ f4 ⟨by rw [q3], by rw [q3]⟩ f5
/-- the class's row of earlier counts may be written -/
theorem kcA.e71 {F : Nat → Int32} (hf : kf g h) (hC : kcA A h) : kcA A (ka_sF h 71 F) := hC.st hf.1 (Nat.le_refl _) (fun _ _ => rfl) (fun _ _ => rfl) (fun a _ _ _ _ a5 _ => ka_I_Fn _ _ a5)
theorem kcq.e71 {F : Nat → Int32} {L : kAl} {Q : kAq} (hf : kf g h) (q4 : kcq L Q sb qb st h) : kcq L Q sb qb st (ka_sF h 71 F) := q4.st hf.1 (Nat.le_refl _) (fun _ _ => rfl) (fun _ _ => rfl) (fun a a1 _ => ka_I_Fn _ _ (by omega)) (fun k _ => by rw [ka_I_Fn _ _ (by decide)]) (ka_I_Fn _ _ (by decide)) (Nat.le_refl _) (fun _ _ => rfl)
theorem kl_end71 {F : Nat → Int32} (n c : Nat) : kl_end (ka_sF h 71 F) n c ed = kl_end h n c ed := by
  unfold kl_end
  rw [ka_I_Fn _ _ (by decide)]
theorem kFc.tr {h h' h'' : ka_H} (a : h'.1 = h.1 ∧ h'.2.1 = h.2.1 ∧ ∀ x, 72 ≤ x → x ≤ 101 → ka_I h' x = ka_I h x) (b : kFc h' h'') : kFc h h'' := ⟨by rw [← a.1]; exact b.1, by rw [← a.2.1]; exact b.2.1, fun x h1 h2 => (b.2.2 x h1 h2).trans (a.2.2 x h1 h2)⟩
theorem kx_unlikeCounts (eu : u = nI k) (hf : kf g h) (hC : kcA A h) (w : kWA A) (q4 : kcq A.1 A.2.2.1 sb qb st h) (hq : q < qQ A.2.2.1) (hk : k < (qNd A.2.2.1 q).length) (hm1 : kl_end h (lNn A.1) (lC A.1) ed1 = nI m1) (hz1 : m1 ≤ lZ A.1) (hm2 : kl_end h (lNn A.1) (lC A.1) ed2 = nI m2) (hz2 : m2 ≤ lZ A.1)
    (e : ∀ h', kf g h' → kcA A h' → kFc h h' → R (kp_ri (kUn (kSV (qKy A.2.2.1) (lT A.1 m1) (qSh A.2.2.1 q k)) (kSV (qKy A.2.2.1) (lT A.1 m2) (qSh A.2.2.1 q k)) 256)) h') : kp_T (d + 7) 138 [.ref 1, .ref (qb q), .int u, .int ed1, .int ed2] h R := by
  refine kd_in hf rfl rfl rfl (kd_seg (fun p => Nat.beq p 35) 40 ⟨kK hf rfl rfl, ?_⟩)
  refine kx_cntM eu hf hC w q4 hq hk hm1 hz1 (fun h' st' f1 f2 f3 f4 f5 f6 => ⟨f1, ⟨kK f1 rfl rfl, ?_⟩⟩)
  have k71 : kr h' 71 256 := ⟨kK f1 rfl rfl, kZ f1 rfl rfl⟩
  refine ⟨f5.1, k71.1, kcp_ok256 f5 k71, ?_⟩
  rw [show ((Int32.ofInt 0).toNatClampNeg) = 0 from rfl, show ((Int32.ofInt 256).toNatClampNeg) = 256 from rfl, ka_cpy256, show kq_p h' 1 7 = 71 from rfl]
  refine ⟨kK f1 rfl rfl, ?_⟩
  have hF : ∀ r, r < 256 → kh_o (ka_I h' 71) (ka_I h' (sb (qSh A.2.2.1 q k) + 2)) 256 r = kSV (qKy A.2.2.1) (lT A.1 m1) (qSh A.2.2.1 q k) r := fun r hr => by rw [kh_o_T _ _ hr]; exact f6 r hr
  generalize kh_o (ka_I h' 71) (ka_I h' (sb (qSh A.2.2.1 q k) + 2)) 256 = F at hF
  have hfF : kf g (ka_sF h' 71 F) := kf_F f1 71 rfl rfl
  refine kx_cntM eu hfF (f3.e71 f1) w (f4.e71 f1) hq hk (by rw [kl_end71, f2.end]; exact hm2) hz2 (fun h2 st2 g1 g2 g3 g4 g5 g6 => ⟨g1, ?_⟩)
  have i71 : ∀ r, r < 256 → ka_I h2 71 r = kSV (qKy A.2.2.1) (lT A.1 m1) (qSh A.2.2.1 q k) r := fun r hr => by
    rw [g2.2.2.2.2 71 (by omega) (by omega) (by omega), ka_I_F]
    exact hF r hr
  have fc : kFc h h2 := kFc.tr (h' := ka_sF h' 71 F) ⟨f2.1, f2.2.1, fun x h1 h2 => by rw [ka_I_Fn _ _ (by omega)]; exact f2.2.2.2.2 x (by omega) (by omega) (by omega)⟩ g2.fc
  have e' := e h2 g1 g3 fc
  generalize kSV (qKy A.2.2.1) (lT A.1 m1) (qSh A.2.2.1 q k) = V at e' i71
  generalize kSV (qKy A.2.2.1) (lT A.1 m2) (qSh A.2.2.1 q k) = W at e' g6
  generalize sb (qSh A.2.2.1 q k) + 2 = c at g5 g6
  have k71' : kr h2 71 256 := ⟨kK g1 rfl rfl, kZ g1 rfl rfl⟩
  have hd := kq_for (P := fun i => kd_ex g (d + 6) 138 R 35 [.ref 1, .ref (qb q), .int u, .int ed1, .int ed2, .ref c, .int (kUn V W i), .int (nI i)] [] h2) 256 ?_ (fun i hi ih => ?_)
  · exact hd
  · exact kd_seg (fun p => Nat.beq p 35) 20 ⟨fun _ => ⟨trivial, e'⟩, fun y => absurd y (nI_nlt (b := 256) (by omega) (by omega))⟩
  · rw [nI_succ] at ih
    refine kd_seg (fun p => Nat.beq p 35) 30 ⟨fun y => absurd (nI_lt (b := 256) hi (by omega)) y, fun _ => ⟨kK g1 rfl rfl, ⟨kr_in k71' hi (by omega), ⟨kr_in g5 hi (by omega), ?_⟩⟩⟩⟩
    rw [nI_clamp (by omega), show ka_I h2 (kq_p h2 1 7) i = V i from i71 i hi, g6 i hi]
    refine ⟨fun y => ?_, fun y => ?_⟩
    · rw [kUn_T y] at ih; exact ih
    · rw [kUn_F y] at ih; exact ih
/-- the reference's row of counts ahead may be written -/
theorem kPq.s98 {F : Nat → Int32} : kPq h (ka_sF h 98 F) := ⟨⟨rfl, rfl, fun _ => rfl, fun _ => rfl, fun _ => rfl, fun a ha => ka_I_Fn _ _ (by omega)⟩, fun k _ => by rw [ka_I_Fn _ _ (by decide)], fun a a1 a2 a3 a4 a5 a6 => ka_I_Fn _ _ a6⟩
theorem km_unlike {e1 e2 : Int32} (eu : u = nI k) (hf : kf g h) (hM : kmA A h) (w : kWA A) (hq : q < qQ A.2.2.1) (hk : k < (qNd A.2.2.1 q).length) (h1 : (e1 = -1 ∧ m1 = 0) ∨ ∃ n, e1 = nI n ∧ n < lC A.1 ∧ m1 = lE A.1 n) (h2 : ∃ n, e2 = nI n ∧ n < lC A.1 ∧ m2 = lE A.1 n)
    (e : ∀ h', kf g h' → kPq h h' → R (kp_ri (kUn (kSV (qKy A.2.2.1) (lT A.1 m1) (qSh A.2.2.1 q k)) (kSV (qKy A.2.2.1) (lT A.1 m2) (qSh A.2.2.1 q k)) 256)) h') : kp_T (d + 6) 215 [.ref 72, .int (nI q), .int u, .int e1, .int e2] h R := by
  have h12 := (w.2.2.1.2.2.2.2 q hq).1.2
  have hs := w.2.2.1.sh hq hk
  have wk := fun s hs => (w.2.2.1.2.2.2.1 s hs).1
  subst eu
  obtain ⟨n2, rfl, hn2, rfl⟩ := h2
  have j73 : ∀ h' z, kf g h' → kPq h h' → (∀ r, r < 256 → ka_I h' 98 r = kSV (qKy A.2.2.1) (lT A.1 m1) (qSh A.2.2.1 q k) r) → kq_ex g (d + 5) 215 R 73 [.ref 72, .int (nI q), .int (nI k), .int e1, .int (nI n2), z, .retAddr 0] [] h' := by
    intro h' z f1 f2 f3
    refine kq_seg (fun p => Nat.beq p 87) 20 ?_
    refine km_plain rfl f1 (f2.ma hM) w hq hk hn2 (fun h2 g1 g2 g3 g4 g5 g6 => ⟨g1, ?_⟩)
    have e' := e h2 g1 (f2.tr g2.pq)
    have i98 : ∀ r, r < 256 → ka_I h2 98 r = kSV (qKy A.2.2.1) (lT A.1 m1) (qSh A.2.2.1 q k) r := fun r hr => by rw [g2.2.2 98 (by omega) (by omega) (by omega) (by omega) (by omega)]; exact f3 r hr
    have g4' := fun r (hr : r < 256) => g4 k r (Nat.le_refl _) hr
    generalize kSV (qKy A.2.2.1) (lT A.1 m1) (qSh A.2.2.1 q k) = V at e' i98
    generalize kSV (qKy A.2.2.1) (lT A.1 (lE A.1 n2)) (qSh A.2.2.1 q k) = W at e' g4'
    have hd := kq_for (P := fun i => kq_ex g (d + 5) 215 R 87 [.ref 72, .int (nI q), .int (nI k), .int e1, .int (nI n2), .int (kUn V W i), .int (nI i)] [] h2) 256 ?_ (fun i hi ih => ?_)
    · exact hd
    · exact kq_seg (fun p => Nat.beq p 87) 20 ⟨fun _ => ⟨trivial, e'⟩, fun y => absurd y (nI_nlt (b := 256) (by omega) (by omega))⟩
    · rw [nI_succ] at ih
      refine kq_seg (fun p => Nat.beq p 87) 40 ⟨fun y => absurd (nI_lt (b := 256) hi (by omega)) y, fun _ => ⟨by rw [nI_256m, nI_add]; exact nI_in (N := 3072) (by omega) (by omega), ⟨nI_in (N := 256) hi (by omega), ?_⟩⟩⟩
      rw [nI_256m, nI_add, nI_clamp (by omega), nI_clamp (by omega), show ka_I h2 (kq_p h2 72 41) (256 * k + i) = W i from g4' i hi, show ka_I h2 (kq_p h2 72 43) i = V i from i98 i hi]
      refine ⟨fun y => ?_, fun y => ?_⟩
      · rw [kUn_T y.symm] at ih; exact ih
      · rw [kUn_F (fun z => y z.symm)] at ih; exact ih
  have j25 : ∀ F, (∀ r, r < 256 → F r = 0) → kq_ex g (d + 5) 215 R 25 [.ref 72, .int (nI q), .int (nI k), .int e1, .int (nI n2), .int (nI 256), .retAddr 0] [] (ka_sF h 98 F) := by
    intro F hF
    have hfF : kf g (ka_sF h 98 F) := kf_F hf 98 rfl rfl
    rcases h1 with ⟨rfl, rfl⟩ | ⟨n1, rfl, hn1, rfl⟩
    · refine kq_seg (fun p => Nat.beq p 73) 10 ⟨fun _ => ?_, fun y => absurd (by decide) y⟩
      refine j73 _ _ hfF kPq.s98 (fun r hr => ?_)
      rw [ka_I_F, hF r hr]
      exact (kSV_z (fun t r => lT_0 t r) _ (fun s' h' => wk s' (by omega)) r hr).symm
    · refine kq_seg (fun p => Nat.beq p 39) 20 ⟨fun y => absurd y (nI_n0 (by have := w.1.2.1; omega)), fun _ => ?_⟩
      refine km_plain rfl hfF (kPq.s98.ma hM) w hq hk hn1 (fun h2 g1 g2 g3 g4 g5 g6 => ⟨g1, ?_⟩)
      have g4' := fun r (hr : r < 256) => g4 k r (Nat.le_refl _) hr
      have hd := kq_for (P := fun i => ∀ G, (∀ r, r < i → G r = kSV (qKy A.2.2.1) (lT A.1 (lE A.1 n1)) (qSh A.2.2.1 q k) r) → kq_ex g (d + 5) 215 R 39 [.ref 72, .int (nI q), .int (nI k), .int (nI n1), .int (nI n2), .int (nI i), .retAddr 0] [] (ka_sF h2 98 G)) 256 ?_ (fun i hi ih G hG => ?_)
      · have := hd (ka_I h2 98) (fun r hr => absurd hr (Nat.not_lt_zero r))
        rw [ka_sF_eta] at this
        exact this
      · intro G hG
        refine kq_seg (fun p => Nat.beq p 39 || Nat.beq p 73) 20 ⟨fun _ => ?_, fun y => absurd y (nI_nlt (b := 256) (by omega) (by omega))⟩
        exact j73 _ _ (kf_F g1 98 rfl rfl) ((kPq.s98.tr g2.pq).tr kPq.s98) (fun r hr => by rw [ka_I_F]; exact hG r hr)
      · rw [nI_succ] at ih
        refine kq_seg (fun p => Nat.beq p 39) 40 ⟨fun y => absurd (nI_lt (b := 256) hi (by omega)) y, fun _ => ⟨by rw [nI_256m, nI_add]; exact nI_in (N := 3072) (by omega) (by omega), ⟨nI_in (N := 256) hi (by omega), ?_⟩⟩⟩
        rw [nI_256m, nI_add, nI_clamp (by omega), nI_clamp (by omega), show ka_I (ka_sF h2 98 G) (kq_p (ka_sF h2 98 G) 72 41) (256 * k + i) = kSV (qKy A.2.2.1) (lT A.1 (lE A.1 n1)) (qSh A.2.2.1 q k) i from (congrFun (ka_I_Fn h2 G (show (96 : Nat) ≠ 98 by decide)) _).trans (g4' i hi)]
        have := ih (kh_u G i (kSV (qKy A.2.2.1) (lT A.1 (lE A.1 n1)) (qSh A.2.2.1 q k) i)) (fun r hr => by
          by_cases z : r = i
          · rw [z, kh_uS]
          · rw [kh_uN _ _ z]; exact hG r (by omega))
        rw [← ka_sI_F] at this
        exact this
  refine kq_in hf rfl rfl rfl (kq_seg (fun p => Nat.beq p 3) 4 ?_)
  have hd := kq_for (P := fun i => ∀ G, (∀ r, r < i → G r = 0) → kq_ex g (d + 5) 215 R 3 [.ref 72, .int (nI q), .int (nI k), .int e1, .int (nI n2), .int (nI i), .retAddr 0] [] (ka_sF h 98 G)) 256 ?_ (fun i hi ih G hG => ?_)
  · have := hd (ka_I h 98) (fun r hr => absurd hr (Nat.not_lt_zero r))
    rw [ka_sF_eta] at this
    exact this
  · intro G hG
    exact kq_seg (fun p => Nat.beq p 3 || Nat.beq p 25) 20 ⟨fun _ => j25 G hG, fun y => absurd y (nI_nlt (b := 256) (by omega) (by omega))⟩
  · rw [nI_succ] at ih
    refine kq_seg (fun p => Nat.beq p 3) 20 ⟨fun y => absurd (nI_lt (b := 256) hi (by omega)) y, fun _ => ⟨nI_in (N := 256) hi (by omega), ?_⟩⟩
    rw [nI_clamp (by omega)]
    have := ih (kh_u G i 0) (fun r hr => by
      by_cases z : r = i
      · rw [z, kh_uS]
      · rw [kh_uN _ _ z]; exact hG r (by omega))
    rw [← ka_sI_F] at this
    exact this
end UC
