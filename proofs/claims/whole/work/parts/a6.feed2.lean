/-! ===== feed, fault, back, told: both sides ===== -/
def kFa (a b c d e : Int32) (j : Nat) : Int32 := if j < 4 then a else if j < 8 then b else if j < 12 then c else if j < 16 then d else e
def kBy (a b c d e : Int32) (j : Nat) : Int32 := lB (kFa a b c d e j) (j % 4)
section F2
variable {g : Nat × (Nat → Int32)} {d : Nat} {h : ka_H} {R : ka_R → ka_H → Prop}
theorem kc_xfeed {F : Nat} {a b c e f : Int32} (hf : kf g h) (hF : ka_I h 9 1 = nI F) (hF4 : F ≤ 200) (e0 : 200 < F + 20 → R (kp_ri (-1)) h) (e1 : F + 20 ≤ 200 → ∀ h1 h2 h3 h4 h5, kPt h h1 F a → kPt h1 h2 (F + 4) b → kPt h2 h3 (F + 8) c → kPt h3 h4 (F + 12) e → kPt h4 h5 (F + 16) f → kf g h5 → R (kp_ri (nI (F + 20))) h5) : kp_T (d + 2) 88 [.ref 1, .int a, .int b, .int c, .int e, .int f] h R := by
  have hs : ka_I h 9 1 + 20 = nI (F + 20) := by rw [hF, ← nI_add]; rfl
  refine kq_in hf rfl rfl rfl (kq_seg kp_no 40 ⟨fun z => ?_, fun z => ⟨trivial, e0 ?_⟩⟩)
  · have h20 : F + 20 ≤ 200 := by
      rcases Nat.lt_or_ge 200 (F + 20) with y | y
      · exact absurd (show (200 : Int32) < ka_I h 9 1 + 20 by rw [hs]; exact nI_lt (a := 200) y (by omega)) z
      · exact y
    refine kc_tput hf hF (by omega) (fun h1 f1 p1 => ⟨f1, ?_⟩)
    refine kc_tput f1 p1.2.2.2.2.2.2.1 (by omega) (fun h2 f2 p2 => ⟨f2, ?_⟩)
    refine kc_tput f2 p2.2.2.2.2.2.2.1 (by omega) (fun h3 f3 p3 => ⟨f3, ?_⟩)
    refine kc_tput f3 p3.2.2.2.2.2.2.1 (by omega) (fun h4 f4 p4 => ⟨f4, ?_⟩)
    refine kc_tput f4 p4.2.2.2.2.2.2.1 (by omega) (fun h5 f5 p5 => ⟨f5, ?_⟩)
    refine ⟨trivial, ?_⟩
    show R (kp_ri (ka_I h5 9 1)) h5
    rw [p5.2.2.2.2.2.2.1]
    exact e1 h20 h1 h2 h3 h4 h5 p1 p2 p3 p4 p5 f5
  · have z' : (200 : Int32) < ka_I h 9 1 + 20 := z
    rw [hs] at z'
    exact (nI_ltI (a := 200) (by omega) (by omega)).mp z'
theorem kc_feed {F : Nat} {a b c e f : Int32} (hf : kf g h) (hF : ka_I h 72 21 = nI F) (hF4 : F ≤ 200) (e0 : 200 < F + 20 → R (kp_ri (-1)) (km_0 h)) (e1 : F + 20 ≤ 200 → R (kp_ri (nI (F + 20))) (ka_sI (ka_sF (km_0 h) 89 (kh_b (ka_I h 89) F (kBy a b c e f) 20)) 72 21 (nI (F + 20)))) : kp_T (d + 1) 161 [.ref 72, .int a, .int b, .int c, .int e, .int f] h R := by
  have hs : ka_I h 72 21 + 20 = nI (F + 20) := by rw [hF, ← nI_add]; rfl
  have s2 : ∀ j, j < 20 → (24 : Int32) - 8 * (nI j - nI j / Int32.ofInt 4 * Int32.ofInt 4) = nI 24 - nI (8 * (j % 4)) := by decide +kernel
  have hf0 : kf g (km_0 h) := kf_m hf
  have i89 : ka_I (km_0 h) 89 = ka_I h 89 := kI_o _ _ _ (by decide)
  have fk : ∀ j, kf g (ka_sI (ka_sF (km_0 h) 89 (kh_b (ka_I h 89) F (kBy a b c e f) j)) 72 21 (nI (F + j))) := fun j => kf_w (kf_F hf0 89 rfl rfl) 72 rfl rfl
  have main : F + 20 ≤ 200 → ∀ z, kq_ex g d 161 R 23 [.ref 72, .int a, .int b, .int c, .int e, .int f, .int (nI 0), z] [] (km_0 h) := fun h20 => by
    have hd := kq_for (P := fun j => ∀ z, kq_ex g d 161 R 23 [.ref 72, .int a, .int b, .int c, .int e, .int f, .int (nI j), z] [] (ka_sI (ka_sF (km_0 h) 89 (kh_b (ka_I h 89) F (kBy a b c e f) j)) 72 21 (nI (F + j)))) 20 (fun z => ?_) (fun j hj ih z => ?_)
    · rw [kh_b_0, ← i89, ka_sF_eta, show ka_sI (km_0 h) 72 21 (nI (F + 0)) = km_0 h from by rw [Nat.add_zero, ← hF]; unfold ka_sI; rw [show ka_u (km_0 h).2.2.2.1 72 21 (ka_I h 72 21) = (km_0 h).2.2.2.1 from ka_u_id rfl]] at hd
      exact hd
    · refine kq_seg (fun p => Nat.beq p 23) 80 ⟨fun _ => ⟨trivial, e1 h20⟩, fun c => absurd c (by decide)⟩
    · generalize hH : ka_sI (ka_sF (km_0 h) 89 (kh_b (ka_I h 89) F (kBy a b c e f) j)) 72 21 (nI (F + j)) = H
      have i21 : ka_I H 72 21 = nI (F + j) := by rw [← hH]; exact ka_IS _ _ _ _
      have tail : ∀ x, kFa a b c e f j = x → kq_ex g d 161 R 76 [.ref 72, .int a, .int b, .int c, .int e, .int f, .int (nI j), z] [.int x] H := by
        intro x hx
        refine kq_seg (fun p => Nat.beq p 23) 60 ⟨by decide, ⟨(show vp_in (ka_I H 72 21) 200 by rw [i21]; exact nI_in (by omega) (by omega)), ?_⟩⟩
        rw [i21, nI_clamp (by omega)]
        have e1' : ka_I (ka_sI H (kq_p H 72 29) (F + j) (x >>> ((24 : Int32) - 8 * (nI j - nI j / Int32.ofInt 4 * Int32.ofInt 4) &&& 31) &&& 255)) 72 21 + 1 = nI (F + (j + 1)) := by
          rw [show ka_I (ka_sI H (kq_p H 72 29) (F + j) (x >>> ((24 : Int32) - 8 * (nI j - nI j / Int32.ofInt 4 * Int32.ofInt 4) &&& 31) &&& 255)) 72 21 = nI (F + j) from i21, ← nI_succ]
          rfl
        have e2 : ka_sI (ka_sI H (kq_p H 72 29) (F + j) (x >>> ((24 : Int32) - 8 * (nI j - nI j / Int32.ofInt 4 * Int32.ofInt 4) &&& 31) &&& 255)) 72 21 (nI (F + (j + 1))) = ka_sI (ka_sF (km_0 h) 89 (kh_b (ka_I h 89) F (kBy a b c e f) (j + 1))) 72 21 (nI (F + (j + 1))) := by
          have hv : (x >>> ((24 : Int32) - 8 * (nI j - nI j / Int32.ofInt 4 * Int32.ofInt 4) &&& 31) &&& 255) = kBy a b c e f j := by
            rw [s2 j hj]
            unfold kBy
            rw [hx]
            rfl
          rw [hv, show kq_p H 72 29 = 89 from rfl, ← hH]
          rw [← kh_b_s (ka_I h 89) F (kBy a b c e f) j rfl, ← ka_sI_F]
          generalize ka_sF (km_0 h) 89 (kh_b (ka_I h 89) F (kBy a b c e f) j) = H0
          unfold ka_sI
          refine Prod.ext rfl (Prod.ext rfl (Prod.ext rfl (Prod.ext ?_ rfl)))
          funext p k
          show ka_u (ka_u (ka_u H0.2.2.2.1 72 21 (nI (F + j))) 89 (F + j) (kBy a b c e f j)) 72 21 (nI (F + (j + 1))) p k = ka_u (ka_u H0.2.2.2.1 89 (F + j) (kBy a b c e f j)) 72 21 (nI (F + (j + 1))) p k
          unfold ka_u
          by_cases c1 : p = 72
          · subst c1
            by_cases c2 : k = 21
            · simp [c2]
            · simp [c2]
          · by_cases c2 : p = 89
            · subst c2; simp
            · simp [c1, c2]
        have := ih (.int x)
        rw [← e2, ← e1', nI_succ] at this
        exact this
      refine kq_seg (fun p => Nat.beq p 23 || Nat.beq p 76) 60 ⟨fun c => absurd (nI_lt (b := 20) hj (by omega)) c, fun _ => ⟨fun c => ?_, fun c => ?_⟩⟩
      · have c4 : ¬ j < 4 := fun y => c (nI_lt (b := 4) y (by omega))
        refine ⟨fun c => ?_, fun c => ?_⟩
        · have c8 : ¬ j < 8 := fun y => c (nI_lt (b := 8) y (by omega))
          refine ⟨fun c => ?_, fun c => ?_⟩
          · have c12 : ¬ j < 12 := fun y => c (nI_lt (b := 12) y (by omega))
            refine ⟨fun c => ?_, fun c => ?_⟩
            · have c16 : ¬ j < 16 := fun y => c (nI_lt (b := 16) y (by omega))
              exact tail f (by unfold kFa; rw [if_neg c4, if_neg c8, if_neg c12, if_neg c16])
            · have c16 := (nI_ltI (b := 16) (by omega) (by omega)).mp c
              exact tail e (by unfold kFa; rw [if_neg c4, if_neg c8, if_neg c12, if_pos c16])
          · have c12 := (nI_ltI (b := 12) (by omega) (by omega)).mp c
            exact tail _ (by unfold kFa; rw [if_neg c4, if_neg c8, if_pos c12])
        · have c8 := (nI_ltI (b := 8) (by omega) (by omega)).mp c
          exact tail _ (by unfold kFa; rw [if_neg c4, if_pos c8])
      · have c4 := (nI_ltI (b := 4) (by omega) (by omega)).mp c
        exact tail _ (by unfold kFa; rw [if_pos c4])
  refine kq_in hf rfl rfl rfl (kq_seg (fun p => Nat.beq p 23) 40 ⟨fun z => ?_, fun z => ⟨trivial, e0 ?_⟩⟩)
  · have h20 : F + 20 ≤ 200 := by
      rcases Nat.lt_or_ge 200 (F + 20) with y | y
      · exact absurd (show (200 : Int32) < ka_I h 72 21 + 20 by rw [hs]; exact nI_lt (a := 200) y (by omega)) z
      · exact y
    exact main h20 _
  · have z' : (200 : Int32) < ka_I h 72 21 + 20 := z
    rw [hs] at z'
    exact (nI_ltI (a := 200) (by omega) (by omega)).mp z'
theorem kc_back {n : Nat} (hf : kf g h) (hn : ka_I h 72 2 = nI n) (hn4 : n ≤ 400) (e0 : n = 0 ∨ (1 ≤ n ∧ ka_I h 76 (n - 1) ≠ ka_I h 72 1) → R (kp_ri 0) (km_0 h)) (e1 : 1 ≤ n → ka_I h 76 (n - 1) = ka_I h 72 1 → R (kp_ri 1) (ka_sI (km_0 h) 72 2 (nI (n - 1)))) : kp_T (d + 1) 233 [.ref 72] h R := by
  have j30 : (n = 0 ∨ (1 ≤ n ∧ ka_I h 76 (n - 1) ≠ ka_I h 72 1)) → kq_ex g d 233 R 30 [.ref 72] [] (km_0 h) := fun c => kq_seg kp_no 10 ⟨trivial, e0 c⟩
  refine kq_in hf rfl rfl rfl (kq_seg (fun p => Nat.beq p 30) 40 ⟨fun z => ?_, fun z => ?_⟩)
  · refine j30 (Or.inl ?_)
    have z' : ka_I h 72 2 = nI 0 := z
    rw [hn] at z'
    exact (nI_eq (by omega) (by omega)).mp z'
  · have h1 : 1 ≤ n := by
      rcases Nat.eq_zero_or_pos n with y | y
      · exact absurd (show ka_I h 72 2 = 0 by rw [hn, y]; rfl) z
      · exact y
    have hm : ka_I h 72 2 - 1 = nI (n - 1) := by rw [hn]; exact nI_m1' h1
    refine ⟨(show vp_in (ka_I h 72 2 - 1) 400 by rw [hm]; exact nI_in (by omega) (by omega)), ?_⟩
    rw [show ka_I (ka_sI h 72 0 (Int32.ofInt 0)) 72 2 - Int32.ofInt 1 = nI (n - 1) from hm, nI_clamp (by omega)]
    refine ⟨fun y => ?_, fun y => j30 (Or.inr ⟨h1, y⟩)⟩
    have := e1 h1 y
    rw [← hm] at this
    exact ⟨trivial, this⟩
end F2
section F3
variable {A : kA}
theorem ko_feed (w : kWA A) (a b c d e : Int32) : kOx (fun _ _ => False) 200 88 161 [.int a, .int b, .int c, .int d, .int e] A := by
  have hF := w.2.1.1
  by_cases c1 : tF A.2.1 + 20 ≤ 200
  · refine ⟨(A.1, (tF A.2.1 + 20, kh_b (tP A.2.1) (tF A.2.1) (kBy a b c d e) 20, tA A.2.1), A.2.2), 0, 0, nI (tF A.2.1 + 20), ⟨w.1, ⟨c1, fun k hk => ?_⟩, w.2.2⟩, fun z => absurd rfl z, fun g h R hf hb hC e0 e1 => ?_, fun g h R hf hM e3 => ?_⟩
    · show ∃ c', c' < 256 ∧ kh_b (tP A.2.1) (tF A.2.1) (kBy a b c d e) 20 k = nI c'
      unfold kh_b
      by_cases z : tF A.2.1 ≤ k ∧ k < tF A.2.1 + 20
      · rw [if_pos z]
        exact kv_and255 _
      · rw [if_neg z]
        have hk' : k < tF A.2.1 + 20 := hk
        exact w.2.1.2 k (by omega)
    · refine kc_xfeed (d := 198) hf hC.2.1.1 hF (fun z => by omega) (fun _ h1 h2 h3 h4 h5 p1 p2 p3 p4 p5 f5 => ?_)
      obtain ⟨q1, ⟨t1, t2, t3⟩, q3, sb, qb, st, q4⟩ := hC
      have oth : ∀ a, a ≠ 9 → a ≠ 10 → ka_I h5 a = ka_I h a := fun a a1 a2 => by
        rw [p5.2.2.2.2.1 a a1 a2, p4.2.2.2.2.1 a a1 a2, p3.2.2.2.2.1 a a1 a2, p2.2.2.2.2.1 a a1 a2, p1.2.2.2.2.1 a a1 a2]
      have o9 : ∀ k, k ≠ 1 → ka_I h5 9 k = ka_I h 9 k := fun k hk => by
        rw [p5.2.2.2.2.2.1 k hk, p4.2.2.2.2.2.1 k hk, p3.2.2.2.2.2.1 k hk, p2.2.2.2.2.2.1 k hk, p1.2.2.2.2.2.1 k hk]
      have o10 : ka_I h5 10 = kh_b (ka_I h 10) (tF A.2.1) (kBy a b c d e) 20 := by
        rw [p5.2.2.2.2.2.2.2, p4.2.2.2.2.2.2.2, p3.2.2.2.2.2.2.2, p2.2.2.2.2.2.2.2, p1.2.2.2.2.2.2.2]
        funext k
        unfold kh_b kBy kFa
        generalize tF A.2.1 = F
        by_cases z : F ≤ k ∧ k < F + 20
        · obtain ⟨j, rfl⟩ : ∃ j, k = F + j := ⟨k - F, by omega⟩
          have hj : j < 20 := by omega
          rw [if_pos z]
          rcases (by omega : j < 4 ∨ (4 ≤ j ∧ j < 8) ∨ (8 ≤ j ∧ j < 12) ∨ (12 ≤ j ∧ j < 16) ∨ 16 ≤ j) with y | y | y | y | y
          · rw [if_neg (by omega), if_neg (by omega), if_neg (by omega), if_neg (by omega), if_pos (by omega), if_pos (by omega)]
            congr 1
            omega
          · rw [if_neg (by omega), if_neg (by omega), if_neg (by omega), if_pos (by omega), if_neg (by omega), if_pos (by omega)]
            congr 1
            omega
          · rw [if_neg (by omega), if_neg (by omega), if_pos (by omega), if_neg (by omega), if_neg (by omega), if_pos (by omega)]
            congr 1
            omega
          · rw [if_neg (by omega), if_pos (by omega), if_neg (by omega), if_neg (by omega), if_neg (by omega), if_pos (by omega)]
            congr 1
            omega
          · rw [if_pos (by omega), if_neg (by omega), if_neg (by omega), if_neg (by omega), if_neg (by omega)]
            congr 1
            omega
        · rw [if_neg (by omega), if_neg (by omega), if_neg (by omega), if_neg (by omega), if_neg (by omega), if_neg (by omega)]
      have n5 : h5.1 = h.1 := by rw [p5.1, p4.1, p3.1, p2.1, p1.1]
      have s5 : h5.2.1 = h.2.1 := by rw [p5.2.1, p4.2.1, p3.2.1, p2.2.1, p1.2.1]
      have k5 : ∀ a, ka_K h5 a = ka_K h a := fun a => by rw [p5.2.2.1, p4.2.2.1, p3.2.2.1, p2.2.2.1, p1.2.2.1]
      have pp5 : ∀ a, ka_P h5 a = ka_P h a := fun a => by rw [p5.2.2.2.1, p4.2.2.2.1, p3.2.2.2.1, p2.2.2.2.1, p1.2.2.2.1]
      refine e1 rfl h5 f5 ⟨q1.st (fun a a1 a2 => oth a (by omega) (by omega)), ⟨p5.2.2.2.2.2.2.1, (o9 4 (by omega)).trans t2, fun k hk => ?_⟩, q3.st (by rw [oth 1 (by omega) (by omega)]) (oth 70 (by omega) (by omega)), sb, qb, st, q4.st hf.1 (by omega) (fun a _ => k5 a) (fun a _ => pp5 a) (fun a a1 _ => oth a (by omega) (by omega)) (fun k _ => by rw [oth 1 (by omega) (by omega)]) (oth 64 (by omega) (by omega)) (Nat.le_refl _) (fun _ _ => rfl)⟩ ⟨by omega, by omega, fun a a1 a2 => oth a (by omega) (by omega)⟩
      show ka_I h5 10 k = kh_b (tP A.2.1) (tF A.2.1) (kBy a b c d e) 20 k
      have hk' : k < tF A.2.1 + 20 := hk
      rw [o10]
      unfold kh_b
      by_cases z : tF A.2.1 ≤ k ∧ k < tF A.2.1 + 20
      · rw [if_pos z, if_pos z]
      · rw [if_neg z, if_neg z]
        exact t3 k (by omega)
    · refine kc_feed (d := 199) hf hM.2.1.1 hF (fun z => by omega) (fun _ => ?_)
      obtain ⟨q1, ⟨t1, t2, t3⟩, q3, q4⟩ := hM
      have o72 : ∀ k, k ≠ 0 → k ≠ 21 → ka_I (ka_sI (ka_sF (km_0 h) 89 (kh_b (ka_I h 89) (tF A.2.1) (kBy a b c d e) 20)) 72 21 (nI (tF A.2.1 + 20))) 72 k = ka_I h 72 k := fun k k0 k1 => by
        rw [ka_IJ _ _ _ _ k1, ka_I_Fn _ _ (by decide), ka_IJ _ _ _ _ k0]
      have oth : ∀ a', a' ≠ 72 → a' ≠ 89 → ka_I (ka_sI (ka_sF (km_0 h) 89 (kh_b (ka_I h 89) (tF A.2.1) (kBy a b c d e) 20)) 72 21 (nI (tF A.2.1 + 20))) a' = ka_I h a' := fun a' a1 a2 => by
        rw [kI_o _ _ _ a1, ka_I_Fn _ _ a2, kI_o _ _ _ a1]
      refine e3 _ _ (kf_w (kf_F (kf_m hf) 89 rfl rfl) 72 rfl rfl) ⟨q1.st (fun k hk => o72 k (by omega) (by omega)) (fun a' a1 a2 => oth a' (by omega) (by omega)), ⟨rfl, (o72 28 (by omega) (by omega)).trans t2, fun k hk => ?_⟩, q3.st (fun k hk => o72 k (by omega) (by omega)) (fun a' a1 a2 a3 _ _ => oth a' (by omega) a3), q4.st (o72 44 (by omega) (by omega)) (fun a' a1 a2 => oth a' (by omega) (by omega))⟩ ⟨rfl, rfl, fun _ => rfl, fun _ => rfl, fun _ => rfl, fun a' ha => oth a' (by omega) (by omega)⟩ rfl (fun _ => rfl)
      show ka_I (ka_sI (ka_sF (km_0 h) 89 (kh_b (ka_I h 89) (tF A.2.1) (kBy a b c d e) 20)) 72 21 (nI (tF A.2.1 + 20))) 89 k = kh_b (tP A.2.1) (tF A.2.1) (kBy a b c d e) 20 k
      have hk' : k < tF A.2.1 + 20 := hk
      rw [kI_o _ _ _ (by decide), ka_I_F]
      unfold kh_b
      by_cases z : tF A.2.1 ≤ k ∧ k < tF A.2.1 + 20
      · rw [if_pos z, if_pos z]
      · rw [if_neg z, if_neg z]
        exact t3 k (by omega)
  · refine ⟨A, 0, 0, -1, w, fun z => absurd rfl z, fun g h R hf hb hC e0 e1 => ?_, fun g h R hf hM e3 => ?_⟩
    · exact kc_xfeed (d := 198) hf hC.2.1.1 hF (fun _ => e1 rfl h hf hC kFc.rfl') (fun z => absurd z c1)
    · exact kc_feed (d := 199) hf hM.2.1.1 hF (fun _ => e3 _ _ (kf_m hf) hM.m0 kFm.m0 rfl (fun _ => rfl)) (fun z => absurd z c1)
theorem ko_fault (w : kWA A) : kOx (fun _ _ => False) 200 90 184 [] A := by
  refine ⟨A, 0, 0, tA A.2.1, w, fun z => absurd rfl z, fun g h R hf hb hC e0 e1 => ?_, fun g h R hf hM e3 => ?_⟩
  · refine kc_xfault (d := 199) hf ?_
    rw [hC.2.1.2.1]
    exact e1 rfl h hf hC kFc.rfl'
  · refine kc_fault (d := 199) hf ?_
    rw [hM.2.1.2.1]
    exact e3 _ _ (kf_m hf) hM.m0 kFm.m0 rfl (fun _ => rfl)
theorem ko_back (w : kWA A) : kOx (fun _ _ => False) 200 87 233 [] A := by
  have hz := lZ_le w.1
  have hn := w.1.1
  by_cases c : lZ A.1 = lNn A.1
  · refine ⟨A, 0, 0, 0, w, fun z => absurd rfl z, fun g h R hf hb hC e0 e1 => ?_, fun g h R hf hM e3 => ?_⟩
    · refine kc_xback (d := 197) hf hC.1.1 hC.1.2.1 w.1.2.1 (fun _ => e1 rfl h hf hC kFc.rfl') (fun z => absurd ?_ z)
      rw [kl_endZ hC.1 w.1, nI_sub hz, c, Nat.sub_self]
      rfl
    · refine kc_back (d := 199) hf hM.1.1 hn (fun _ => e3 _ _ (kf_m hf) hM.m0 kFm.m0 rfl (fun _ => rfl)) (fun z1 z2 => ?_)
      rw [(hM.1.2.2.2 _ (by omega)).2.2.2.1, hM.1.2.1] at z2
      have := (lZ_iff w.1 (by omega)).mp z2
      omega
  · refine ⟨((lNn A.1 - 1, A.1.2), A.2), 0, 0, 1, ⟨w.1.dr (by omega) (by omega), w.2⟩, fun z => absurd rfl z, fun g h R hf hb hC e0 e1 => ?_, fun g h R hf hM e3 => ?_⟩
    · refine kc_xback (d := 197) hf hC.1.1 hC.1.2.1 w.1.2.1 (fun z => ?_) (fun _ => ?_)
      · rw [kl_endZ hC.1 w.1, nI_sub hz] at z
        have := (nI_eq (b := 0) (by omega) (by omega)).mp z
        omega
      · rw [nI_m1' (by omega)]
        exact e1 rfl _ (kf_w hf 2 rfl rfl) (hC.dr hf.1 (by omega)) (kFc.w (by omega))
    · refine kc_back (d := 199) hf hM.1.1 hn (fun z => ?_) (fun _ _ => e3 _ _ (kf_m (kf_m hf)) (hM.dr (by omega)) (kFm.m0.sI (by omega)) rfl (fun _ => rfl))
      rcases z with z | ⟨z1, z2⟩
      · omega
      · rw [(hM.1.2.2.2 _ (by omega)).2.2.2.1, hM.1.2.1] at z2
        exact absurd ((lZ_iff w.1 (by omega)).mpr (by omega)) z2
end F3
