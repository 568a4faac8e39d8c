/-! ===== the class: a row of a way ===== -/
section WD
variable {g : Nat × (Nat → Int32)} {d : Nat} {h : ka_H} {R : ka_R → ka_H → Prop} {E : Nat → Nat → Prop} {b : Nat}
theorem wN_M {x n : Nat} {v : Int32} (hn : n ≤ 15) (hM : wM E b x n) (h : wN E b x 16 v) : v = nI (wNx E b x n) ∧ wNx E b x n < 16 := by
  have hM' := hM
  obtain ⟨⟨y, y1, y2, y3⟩, hm⟩ := hM
  rcases h with ⟨-, h2⟩ | ⟨t, n', t1, t2, t3, t4, t5, t6, t7, t8⟩
  · exact absurd (y3.le' hn) (h2 y y1 y2)
  · have e : n' = n := by
      rcases Nat.lt_trichotomy n' n with c | c | c
      · exact absurd t5 (hm t t1 t4 n' c)
      · exact c
      · exact absurd y3 (t7 y y1 y2 n c)
    rw [e] at t5 t8
    have := wNx_e hM' ⟨t1, t4, t5, t8⟩
    rw [this]
    exact ⟨t3, t1⟩
theorem wN_Z {x : Nat} {v : Int32} (hM : ∀ n, n ≤ 15 → ¬ wM E b x n) (h : wN E b x 16 v) : v = -1 := by
  rcases h with ⟨h1, -⟩ | ⟨t, n', t1, t2, t3, t4, t5, -⟩
  · exact h1
  · obtain ⟨n, n1, n2⟩ := wM_ex n' ⟨t, t1, t4, t5⟩
    exact absurd n2 (hM n (by omega))
theorem i32_ge {v : Int32} (h : ¬ v < 0) : ∃ k, k < 2 ^ 31 ∧ v = nI k := by
  have a1 : (0 : Int) ≤ v.toInt := Int32.le_iff_toInt_le.mp (Int32.not_lt.mp h)
  have a2 := v.toInt_lt
  exact ⟨v.toInt.toNat, by omega, Int32.toInt_inj.mp (by rw [nI_toInt (by omega)]; omega)⟩
theorem kc_rowOfWay {c a : Nat} {kk : Int32} (hf : kf g h) (hc : kr h c 256) (h66 : c ≠ 66) (hb : b < 16) (ha : a < 16) (hE : ∀ x y, x < 16 → y < 16 → (E x y ↔ 0 < ka_I h c (16 * x + y))) (e : ∀ F G, R (kp_ri (wW E b a kk)) (ka_sF (ka_sF h 66 F) 67 G)) : kp_T (d + 3) 76 [.ref 63, .ref c, .int (nI a), .int (nI b), .int kk] h R := by
  refine kd_in hf rfl rfl rfl (kd_seg (fun p => Nat.beq p 16) 20 ⟨kK hf rfl rfl, ?_⟩)
  have hf1 : ∀ F, kf g (ka_sF h 66 F) := fun F => kf_F hf 66 rfl rfl
  have hl : kLk (ka_sF h 66 (kh_o (ka_I h 66) (fun a => kb_s (kv_pos h c a) 16) 16)) E := fun x hx i hi => by
    rw [ka_I_F, kh_o_T _ _ hx, kb_bt _ 16 (by omega) i hi, Bool.and_eq_true, decide_eq_true_eq]
    constructor
    · rintro ⟨h1, h2⟩; exact ⟨h1, (hE x i hx h1).mpr (of_decide_eq_true h2)⟩
    · rintro ⟨h1, h2⟩; exact ⟨h1, decide_eq_true ((hE x i hx h1).mp h2)⟩
  refine kq_cv (kc_link hf hc h66) (hf1 _) ⟨kK (hf1 _) rfl rfl, ?_⟩
  generalize kh_o (ka_I h 66) (fun a => kb_s (kv_pos h c a) 16) 16 = F at hl
  refine kc_measure (hf1 F) hb hl (fun G hG => ⟨kf_F (hf1 F) 67 rfl rfl, ?_⟩)
  have e' := e F G
  have hf2 : kf g (ka_sF (ka_sF h 66 F) 67 G) := kf_F (hf1 F) 67 rfl rfl
  have hl2 : kLk (ka_sF (ka_sF h 66 F) 67 G) E := fun x hx i hi => by rw [ka_I_Fn _ _ (by decide)]; exact hl x hx i hi
  have hs2 : ∀ x, x < 16 → wS E b 15 x (ka_I (ka_sF (ka_sF h 66 F) 67 G) 67 x) := fun x hx => by rw [ka_I_F]; exact hG x hx
  generalize ka_sF (ka_sF h 66 F) 67 G = H at e' hf2 hl2 hs2
  have K63 : (ka_K H 63).1 = 7 := kK hf2 rfl rfl
  have no : ∀ z5 z6 z7, R (kp_ri (-1)) H → kd_ex g (d + 2) 76 R 50 [.ref 63, .ref c, .int (nI a), .int (nI b), .int kk, z5, z6, z7] [] H := fun z5 z6 z7 e => kd_seg kp_no 4 ⟨trivial, e⟩
  by_cases c0 : kk < 0
  · have eN : R (kp_ri (-1)) H := by
      rw [wW_F (fun n k _ _ hk _ => by rw [hk] at c0; exact absurd c0 (by
        rcases Nat.lt_or_ge k (2 ^ 31) with z | z
        · exact nI_n0 z
        · omega))] at e'
      exact e'
    have neg : ∀ j i x z, i + j = 16 → x < 16 → kd_ex g (d + 2) 76 R 16 [.ref 63, .ref c, .int (nI a), .int (nI b), .int kk, .int (nI x), .int (nI i), z] [] H := by
      intro j
      induction j with
      | zero =>
        intro i x z hi hx
        exact kd_seg (fun p => Nat.beq p 16) 20 ⟨fun _ => ⟨trivial, eN⟩, fun y => absurd y (nI_nlt (b := 16) (by omega) (by omega))⟩
      | succ j ih =>
        intro i x z hi hx
        refine kd_seg (fun p => Nat.beq p 16 || Nat.beq p 50 || Nat.beq p 52) 20 ⟨fun y => absurd (nI_lt (b := 16) (by omega) (by omega)) y, fun _ => ⟨K63, ?_⟩⟩
        refine kc_next hf2 hx hl2 hs2 (fun v hv => ⟨hf2, ⟨fun y => no _ _ _ eN, fun y => ?_⟩⟩)
        obtain ⟨t, n, t1, t2, t3, -⟩ := hv.resolve_left (fun u => y u.1)
        have j52 : kd_ex g (d + 2) 76 R 52 [.ref 63, .ref c, .int (nI a), .int (nI b), .int kk, .int (nI x), .int (nI i), .int v] [] H := by
          refine kd_seg (fun p => Nat.beq p 16) 20 ⟨fun _ => ?_, fun y => ?_⟩
          · have := ih (i + 1) t (.int v) (by omega) t1
            rw [nI_succ, ← t3] at this
            exact this
          · rw [← y] at c0
            exact absurd c0 (nI_n0 (by omega))
        exact ⟨fun _ => j52, fun _ => ⟨fun _ => j52, fun _ => no _ _ _ eN⟩⟩
    exact neg 16 0 a _ rfl ha
  · obtain ⟨k, hk, rfl⟩ := i32_ge c0
    by_cases c1 : ∃ n, n ≤ 15 ∧ wM E b a n
    · obtain ⟨n, hn, hM⟩ := c1
      by_cases c2 : k ≤ n
      · rw [wW_T hn hM c2] at e'
        have goA : ∀ j i x n z, i + j = k → j ≤ n → i + n ≤ 15 → x < 16 → wM E b x n → R (kp_ri (nI (wV E b j x n))) H → kd_ex g (d + 2) 76 R 16 [.ref 63, .ref c, .int (nI a), .int (nI b), .int (nI k), .int (nI x), .int (nI i), z] [] H := by
          intro j
          induction j with
          | zero =>
            intro i x n z hi hj h15 hx hM eR
            refine kd_seg (fun p => Nat.beq p 16 || Nat.beq p 50 || Nat.beq p 52) 20 ⟨fun y => absurd (nI_lt (b := 16) (by omega) (by omega)) y, fun _ => ⟨K63, ?_⟩⟩
            refine kc_next hf2 hx hl2 hs2 (fun v hv => ⟨hf2, ?_⟩)
            obtain ⟨rfl, ht⟩ := wN_M (by omega) hM hv
            have j52 : kd_ex g (d + 2) 76 R 52 [.ref 63, .ref c, .int (nI a), .int (nI b), .int (nI k), .int (nI x), .int (nI i), .int (nI (wNx E b x n))] [] H := by
              refine kd_seg (fun p => Nat.beq p 16) 20 ⟨fun y => absurd (by rw [show i = k by omega]) y, fun _ => ⟨trivial, ?_⟩⟩
              rw [nI_cI]
              exact eR
            exact ⟨fun y => absurd y (nI_ne_m1 (by omega)), fun _ => ⟨fun _ => j52, fun _ => ⟨fun _ => j52, fun y => absurd y (nI_nlt (by omega) (by omega))⟩⟩⟩
          | succ j ih =>
            intro i x n z hi hj h15 hx hM eR
            obtain ⟨n', rfl⟩ : ∃ n', n = n' + 1 := ⟨n - 1, by omega⟩
            refine kd_seg (fun p => Nat.beq p 16 || Nat.beq p 50 || Nat.beq p 52) 20 ⟨fun y => absurd (nI_lt (b := 16) (by omega) (by omega)) y, fun _ => ⟨K63, ?_⟩⟩
            refine kc_next hf2 hx hl2 hs2 (fun v hv => ⟨hf2, ?_⟩)
            obtain ⟨rfl, ht⟩ := wN_M (by omega) hM hv
            have hY := wNx_Y hM
            have j52 : kd_ex g (d + 2) 76 R 52 [.ref 63, .ref c, .int (nI a), .int (nI b), .int (nI k), .int (nI x), .int (nI i), .int (nI (wNx E b x (n' + 1)))] [] H := by
              refine kd_seg (fun p => Nat.beq p 16) 20 ⟨fun _ => ?_, fun y => ?_⟩
              · have := ih (i + 1) (wNx E b x (n' + 1)) n' (.int (nI (wNx E b x (n' + 1)))) (by omega) (by omega) (by omega) ht (wM_dn hM hY.1 hY.2.1 hY.2.2.1) eR
                rw [nI_succ] at this
                exact this
              · have := (nI_eq (by omega) (by omega)).mp y
                omega
            refine ⟨fun y => absurd y (nI_ne_m1 (by omega)), fun _ => ⟨fun _ => j52, fun y => ⟨fun _ => j52, fun _ => ?_⟩⟩⟩
            have eb := (nI_eq (by omega) (by omega)).mp y
            exact absurd (show wR E b 0 (wNx E b x (n' + 1)) from eb) (hM.2 _ hY.1 hY.2.1 0 (by omega))
        exact goA k 0 a n _ (by omega) c2 (by omega) ha hM e'
      · rw [wW_F (fun n' k' _ hM' hk' hle => by
          rw [wM_u hM hM'] at c2
          have := (nI_eq hk (by omega)).mp hk'
          omega)] at e'
        have goB : ∀ n i x z, i + n ≤ 15 → i + n < k → x < 16 → wM E b x n → kd_ex g (d + 2) 76 R 16 [.ref 63, .ref c, .int (nI a), .int (nI b), .int (nI k), .int (nI x), .int (nI i), z] [] H := by
          intro n
          induction n with
          | zero =>
            intro i x z h15 hik hx hM
            refine kd_seg (fun p => Nat.beq p 16 || Nat.beq p 50 || Nat.beq p 52) 20 ⟨fun y => absurd (nI_lt (b := 16) (by omega) (by omega)) y, fun _ => ⟨K63, ?_⟩⟩
            refine kc_next hf2 hx hl2 hs2 (fun v hv => ⟨hf2, ?_⟩)
            obtain ⟨rfl, ht⟩ := wN_M (by omega) hM hv
            have hY := wNx_Y hM
            have eb : wNx E b x 0 = b := hY.2.2.1
            exact ⟨fun y => absurd y (nI_ne_m1 (by omega)), fun _ => ⟨fun y => absurd (by rw [eb]) y, fun _ => ⟨fun y => absurd (nI_lt (by omega) (by omega)) y, fun _ => no _ _ _ e'⟩⟩⟩
          | succ n ih =>
            intro i x z h15 hik hx hM
            refine kd_seg (fun p => Nat.beq p 16 || Nat.beq p 50 || Nat.beq p 52) 20 ⟨fun y => absurd (nI_lt (b := 16) (by omega) (by omega)) y, fun _ => ⟨K63, ?_⟩⟩
            refine kc_next hf2 hx hl2 hs2 (fun v hv => ⟨hf2, ?_⟩)
            obtain ⟨rfl, ht⟩ := wN_M (by omega) hM hv
            have hY := wNx_Y hM
            have j52 : kd_ex g (d + 2) 76 R 52 [.ref 63, .ref c, .int (nI a), .int (nI b), .int (nI k), .int (nI x), .int (nI i), .int (nI (wNx E b x (n + 1)))] [] H := by
              refine kd_seg (fun p => Nat.beq p 16) 20 ⟨fun _ => ?_, fun y => ?_⟩
              · have := ih (i + 1) (wNx E b x (n + 1)) (.int (nI (wNx E b x (n + 1)))) (by omega) (by omega) ht (wM_dn hM hY.1 hY.2.1 hY.2.2.1)
                rw [nI_succ] at this
                exact this
              · have := (nI_eq (by omega) (by omega)).mp y
                omega
            refine ⟨fun y => absurd y (nI_ne_m1 (by omega)), fun _ => ⟨fun _ => j52, fun y => ⟨fun _ => j52, fun _ => no _ _ _ e'⟩⟩⟩
        exact goB n 0 a _ (by omega) (by omega) ha hM
    · have c1' : ∀ n, n ≤ 15 → ¬ wM E b a n := fun n h1 h2 => c1 ⟨n, h1, h2⟩
      rw [wW_F (fun n' k' h1 h2 _ => absurd h2 (c1' n' h1))] at e'
      refine (kd_seg (fun p => Nat.beq p 16 || Nat.beq p 50 || Nat.beq p 52) 20 ⟨fun y => absurd (nI_lt (a := 0) (b := 16) (by omega) (by omega)) y, fun _ => ⟨K63, ?_⟩⟩ : kd_ex g (d + 2) 76 R 16 [.ref 63, .ref c, .int (nI a), .int (nI b), .int (nI k), .int (nI a), .int (nI 0), .retAddr 0] [] H)
      refine kc_next hf2 ha hl2 hs2 (fun v hv => ⟨hf2, ⟨fun _ => no _ _ _ e', fun y => absurd (wN_Z c1' hv) y⟩⟩)
end WD
