/-! ===== counts as of an edition: which change they hang on ===== -/
/-- one more than the last of the first m for which p holds; 0: none -/
def lS (p : Nat → Bool) : Nat → Nat
  | 0 => 0
  | m + 1 => if p m = true then m + 1 else lS p m
theorem lS_le (p : Nat → Bool) : ∀ m, lS p m ≤ m
  | 0 => Nat.le_refl _
  | m + 1 => by
    have := lS_le p m
    show (if p m = true then m + 1 else lS p m) ≤ m + 1
    split <;> omega
theorem lS_no (p : Nat → Bool) : ∀ m k, lS p m ≤ k → k < m → p k = false
  | 0, k, _, h => absurd h (Nat.not_lt_zero _)
  | m + 1, k, h1, h2 => by
    have h1' : (if p m = true then m + 1 else lS p m) ≤ k := h1
    by_cases c : p m = true
    · rw [if_pos c] at h1'; omega
    · rw [if_neg c] at h1'
      by_cases e : k = m
      · rw [e]
        cases hp : p m with
        | false => rfl
        | true => exact absurd hp c
      · exact lS_no p m k h1' (by omega)
def lTk (L : kAl) (k : Nat) : Nat := (lTb L k).toNatClampNeg
theorem lTk_eq {L : kAl} (w : kWl L) {k : Nat} (hk : k < lNn L) : lTb L k = nI (lTk L k) ∧ lTk L k < 4 := by
  obtain ⟨⟨t, ht, e⟩, -⟩ := w.2.2.1 k hk
  unfold lTk
  rw [e, nI_clamp (by omega)]
  exact ⟨rfl, ht⟩
/-- a shelf's counts hang on the tables below it alone -/
theorem kSV_dep {ky : Nat → kKey} {T T' : Nat → Nat → Int32} : ∀ s, (∀ s', s' ≤ s → kKw s' (ky s')) → (∀ t r, t < 4 → bt (kMs ky s) t = true → r < 256 → T t r = T' t r) → ∀ r, r < 256 → kSV ky T s r = kSV ky T' s r := by
  intro s
  induction s using Nat.strongRecOn with
  | ind s ih =>
    intro w hT r hr
    have ws := w s (Nat.le_refl _)
    obtain ⟨⟨k1, ⟨k2, k2'⟩, k3, k4, k5, k6⟩, k7, k8, k9, k10⟩ := ws
    have hm := kMs_1 (w s (Nat.le_refl _))
    by_cases c : (ky s).1 = 0
    · rw [kSV_0 c, kSV_0 c]
      refine hT _ r k2 ?_ hr
      rw [hm, b_or, b_or, if_pos c, b_one (by omega) (by omega), decide_eq_true rfl]
      rfl
    · rw [kSV_1 (w s (Nat.le_refl _)) c, kSV_1 (w s (Nat.le_refl _)) c]
      have h1 := k7 c
      refine kv_op_cg _ r (fun _ _ _ _ _ => rfl) (ih _ (by omega) (fun s' hs' => w s' (by omega)) (fun t r ht hb hr => hT t r ht ?_ hr)) (fun c9 => ih _ (by have := k8 c9.1 c9.2; omega) (fun s' hs' => w s' (by omega)) (fun t r ht hb hr => hT t r ht ?_ hr)) hr
      · rw [hm, b_or, b_or, if_neg (by omega : ¬ (ky s).2.2.1 = 0), hb, Bool.or_true, Bool.true_or]
      · have := k8 c9.1 c9.2
        rw [hm, b_or, if_neg (by omega : ¬ (ky s).2.2.2.1 = 0), hb, Bool.or_true]
/-- the counts after m changes are those after the last one of its tables -/
theorem kSV_st {L : kAl} (wl : kWl L) {ky : Nat → kKey} {s m : Nat} (w : ∀ s', s' ≤ s → kKw s' (ky s')) (hm : m ≤ lNn L) : ∀ r, r < 256 → kSV ky (lT L (lS (fun k => bt (kMs ky s) (lTk L k)) m)) s r = kSV ky (lT L m) s r := by
  refine kSV_dep s w (fun t r ht hb hr => ?_)
  unfold lT
  exact (kp_sum_lt (p := fun k => lTb L k = nI t ∧ lCe L k = nI r) m _ (lS_le _ m) (fun k h1 h2 z => by
    have hno := lS_no (fun k => bt (kMs ky s) (lTk L k)) m k h1 h2
    obtain ⟨e1, e2⟩ := lTk_eq wl (k := k) (by omega)
    have : lTk L k = t := (nI_eq (by omega) (by omega)).mp (e1.symm.trans z.1)
    rw [show bt (kMs ky s) (lTk L k) = true by rw [this]; exact hb] at hno
    cases hno)).symm
theorem kx_ext_z {L : Nat → Int32} (h : ∀ a, a < 16 → L a = 0) : ∀ n, n ≤ 16 → ∀ a, a < 16 → kx_ext L n a = 0 := fun n hn a ha => by
  have h1 := kx_ext_cg (L := L) (L' := fun _ => 0) h n hn a ha
  rw [h1]
  exact (by decide +kernel : ∀ n, n ≤ 16 → ∀ a, a < 16 → kx_ext (fun _ => 0) n a = 0) n hn a ha
theorem kv_op_0 (op : Nat) (H : Nat → Int32) {A B : Nat → Int32} {r : Nat} (hr : r < 256) (hA : ∀ x, x < 256 → A x = 0) (hB : (9 ≤ op ∧ op ≤ 12) → ∀ x, x < 256 → B x = 0) : kv_op op H A B (r / 16) (r % 16) = 0 := by
  rw [kv_op_cg op (H' := H) (A' := fun _ => 0) (B' := fun _ => 0) r (fun _ _ _ _ _ => rfl) hA hB hr]
  have hx : ∀ a, a < 16 → kx_0 (fun _ => (0 : Int32)) a = 0 := by decide +kernel
  have hmk : kv_mark op (fun _ => (0 : Int32)) = -1 := by
    have h1 := kv_mark_m
    unfold kv_mark
    have s0 : kp_sum (fun _ => (0 : Int32)) 16 = 0 := by decide +kernel
    have s1 : kp_sum (fun b => kp_b ((0 : Int32) < 0)) 16 = 0 := by decide +kernel
    have s3 : ∀ z, kv_nth (fun _ => decide ((0 : Int32) < 0)) z 16 0 0 = -1 := fun z => kv_nth_no z 16 0 0 (fun _ _ _ => by decide)
    simp only [s0, s1, s3]
    split
    · rfl
    · split
      · rfl
      · split
        · rfl
        · split <;> rfl
  by_cases c1 : op = 1 ∨ op = 2 ∨ op = 13
  · rw [kv_opT c1]
    rcases c1 with c | c | c
    · rw [kv_take1 c]
    · rw [kv_take2 c]; rfl
    · rw [kv_take3 c]; split <;> rfl
  · by_cases c2 : op = 8
    · rw [kv_opL c2, kx_ext_z hx 16 (Nat.le_refl _) _ (by omega), b_0]; rfl
    · by_cases c3 : op = 9
      · rw [kv_opJ c3]
        unfold kv_join kv_jn
        exact (by decide +kernel : kp_sum (fun _ => (0 : Int32) * 0) 16 = 0)
      · by_cases c4 : op = 10 ∨ op = 11 ∨ op = 12
        · rw [kv_opP c4]
          unfold kv_put
          split
          · exact (by decide : (0 : Int32) + 0 = 0)
          · split
            · exact (by decide : (0 : Int32) - 0 = 0)
            · split <;> rfl
        · unfold kv_op
          rw [if_neg c1, if_neg c2, if_neg c3, if_neg c4, hmk, if_neg (nI_m1_ne (by omega))]
/-- without any change all counts are 0 -/
theorem kSV_z {ky : Nat → kKey} {T : Nat → Nat → Int32} (hT : ∀ t r, T t r = 0) : ∀ s, (∀ s', s' ≤ s → kKw s' (ky s')) → ∀ r, r < 256 → kSV ky T s r = 0 := by
  intro s
  induction s using Nat.strongRecOn with
  | ind s ih =>
    intro w r hr
    obtain ⟨⟨k1, -, k3, k4, -⟩, k7, k8, -⟩ := w s (Nat.le_refl _)
    by_cases c : (ky s).1 = 0
    · rw [kSV_0 c]; exact hT _ _
    · rw [kSV_1 (w s (Nat.le_refl _)) c]
      have h1 := k7 c
      exact kv_op_0 _ _ hr (ih _ (by omega) (fun s' hs' => w s' (by omega))) (fun c9 => ih _ (by have := k8 c9.1 c9.2; omega) (fun s' hs' => w s' (by omega)))
section ST
variable {g : Nat × (Nat → Int32)} {d : Nat} {h : ka_H} {R : ka_R → ka_H → Prop} {L : kAl} {ms ed : Int32} {m : Nat}
theorem kc_stateOf (hf : kf g h) (q : kcl L h) (wl : kWl L) (hm : kl_end h (lNn L) (lC L) ed = nI m) (hmn : m ≤ lNn L) : kp_T (d + 2) 34 [.ref 2, .int ms, .int ed] h (kp_is (.int (nI (lS (fun k => bt ms (lTk L k)) m) - 1)) h) := by
  have hn := wl.1
  have main : ∀ j, j ≤ m → lS (fun k => bt ms (lTk L k)) j = lS (fun k => bt ms (lTk L k)) m → kq_ex g (d + 1) 34 (kp_is (.int (nI (lS (fun k => bt ms (lTk L k)) m) - 1)) h) 8 [.ref 2, .int ms, .int ed, .int (nI j - 1)] [] h := by
    intro j
    induction j with
    | zero =>
      intro _ hl
      refine kq_seg (fun p => Nat.beq p 8) 30 ⟨fun _ => ⟨trivial, ?_, rfl⟩, fun y => absurd (by decide) y⟩
      rw [← hl]
      rfl
    | succ j ih =>
      intro hj hl
      rw [show nI (j + 1) - 1 = nI j from nI_m1' (k := j + 1) (by omega)]
      obtain ⟨e1, e2⟩ := lTk_eq wl (k := j) (by omega)
      refine kq_seg (fun p => Nat.beq p 8) 30 ⟨fun y => absurd y (nI_n0 (by omega)), fun _ => ⟨nI_in (N := 400) (by omega) (by omega), ?_⟩⟩
      rw [nI_clamp (by omega), show ka_I h (kq_p h 2 0) j = _ from (q.2.2.2.1 j (by omega)).1, e1]
      have hs : lS (fun k => bt ms (lTk L k)) (j + 1) = if bt ms (lTk L j) = true then j + 1 else lS (fun k => bt ms (lTk L k)) j := rfl
      have hb : ms >>> (nI (lTk L j) &&& 31) &&& 1 = if bt ms (lTk L j) = true then 1 else 0 := b_bit ms (by omega)
      by_cases c : bt ms (lTk L j) = true
      · rw [if_pos c] at hb
        refine ⟨fun y => absurd (hb.symm.trans y) (by decide), fun _ => ⟨trivial, ?_, rfl⟩⟩
        rw [← hl, hs, if_pos c, show nI (j + 1) - 1 = nI j from nI_m1' (k := j + 1) (by omega)]
      · rw [if_neg c] at hb
        refine ⟨fun _ => ?_, fun y => absurd hb y⟩
        rw [hs, if_neg c] at hl
        have := ih (by omega) hl
        rw [show nI j - 1 = nI j + Int32.ofInt (-1) from Int32.sub_eq_add_neg (nI j) 1] at this
        exact this
  refine kq_in hf rfl rfl rfl (kq_seg (fun p => Nat.beq p 8) 10 ?_)
  refine kq_ci (kc_endOf hf q.1 q.2.1 wl.2.1) hf ?_
  rw [hm]
  exact main m (Nat.le_refl _) rfl
theorem kc_ledfill {t c : Nat} (hf : kf g h) (q : kcl L h) (wl : kWl L) (hm : kl_end h (lNn L) (lC L) ed = nI m) (hmn : m ≤ lNn L) (ht : t < 4) (hc : kr h c 256) (h103 : 103 ≤ c) (e : ∀ F, (∀ r, r < 256 → F r = lT L m t r) → R (.inl none) (ka_sF h c F)) : kp_T (d + 2) 33 [.ref 2, .int (nI t), .int ed, .ref c] h R := by
  have hn := wl.1
  have oth : ∀ F a, a ≠ c → ka_I (ka_sF h c F) a = ka_I h a := fun F a ha => ka_I_Fn _ _ ha
  have fF : ∀ F, kf g (ka_sF h c F) := fun F => kf_sF hf hc.1
  have main : ∀ m' k F, k + m' = m → (∀ r, r < 256 → F r = lT L k t r) → kd_ex g (d + 1) 33 R 15 [.ref 2, .int (nI t), .int ed, .ref c, .int (nI m), .int (nI k)] [] (ka_sF h c F) := by
    intro m'
    induction m' with
    | zero =>
      intro k F hk hF
      refine kd_seg (fun p => Nat.beq p 15) 40 ⟨fun _ => ?_, fun y => absurd y (nI_nlt (by omega) (by omega))⟩
      rw [show k = m by omega] at hF
      exact e F hF
    | succ m' ih =>
      intro k F hk hF
      have f1 := fF F
      obtain ⟨y1, y2, y3, -, -⟩ := q.2.2.2.1 k (by omega)
      obtain ⟨-, ⟨r0, hr0, e0⟩, -⟩ := wl.2.2.1 k (by omega)
      have hK2 : (ka_K (ka_sF h c F) 2).1 = 2 := kK f1 rfl rfl
      have i3 : ka_I (ka_sF h c F) (kq_p (ka_sF h c F) 2 0) k = lTb L k := (congrFun (oth F 3 (by omega)) k).trans y1
      have i4 : ka_I (ka_sF h c F) (kq_p (ka_sF h c F) 2 1) k = nI r0 := ((congrFun (oth F 4 (by omega)) k).trans y2).trans e0
      have i5 : ka_I (ka_sF h c F) (kq_p (ka_sF h c F) 2 2) k = lMo L k := (congrFun (oth F 5 (by omega)) k).trans y3
      have k3 : kr (ka_sF h c F) (kq_p (ka_sF h c F) 2 0) 400 := ⟨kK f1 (a := 3) rfl rfl, kZ f1 (a := 3) rfl rfl⟩
      have k4 : kr (ka_sF h c F) (kq_p (ka_sF h c F) 2 1) 400 := ⟨kK f1 (a := 4) rfl rfl, kZ f1 (a := 4) rfl rfl⟩
      have k5 : kr (ka_sF h c F) (kq_p (ka_sF h c F) 2 2) 400 := ⟨kK f1 (a := 5) rfl rfl, kZ f1 (a := 5) rfl rfl⟩
      have kc : kr (ka_sF h c F) c 256 := hc
      have hls : ∀ r, lT L (k + 1) t r = lT L k t r + (if lTb L k = nI t ∧ lCe L k = nI r then lMo L k else 0) := fun r => rfl
      refine kd_seg (fun p => Nat.beq p 15) 40 ⟨fun y => absurd (nI_lt (by omega) (by omega)) y, fun _ => ⟨hK2, ⟨kr_in k3 (by omega) (by omega), ?_⟩⟩⟩
      rw [nI_clamp (by omega), i3]
      refine ⟨fun y => ?_, fun y => ⟨hK2, ⟨kr_in k4 (by omega) (by omega), ?_⟩⟩⟩
      · have := ih (k + 1) F (by omega) (fun r hr => by rw [hls, if_neg (fun z => y z.1), Int32.add_zero]; exact hF r hr)
        rw [nI_succ] at this
        exact this
      · rw [nI_clamp (by omega), i4]
        refine ⟨kr_in kc hr0 (by omega), ⟨hK2, ⟨kr_in k5 (by omega) (by omega), ⟨kc.1, ⟨kr_st kc hr0 (by omega), ?_⟩⟩⟩⟩⟩
        rw [nI_clamp (by omega), nI_clamp (by omega), i5, ka_sI_F, ka_I_F]
        have := ih (k + 1) (kh_u F r0 (F r0 + lMo L k)) (by omega) (fun r hr => by
          rw [hls]
          by_cases z : r = r0
          · rw [z, kh_uS, hF r0 hr0, if_pos ⟨y, e0⟩]
          · rw [kh_uN _ _ z, if_neg (fun u => z ((nI_eq (by omega) (by omega)).mp (e0.symm.trans u.2)).symm), Int32.add_zero]
            exact hF r hr)
        rw [nI_succ] at this
        exact this
  refine kd_in hf rfl rfl rfl (kd_seg (fun p => Nat.beq p 15) 20 ?_)
  refine kq_cv (kc_fill hf hc (by omega)) (fF _) ⟨kK (fF _) rfl rfl, ?_⟩
  have q' : kcl L (ka_sF h c (kh_o (ka_I h c) (fun _ => Int32.ofInt 0) 256)) := q.st (fun a a1 a2 => oth _ a (by omega))
  have hm' : kl_end (ka_sF h c (kh_o (ka_I h c) (fun _ => Int32.ofInt 0) 256)) (lNn L) (lC L) ed = nI m := by
    unfold kl_end at hm ⊢
    rw [oth _ 8 (by omega)]
    exact hm
  refine kq_ci (kc_endOf (fF _) q'.1 q'.2.1 wl.2.1) (fF _) ?_
  rw [hm']
  exact main m 0 _ (Nat.zero_add _) (fun r hr => by rw [kh_o_T _ _ hr]; rfl)
end ST
