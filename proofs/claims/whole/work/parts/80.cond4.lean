/-! ===== conditions: the reference's parts, brackets, not ===== -/
def kt_br (tp : Nat → Int32) (n : Nat) (o : kO) : kO := match o with
  | .inl x => .inl x
  | .inr (p1, tk, cd, H) => if kt_s tp n p1 < n ∧ tp (kt_s tp n p1) = 93 then .inr (kt_s tp n p1 + 1, [91] ++ (tk ++ [93]), cd, H) else .inl (1, kt_s tp n p1)
def kt_nt (o : kO) : kO := match o with
  | .inl x => .inl x
  | .inr (p1, tk, cd, H) => .inr (p1, [18] ++ tk, cd ++ [105], fun a b => !H a b)
theorem kt_wnot {tp : Nat → Int32} {n p : Nat} : kt_w tp n p = 14836 ↔ kt_is tp n p (kt_wd 16) := kt_w_is (kt_wd 16) 14836 (by decide) (by decide) (by decide) (by decide)
theorem kt_wor {tp : Nat → Int32} {n p : Nat} : kt_w tp n p = 498 ↔ kt_is tp n p (kt_wd 14) := kt_w_is (kt_wd 14) 498 (by decide) (by decide) (by decide) (by decide)
theorem kt_wand {tp : Nat → Int32} {n p : Nat} : kt_w tp n p = 1476 ↔ kt_is tp n p (kt_wd 15) := kt_w_is (kt_wd 15) 1476 (by decide) (by decide) (by decide) (by decide)
section C9
variable {g : Nat × (Nat → Int32)} {d : Nat} {h : ka_H} {s : Nat → Nat → Int32} {R : ka_R → ka_H → Prop} {n p nt nc lv : Nat} {tp : Nat → Int32}
theorem kt_okO {s1 s2 : Nat → Nat → Int32} {p' q : Nat} {tk : List Nat} {cd : List Int32} {v : Int32} (hs1 : s1 = ka_u (kt_at s q) 72 26 v) (hk : kt_ok s1 s2 p' nt nc tk cd) : kt_ok s (ka_u s2 72 26 (s 72 26)) p' nt nc tk cd := by
  obtain ⟨a1, a2, a3, a4, ⟨a5, a6, a7⟩, a8, a9, a10⟩ := hk
  subst hs1
  exact ⟨((kt_fr.u (by decide) _).tr (kt_fr.u (by decide) _)).tr (a1.tr (kt_fr.u (by decide) _)), a2, a3, ka_uS _ _ _ _, ⟨a5, a6, a7⟩, a8, a9, a10⟩
theorem kc_need0 (hf : kf g h) (hb : ¬ s 72 24 = -1) {c : Int32} : kp_T (d + 2) 170 [.ref 72, .int c] (kms h s) (kp_vo (kms h s)) := by
  refine kq_in (kms_f hf) rfl rfl rfl (kq_seg kp_no 30 ?_)
  refine kq_ci (kc_fine0 hf hb) (kms_f hf) ⟨fun _ => ?_, fun c => absurd rfl c⟩
  exact kq_ci (kc_fine0 hf hb) (kms_f hf) ⟨fun _ => ⟨rfl, rfl⟩, fun c => absurd rfl c⟩
theorem kc_part0 (hf : kf g h) (hb : ¬ s 72 24 = -1) : kp_T (d + 2) 180 [.ref 72] (kms h s) (kp_vo (kms h s)) := by
  refine kq_in (kms_f hf) rfl rfl rfl (kq_seg kp_no 30 ?_)
  exact kq_ci (kc_fine0 hf hb) (kms_f hf) ⟨fun c => absurd rfl c, fun _ => ⟨rfl, rfl⟩⟩
theorem kc_all0 (hf : kf g h) (hb : ¬ s 72 24 = -1) : kp_T (d + 3) 179 [.ref 72] (kms h s) (kp_vo (kms h s)) := by
  refine kq_in (kms_f hf) rfl rfl rfl (kq_seg kp_no 30 ?_)
  refine kq_cv (kc_part0 hf hb) (kms_f hf) ?_
  exact kq_ci (kc_fine0 hf hb) (kms_f hf) ⟨fun _ => ⟨rfl, rfl⟩, fun c => absurd rfl c⟩
theorem kc_any0 (hf : kf g h) (hb : ¬ s 72 24 = -1) : kp_T (d + 4) 178 [.ref 72] (kms h s) (kp_vo (kms h s)) := by
  refine kq_in (kms_f hf) rfl rfl rfl (kq_seg kp_no 30 ?_)
  refine kq_cv (kc_all0 hf hb) (kms_f hf) ?_
  exact kq_ci (kc_fine0 hf hb) (kms_f hf) ⟨fun _ => ⟨rfl, rfl⟩, fun c => absurd rfl c⟩
theorem kc_opensOne1 (hf : kf g h) (hb : s 72 24 = -1) (hp : s 72 23 = nI p) (h26 : s 72 26 = nI lv) (hlv : lv < 6) {k : Nat} : kp_T (d + 2) 181 [.ref 72, .int (nI k)] (kms h s) (kp_vo (kms h (ka_u (kt_at s (p + k)) 72 26 (nI (lv + 1))))) := by
  refine kq_in (kms_f hf) rfl rfl rfl (kq_seg kp_no 40 ⟨fun _ => ?_, fun c => ?_⟩)
  · refine kq_ci (kc_fine1 hf hb) (kms_f hf) ⟨fun c => absurd c (by decide), fun _ => ⟨rfl, ?_⟩⟩
    have ew : ka_sI (ka_sI (kms h s) 72 23 (s 72 23 + nI k)) 72 26 (s 72 26 + 1) = kms h (ka_u (kt_at s (p + k)) 72 26 (nI (lv + 1))) := by
      rw [kms_sI _ rfl, kms_sI _ rfl, hp, h26, nI_add, ← nI_succ]
    exact ew
  · rw [show ka_I (kms h s) 72 26 = nI lv from h26] at c
    have := (nI_eq (b := 6) (by omega) (by omega)).mp c
    omega
theorem kc_opensOne0 (hf : kf g h) (hb : s 72 24 = -1) (hp : s 72 23 = nI p) (hp2 : p ≤ 200) (h26 : s 72 26 = nI 6) {k : Int32} : kp_T (d + 2) 181 [.ref 72, .int k] (kms h s) (kp_vo (kms h (ka_u (kt_bad s 3 (nI p)) 72 26 (nI 7)))) := by
  refine kq_in (kms_f hf) rfl rfl rfl (kq_seg kp_no 40 ⟨fun c => absurd h26 c, fun _ => ?_⟩)
  have hwr : kp_T (d + 1) 163 [.ref 72, .int 3, .int (ka_I (kms h s) 72 23)] (kms h s) (kp_vo (kms h (kt_bad s 3 (nI p)))) := by
    rw [show ka_I (kms h s) 72 23 = nI p from hp]
    exact kc_wrong hf hb
  refine kq_cv hwr (kms_f hf) ?_
  refine kq_ci (kc_fine0 hf (s := kt_bad s 3 (nI p)) (nI_ne_m1 (by omega))) (kms_f hf) ⟨fun _ => ⟨rfl, ?_⟩, fun c => absurd rfl c⟩
  have ew : ka_sI (kms h (kt_bad s 3 (nI p))) 72 26 (s 72 26 + 1) = kms h (ka_u (kt_bad s 3 (nI p)) 72 26 (nI 7)) := by
    rw [kms_sI _ rfl, h26]
    rfl
  exact ew
theorem kM_A {D : Nat} {o1 : kO} (hpn : p ≤ n) (hq : kt_s tp n p < n) (hc : tp (kt_s tp n p) = 91) (hlv : lv < 6) (hM : kMd D 178 n tp (kt_s tp n p + 1) (lv + 1) o1) (hP : kPd n (kt_s tp n p + 1) (16 - 2 * (lv + 1)) o1) (hD : 4 ≤ D) : kMd (D + 1) 180 n tp p lv (kt_br tp n o1) := by
  intro g h s nt nc R hf hT h23 h24 h26 h30 h31 hnt hnc e1 e2
  obtain ⟨D', rfl⟩ : ∃ D', D = D' + 4 := ⟨D - 4, by omega⟩
  have hle := kt_s_le tp n p hpn
  have h200 := hT.2.1
  generalize hq0 : kt_s tp n p = q at hq hc hM hP hle
  refine kq_in (kms_f hf) rfl rfl rfl (kq_seg kp_no 80 ?_)
  refine kq_ci (kc_fine1 hf h24) (kms_f hf) ⟨fun _ => ?_, fun c => absurd c (by decide)⟩
  refine kc_here hf hT h23 hpn ⟨kms_f hf, ?_⟩
  rw [hq0, if_pos hq, hc]
  refine ⟨fun c => absurd rfl c, fun _ => ?_⟩
  refine kq_cv (kc_opensOne1 (s := kt_at s q) (p := q) (lv := lv) (k := 1) hf h24 (ka_uS _ _ _ _) h26 hlv) (kms_f hf) ?_
  rw [kt_at_at]
  generalize hs1 : ka_u (kt_at s (q + 1)) 72 26 (nI (lv + 1)) = s1
  have b1 : s1 72 24 = -1 := by rw [← hs1]; exact h24
  have b2 : s1 72 30 = nI nt := by rw [← hs1]; exact h30
  have b3 : s1 72 31 = nI nc := by rw [← hs1]; exact h31
  have b4 : s1 72 23 = nI (q + 1) := by rw [← hs1]; rfl
  have b5 : s1 72 26 = nI (lv + 1) := by rw [← hs1]; rfl
  have hfr1 : kt_fr s s1 := by rw [← hs1]; exact (kt_fr.u (by decide) _).tr (kt_fr.u (by decide) _)
  have ok1 : kt_ok s1 s1 (q + 1) nt nc [] [] := kt_ok1 (kt_fr.rfl' _) b4 b1 rfl b2 b3 (fun _ => rfl) (fun _ => rfl)
  refine kq_cv (kc_token1 hf b1 (nt := nt) b2 (by omega)) (kms_f hf) ?_
  have ok2 : kt_ok s1 (ka_u (ka_u s1 90 nt (tM 91)) 72 30 (nI (nt + 1))) (q + 1) nt nc ([] ++ [91]) [] := kt_okt ok1 91
  generalize hs2 : ka_u (ka_u s1 90 nt (tM 91)) 72 30 (nI (nt + 1)) = s2 at ok2
  rw [show ka_u (ka_u s1 90 nt (Int32.ofInt 106)) 72 30 (nI (nt + 1)) = s2 from hs2]
  refine hM g h s2 (nt + 1) nc _ hf hT ok2.2.1 ok2.2.2.1 (ok2.2.2.2.1.trans b5) ok2.2.2.2.2.1.1 ok2.2.2.2.2.2.1 (by omega) (by omega) (fun kd pl s' ho hfr c24 c25 => ⟨kms_f hf, ?_⟩) (fun p1 tk cd H s3 ho hok => ⟨kms_f hf, ?_⟩)
  · have hpl := hP.1 kd pl ho
    have hb' : ¬ s' 72 24 = -1 := by rw [c24]; exact nI_ne_m1 (by omega)
    refine kq_cv (kc_need0 hf hb') (kms_f hf) ?_
    refine kq_cv (kc_token0 hf hb') (kms_f hf) ?_
    have ew : ka_sI (kms h s') 72 26 (s' 72 26 - 1) = kms h (ka_u s' 72 26 (s' 72 26 - 1)) := kms_sI _ rfl
    have := e1 kd pl (ka_u s' 72 26 (s' 72 26 - 1)) (by rw [ho]; rfl) (hfr1.tr (ok2.1.tr (hfr.tr (kt_fr.u (by decide) _)))) c24 c25
    rw [← ew] at this
    exact this
  · have hpp := hP.2 p1 tk cd H ho
    have hle1 := kt_s_le tp n p1 (by omega)
    have ok3 : kt_ok s1 s3 p1 nt nc (([] ++ [91]) ++ tk) ([] ++ cd) := ok2.tr hok
    refine kc_need hf hT hok.2.1 (by omega) hok.2.2.1 (by decide) (fun a1 a2 => ⟨kms_f hf, ?_⟩) (fun a1 => ⟨kms_f hf, ?_⟩)
    · have ok4 := kt_oka ok3 (kt_s tp n p1 + 1)
      have hlen : (([] ++ [91]) ++ tk : List Nat).length = 1 + tk.length := by simp; omega
      refine kq_cv (kc_token1 hf ok4.2.2.1 (nt := nt + (1 + tk.length)) (by rw [ok4.2.2.2.2.1.1, hlen]) (by omega)) (kms_f hf) ?_
      have ok5 := kt_okt ok4 93
      rw [hlen] at ok5
      have ok6 := kt_okO (s := s) (q := q + 1) (v := nI (lv + 1)) hs1.symm ok5
      have ho' : kt_br tp n o1 = .inr (kt_s tp n p1 + 1, [91] ++ (tk ++ [93]), cd, H) := by
        rw [ho]; unfold kt_br
        show (if _ then _ else _) = _
        rw [if_pos ⟨a1, a2⟩]
      have := e2 _ _ _ _ _ ho' (by simpa using ok6)
      have ew : ∀ s9 : Nat → Nat → Int32, s9 72 26 = nI (lv + 1) → ka_sI (kms h s9) 72 26 (s9 72 26 - 1) = kms h (ka_u s9 72 26 (s 72 26)) := fun s9 h9 => by
        rw [kms_sI _ rfl, h9, h26]
        congr 2
        exact nI_pred lv
      rw [← ew _ (ok5.2.2.2.1.trans b5)] at this
      exact this
    · have hb' : ¬ (kt_bad (kt_at s3 (kt_s tp n p1)) 1 (nI (kt_s tp n p1))) 72 24 = -1 := nI_ne_m1 (by omega)
      refine kq_cv (kc_token0 hf hb') (kms_f hf) ?_
      have ho' : kt_br tp n o1 = .inl (1, kt_s tp n p1) := by
        rw [ho]; unfold kt_br
        show (if _ then _ else _) = _
        rw [if_neg (show ¬ (kt_s tp n p1 < n ∧ tp (kt_s tp n p1) = 93) from a1)]
      have ew : ∀ s9 : Nat → Nat → Int32, ka_sI (kms h s9) 72 26 (s9 72 26 - 1) = kms h (ka_u s9 72 26 (s9 72 26 - 1)) := fun s9 => kms_sI _ rfl
      have := e1 1 (kt_s tp n p1) (ka_u (kt_bad (kt_at s3 (kt_s tp n p1)) 1 (nI (kt_s tp n p1))) 72 26 (kt_bad (kt_at s3 (kt_s tp n p1)) 1 (nI (kt_s tp n p1)) 72 26 - 1)) ho' (hfr1.tr (ok3.1.tr ((kt_fr.u (by decide) _).tr ((kt_fr.u (by decide) _).tr ((kt_fr.u (by decide) _).tr (kt_fr.u (by decide) _)))))) rfl rfl
      rw [← ew] at this
      exact this
theorem kM_A6 (hpn : p ≤ n) (hq : kt_s tp n p < n) (hc : tp (kt_s tp n p) = 91) : kMd (d + 5) 180 n tp p 6 (.inl (3, kt_s tp n p)) := by
  intro g h s nt nc R hf hT h23 h24 h26 h30 h31 hnt hnc e1 e2
  have hle := kt_s_le tp n p hpn
  have h200 := hT.2.1
  generalize hq0 : kt_s tp n p = q at hq hc hle e1
  refine kq_in (kms_f hf) rfl rfl rfl (kq_seg kp_no 80 ?_)
  refine kq_ci (kc_fine1 hf h24) (kms_f hf) ⟨fun _ => ?_, fun c => absurd c (by decide)⟩
  refine kc_here hf hT h23 hpn ⟨kms_f hf, ?_⟩
  rw [hq0, if_pos hq, hc]
  refine ⟨fun c => absurd rfl c, fun _ => ?_⟩
  refine kq_cv (kc_opensOne0 (s := kt_at s q) (p := q) hf h24 (ka_uS _ _ _ _) (by omega) h26) (kms_f hf) ?_
  have hb' : ¬ (ka_u (kt_bad (kt_at s q) 3 (nI q)) 72 26 (nI 7)) 72 24 = -1 := nI_ne_m1 (by omega)
  refine kq_cv (kc_token0 hf hb') (kms_f hf) ?_
  refine kq_cv (kc_any0 hf hb') (kms_f hf) ?_
  refine kq_cv (kc_need0 hf hb') (kms_f hf) ?_
  refine kq_cv (kc_token0 hf hb') (kms_f hf) ?_
  have ew : ∀ s9 : Nat → Nat → Int32, ka_sI (kms h s9) 72 26 (s9 72 26 - 1) = kms h (ka_u s9 72 26 (s9 72 26 - 1)) := fun s9 => kms_sI _ rfl
  have := e1 3 q (ka_u (ka_u (kt_bad (kt_at s q) 3 (nI q)) 72 26 (nI 7)) 72 26 ((ka_u (kt_bad (kt_at s q) 3 (nI q)) 72 26 (nI 7)) 72 26 - 1)) rfl ((kt_fr.u (by decide) _).tr ((kt_fr.u (by decide) _).tr ((kt_fr.u (by decide) _).tr ((kt_fr.u (by decide) _).tr (kt_fr.u (by decide) _))))) rfl rfl
  rw [← ew] at this
  exact this
theorem kM_B {D : Nat} {o1 : kO} (hpn : p ≤ n) (hc : ¬ (kt_s tp n p < n ∧ tp (kt_s tp n p) = 91)) (hw : kt_is tp n (kt_s tp n p) (kt_wd 16)) (hlv : lv < 6) (hM : kMd D 180 n tp (kt_s tp n p + 3) (lv + 1) o1) (hP : kPd n (kt_s tp n p + 3) (14 - 2 * (lv + 1)) o1) (hD : 4 ≤ D) : kMd (D + 1) 180 n tp p lv (kt_nt o1) := by
  intro g h s nt nc R hf hT h23 h24 h26 h30 h31 hnt hnc e1 e2
  obtain ⟨D', rfl⟩ : ∃ D', D = D' + 4 := ⟨D - 4, by omega⟩
  have hle := kt_s_le tp n p hpn
  have h200 := hT.2.1
  have hid := kt_s_id (tp := tp) hpn
  generalize hq0 : kt_s tp n p = q at hc hw hM hP hle hid
  have hrl := kt_r_le kt_sm tp n q hle.2
  have hr3 : kt_r kt_sm tp n q = 3 := hw.1
  refine kq_in (kms_f hf) rfl rfl rfl (kq_seg kp_no 80 ?_)
  refine kq_ci (kc_fine1 hf h24) (kms_f hf) ⟨fun _ => ?_, fun c => absurd c (by decide)⟩
  refine kc_here hf hT h23 hpn ⟨kms_f hf, ?_⟩
  rw [hq0, if_pos (show q < n by omega)]
  refine ⟨fun _ => ?_, fun c => absurd ⟨show q < n by omega, c⟩ hc⟩
  refine kc_word (s := kt_at s q) hf hT (ka_uS _ _ _ _) hle.2 (fun w hw9 => ⟨kms_f hf, ?_⟩)
  rw [hid] at hw9 ⊢
  rw [kt_at_at, hw9, kt_wnot.mpr hw]
  refine ⟨fun c => absurd rfl c, fun _ => ?_⟩
  refine kq_cv (kc_opensOne1 (s := kt_at s q) (p := q) (lv := lv) (k := 3) hf h24 (ka_uS _ _ _ _) h26 hlv) (kms_f hf) ?_
  rw [kt_at_at]
  generalize hs1 : ka_u (kt_at s (q + 3)) 72 26 (nI (lv + 1)) = s1
  have b1 : s1 72 24 = -1 := by rw [← hs1]; exact h24
  have b2 : s1 72 30 = nI nt := by rw [← hs1]; exact h30
  have b3 : s1 72 31 = nI nc := by rw [← hs1]; exact h31
  have b4 : s1 72 23 = nI (q + 3) := by rw [← hs1]; rfl
  have b5 : s1 72 26 = nI (lv + 1) := by rw [← hs1]; rfl
  have hfr1 : kt_fr s s1 := by rw [← hs1]; exact (kt_fr.u (by decide) _).tr (kt_fr.u (by decide) _)
  have ok1 : kt_ok s1 s1 (q + 3) nt nc [] [] := kt_ok1 (kt_fr.rfl' _) b4 b1 rfl b2 b3 (fun _ => rfl) (fun _ => rfl)
  refine kq_cv (kc_token1 hf b1 (nt := nt) b2 (by omega)) (kms_f hf) ?_
  have ok2 : kt_ok s1 (ka_u (ka_u s1 90 nt (tM 18)) 72 30 (nI (nt + 1))) (q + 3) nt nc ([] ++ [18]) [] := kt_okt ok1 18
  generalize hs2 : ka_u (ka_u s1 90 nt (tM 18)) 72 30 (nI (nt + 1)) = s2 at ok2
  rw [show ka_u (ka_u s1 90 nt (Int32.ofInt 105)) 72 30 (nI (nt + 1)) = s2 from hs2]
  refine hM g h s2 (nt + 1) nc _ hf hT ok2.2.1 ok2.2.2.1 (ok2.2.2.2.1.trans b5) ok2.2.2.2.2.1.1 ok2.2.2.2.2.2.1 (by omega) (by omega) (fun kd pl s' ho hfr c24 c25 => ⟨kms_f hf, ?_⟩) (fun p1 tk cd H s3 ho hok => ⟨kms_f hf, ?_⟩)
  · have hpl := hP.1 kd pl ho
    have hb' : ¬ s' 72 24 = -1 := by rw [c24]; exact nI_ne_m1 (by omega)
    have ew : ka_sI (kms h s') 72 26 (s' 72 26 - 1) = kms h (ka_u s' 72 26 (s' 72 26 - 1)) := kms_sI _ rfl
    have := e1 kd pl (ka_u s' 72 26 (s' 72 26 - 1)) (by rw [ho]; rfl) (hfr1.tr (ok2.1.tr (hfr.tr (kt_fr.u (by decide) _)))) c24 c25
    have hem := kc_emit0 (d := D' + 2) (s := ka_u s' 72 26 (s' 72 26 - 1)) (v := 105) hf hb'
    rw [← ew] at hem this
    refine kq_cv hem (by rw [ew]; exact kms_f hf) this
  · have hpp := hP.2 p1 tk cd H ho
    have ok3 : kt_ok s1 s3 p1 nt nc (([] ++ [18]) ++ tk) ([] ++ cd) := ok2.tr hok
    have ok6 := kt_okO (s := s) (q := q + 3) (v := nI (lv + 1)) hs1.symm ok3
    have ew : ka_sI (kms h s3) 72 26 (s3 72 26 - 1) = kms h (ka_u s3 72 26 (s 72 26)) := by
      rw [kms_sI _ rfl, show s3 72 26 = nI (lv + 1) from ok3.2.2.2.1.trans b5, h26]
      congr 2
      exact nI_pred lv
    have hem := kc_emit1 (d := D' + 2) (v := 105) hf ok6.2.2.1 (nc := nc + cd.length) (by rw [ok6.2.2.2.2.2.1]; simp) (by omega)
    have ok7 := kt_okc ok6 105
    have ho' : kt_nt o1 = .inr (p1, [18] ++ tk, cd ++ [105], fun a b => !H a b) := by rw [ho]; rfl
    have := e2 _ _ _ _ _ ho' (by simpa using ok7)
    rw [← ew] at hem
    have h9 : R (.inl none) (kms h (ka_u (ka_u (ka_u s3 72 26 (s 72 26)) 91 (nc + cd.length) 105) 72 31 (nI (nc + cd.length + 1)))) := by simpa using this
    exact kq_cv hem (kms_f hf) h9
theorem kM_B6 (hpn : p ≤ n) (hc : ¬ (kt_s tp n p < n ∧ tp (kt_s tp n p) = 91)) (hw : kt_is tp n (kt_s tp n p) (kt_wd 16)) : kMd (d + 5) 180 n tp p 6 (.inl (3, kt_s tp n p)) := by
  intro g h s nt nc R hf hT h23 h24 h26 h30 h31 hnt hnc e1 e2
  have hle := kt_s_le tp n p hpn
  have h200 := hT.2.1
  have hid := kt_s_id (tp := tp) hpn
  generalize hq0 : kt_s tp n p = q at hc hw hle hid e1
  have hrl := kt_r_le kt_sm tp n q hle.2
  have hr3 : kt_r kt_sm tp n q = 3 := hw.1
  refine kq_in (kms_f hf) rfl rfl rfl (kq_seg kp_no 80 ?_)
  refine kq_ci (kc_fine1 hf h24) (kms_f hf) ⟨fun _ => ?_, fun c => absurd c (by decide)⟩
  refine kc_here hf hT h23 hpn ⟨kms_f hf, ?_⟩
  rw [hq0, if_pos (show q < n by omega)]
  refine ⟨fun _ => ?_, fun c => absurd ⟨show q < n by omega, c⟩ hc⟩
  refine kc_word (s := kt_at s q) hf hT (ka_uS _ _ _ _) hle.2 (fun w hw9 => ⟨kms_f hf, ?_⟩)
  rw [hid] at hw9 ⊢
  rw [kt_at_at, hw9, kt_wnot.mpr hw]
  refine ⟨fun c => absurd rfl c, fun _ => ?_⟩
  refine kq_cv (kc_opensOne0 (s := kt_at s q) (p := q) hf h24 (ka_uS _ _ _ _) (by omega) h26) (kms_f hf) ?_
  have hb' : ¬ (ka_u (kt_bad (kt_at s q) 3 (nI q)) 72 26 (nI 7)) 72 24 = -1 := nI_ne_m1 (by omega)
  refine kq_cv (kc_token0 hf hb') (kms_f hf) ?_
  refine kq_cv (kc_part0 hf hb') (kms_f hf) ?_
  have ew : ∀ s9 : Nat → Nat → Int32, ka_sI (kms h s9) 72 26 (s9 72 26 - 1) = kms h (ka_u s9 72 26 (s9 72 26 - 1)) := fun s9 => kms_sI _ rfl
  have := e1 3 q (ka_u (ka_u (kt_bad (kt_at s q) 3 (nI q)) 72 26 (nI 7)) 72 26 ((ka_u (kt_bad (kt_at s q) 3 (nI q)) 72 26 (nI 7)) 72 26 - 1)) rfl ((kt_fr.u (by decide) _).tr ((kt_fr.u (by decide) _).tr ((kt_fr.u (by decide) _).tr ((kt_fr.u (by decide) _).tr (kt_fr.u (by decide) _))))) rfl rfl
  have hem := kc_emit0 (d := d + 2) (s := ka_u (ka_u (kt_bad (kt_at s q) 3 (nI q)) 72 26 (nI 7)) 72 26 ((ka_u (kt_bad (kt_at s q) 3 (nI q)) 72 26 (nI 7)) 72 26 - 1)) (v := 105) hf hb'
  rw [← ew] at this hem
  exact kq_cv hem (by rw [ew]; exact kms_f hf) this
theorem kM_C (hpn : p ≤ n) (hc : ¬ (kt_s tp n p < n ∧ tp (kt_s tp n p) = 91)) (hw : ¬ kt_is tp n (kt_s tp n p) (kt_wd 16)) : kMd (d + 5) 180 n tp p lv (kt_cmp tp n (kt_s tp n p)) := by
  intro g h s nt nc R hf hT h23 h24 h26 h30 h31 hnt hnc e1 e2
  have hle := kt_s_le tp n p hpn
  have h200 := hT.2.1
  have hid := kt_s_id (tp := tp) hpn
  generalize hq0 : kt_s tp n p = q at hc hw hle hid e1 e2
  refine kq_in (kms_f hf) rfl rfl rfl (kq_seg (fun p => Nat.beq p 101) 80 ?_)
  refine kq_ci (kc_fine1 hf h24) (kms_f hf) ⟨fun _ => ?_, fun c => absurd c (by decide)⟩
  refine kc_here hf hT h23 hpn ⟨kms_f hf, ?_⟩
  rw [hq0]
  refine ⟨fun _ => ?_, fun c => ?_⟩
  · refine kc_word (s := kt_at s q) hf hT (ka_uS _ _ _ _) hle.2 (fun w hw9 => ⟨kms_f hf, ?_⟩)
    rw [hid] at hw9 ⊢
    rw [kt_at_at]
    refine ⟨fun _ => ?_, fun c => absurd (kt_wnot.mp (hw9.symm.trans c)) hw⟩
    have ok1 : kt_ok s (kt_at s q) q nt nc [] [] := kt_ok1 (kt_fr.u (by decide) _) (ka_uS _ _ _ _) h24 rfl h30 h31 (fun _ => rfl) (fun _ => rfl)
    refine kc_cmpM (s := kt_at s q) (nt := nt) (nc := nc) hf hT (ka_uS _ _ _ _) hle.2 h24 h30 h31 (by omega) (by omega) (fun kd pl s' ho hfr c24 c25 => e1 kd pl s' ho ((kt_fr.u (by decide) _).tr hfr) c24 c25) (fun p' tk cd H s' ho hok => e2 p' tk cd H s' ho (ok1.tr hok))
  · exfalso
    by_cases z : q < n
    · rw [if_pos z] at c
      exact hc ⟨z, c⟩
    · rw [if_neg z] at c
      exact absurd c (by decide)
end C9
