/-! ===== conditions: the class's bases: brackets, not ===== -/
section C10
variable {g : Nat × (Nat → Int32)} {d : Nat} {h : ka_H} {s : Nat → Nat → Int32} {w : Nat → Nat} {R : ka_R → ka_H → Prop} {n p sc lv : Nat} {tp : Nat → Int32}
theorem kt_nonot {q : Nat} (hq : tp q = 91) : ¬ kt_is tp n q (kt_wd 16) := fun z => by
  have h3 : kt_r kt_sm tp n q = 3 := z.1
  rw [kt_r_no (show ¬ kt_sm (tp q) = true by rw [hq]; decide)] at h3
  omega
theorem ka_cpy0 (f f' : Nat → Int32) : ka_cpy f f' 0 0 16 = kh_o f' f 16 := by
  funext k
  unfold ka_cpy kh_o
  by_cases c : k < 16
  · rw [if_pos (by omega), if_pos c, Nat.zero_add, Nat.sub_zero]
  · rw [if_neg (by omega), if_neg c]
/-- the copying of one level's lines into another array -/
theorem kcp_ok {a b : Nat} (ha : kr h a 16) (hb : kr h b 16) : (0 ≤ (Int32.ofInt 0).toInt ∧ 0 ≤ (Int32.ofInt 0).toInt ∧ 0 ≤ (Int32.ofInt 16).toInt ∧ (Int32.ofInt 0).toInt + (Int32.ofInt 16).toInt ≤ kd_z h a ∧ (Int32.ofInt 0).toInt + (Int32.ofInt 16).toInt ≤ kd_z h b) := by
  unfold kd_z
  rw [ha.2, hb.2]
  decide
theorem kC_br {D : Nat} {o1 : kO} (hpn : p ≤ n) (hid : kt_s tp n p = p) (hq : p < n) (hc : tp p = 91) (hlv : lv < 6) (hC : kCd D 2 n tp (p + 1) (lv + 1) (lv + 1) (lv + 1) (lv + 1) (31 + (lv + 1)) o1) (hP : kPd n (p + 1) (16 - 2 * (lv + 1)) o1) (hD : 3 ≤ D) : kCd (D + 1) 6 n tp p lv lv (lv + 1) (lv + 1) (23 + lv) (kt_br tp n o1) := by
  intro g h s w sc R hf hU h92 h135 hsc e1 e2
  obtain ⟨D', rfl⟩ : ∃ D', D = D' + 3 := ⟨D - 3, by omega⟩
  have h200 := hU.2.1
  have hK : ∀ s', (ka_K (kcs h s' w) 13).1 = 0 := fun s' => kK (kcs_f (s := s') (w := w) hf) rfl rfl
  have j28 : ∀ s' : Nat → Nat → Int32, R (kp_ri 0) (kcs h s' w) → kd_ex g (D' + 3) 6 R 28 [.ref 13, .int (nI lv)] [] (kcs h s' w) := fun s' hR => kd_seg kp_no 4 ⟨Or.inl rfl, hR⟩
  refine kd_in (kcs_f hf) rfl rfl rfl (kd_seg (fun p => Nat.beq p 28) 60 ⟨hK s, ?_⟩)
  refine kc_readSign (c := 91) hf hU h92 hpn h135 hsc (fun a1 => absurd ⟨by rw [hid]; exact hq, by rw [hid]; exact hc⟩ a1) (fun a1 a2 s1 hok1 => ⟨kcs_f hf, ⟨fun c => absurd c (by decide), fun _ => ⟨hK s1, ?_⟩⟩⟩)
  rw [hid] at hok1
  have hcall := hC g h s1 w (sc + 1)
  rw [nI_succ lv] at hcall
  refine hcall _ hf hU hok1.2.1 hok1.2.2.2.1 (by omega) (fun kd pl s' ho hfr c3 c4 => ⟨kcs_f hf, ⟨fun _ => j28 s' ?_, fun c => absurd rfl c⟩⟩) (fun p1 tk cd H s2 ho hok2 hH => ⟨kcs_f hf, ⟨fun c => absurd c (by decide), fun _ => ⟨hK s2, ?_⟩⟩⟩)
  · exact e1 kd pl s' (by rw [ho]; rfl) ((hok1.1.le (by omega) (by omega) (by omega)).tr (hfr.le (by omega) (Nat.le_refl _) (Nat.le_refl _))) c3 c4
  · have hpp := hP.2 p1 tk cd H ho
    have hle1 := kt_s_le tp n p1 (by omega)
    have hok12 : ct_ok (lv + 1) (lv + 1) (lv + 1) s s2 p1 sc ([91] ++ tk) := (hok1.le (by omega) (by omega) (by omega)).tr hok2
    have hlen : ([91] ++ tk : List Nat).length = 1 + tk.length := by simp; omega
    refine kc_readSign (c := 93) hf hU hok2.2.1 (by omega) (sc := sc + (1 + tk.length)) (by rw [hok12.2.2.2.1, hlen]) (by omega) (fun a1 s' hfr c3 c4 => ⟨kcs_f hf, ⟨fun c => absurd rfl c, fun _ => j28 s' ?_⟩⟩) (fun a1 a2 s3 hok3 => ⟨kcs_f hf, ⟨fun _ => ⟨hK s3, ?_⟩, fun c => absurd c (by decide)⟩⟩)
    · refine e1 1 _ s' ?_ ((hok12.1.tr (hfr.le (by omega) (by omega) (by omega))).le (by omega) (Nat.le_refl _) (Nat.le_refl _)) c3 c4
      rw [ho]; unfold kt_br
      show (if _ then _ else _) = _
      rw [if_neg (show ¬ (kt_s tp n p1 < n ∧ tp (kt_s tp n p1) = 93) from a1)]
    · have hok3' : ct_ok (lv + 1) (lv + 1) (lv + 1) s s3 (kt_s tp n p1 + 1) sc (([91] ++ tk) ++ [93]) := hok12.tr (by rw [hlen]; exact hok3.le (by omega) (by omega) (by omega))
      have hfk : kf g (kcs h s3 w) := kcs_f hf
      have hL1 := kL hfk (l := lv + 1) (by omega)
      have hL0 := kL hfk (l := lv) (by omega)
      refine ⟨by rw [show nI lv + Int32.ofInt 1 = nI (lv + 1) from (nI_succ lv).symm]; exact kaa hfk (by omega) (Or.inr (Or.inr rfl)), ?_⟩
      rw [show nI lv + Int32.ofInt 1 = nI (lv + 1) from (nI_succ lv).symm, nI_clamp (by omega)]
      rw [show ka_P (kcs h s3 w) (kq_p (kcs h s3 w) 13 3) (lv + 1) = 31 + (lv + 1) from hL1.1.2.2]
      refine ⟨hK s3, ⟨kaa hfk (by omega) (Or.inr (Or.inl rfl)), ?_⟩⟩
      rw [nI_clamp (by omega)]
      rw [show ka_P (kcs h s3 w) (kq_p (kcs h s3 w) 13 2) lv = 23 + lv from hL0.1.2.1]
      refine ⟨hL1.2.2.2.1, hL0.2.2.1.1, kcp_ok hL1.2.2.2 hL0.2.2.1, ?_⟩
      rw [show ((Int32.ofInt 0).toNatClampNeg) = 0 from rfl, show ((Int32.ofInt 16).toNatClampNeg) = 16 from rfl, ka_cpy0, kcs_sF (by omega) (by omega)]
      have ho' : kt_br tp n o1 = .inr (kt_s tp n p1 + 1, [91] ++ (tk ++ [93]), cd, H) := by
        rw [ho]; unfold kt_br
        show (if _ then _ else _) = _
        rw [if_pos (show kt_s tp n p1 < n ∧ tp (kt_s tp n p1) = 93 from ⟨a1, a2⟩)]
      refine ⟨Or.inr rfl, e2 _ _ _ _ _ ho' (by rw [← List.append_assoc]; exact ct_okF hok3' _ (by omega) (by omega) ((ct_fr.b (by omega) _).le (Nat.le_refl _) (by omega) (by omega)) (by omega) (Nat.le_refl _) (Nat.le_refl _)) (fun a b ha hb => ?_)⟩
      rw [ka_uF_S, kh_o_T _ _ ha, kcs_I' (by omega) (by omega), ← hH a b ha hb]
      rw [show s3 (31 + (lv + 1)) = s2 (31 + (lv + 1)) from hok3.1.2.2.2.2 (lv + 1) (by omega)]
theorem kC_nt {D : Nat} {o1 : kO} (hpn : p + 3 ≤ n) (hlv : lv < 6) (hC : kCd D 4 n tp (p + 3) (lv + 1) (lv + 1) (lv + 1 + 1) (lv + 1 + 1) (23 + (lv + 1)) o1) (hD : 1 ≤ D) : ∀ (g : Nat × (Nat → Int32)) (h : ka_H) (s : Nat → Nat → Int32) (w : Nat → Nat) (sc : Nat) (R : ka_R → ka_H → Prop), kf g h → kU h n tp → s 9 2 = nI (p + 3) → s 13 5 = nI sc → sc ≤ p →
    (∀ kd pl s', kt_nt o1 = .inl (kd, pl) → ct_fr lv (lv + 1) (lv + 1) s s' → s' 9 3 = nI kd → s' 9 4 = nI pl → R (kp_ri 0) (kcs h s' w)) → (∀ p' tk cd H s', kt_nt o1 = .inr (p', tk, cd, H) → ct_ok lv (lv + 1) (lv + 1) s s' p' sc tk → (∀ a b, a < 16 → b < 16 → bt (s' (23 + lv) a) b = H a b) → R (kp_ri 1) (kcs h s' w)) → kp_T (D + 1) 5 [.ref 13, .int (nI lv)] (kcs h s w) R := by
  intro g h s w sc R hf hU h92 h135 hsc e1 e2
  obtain ⟨D', rfl⟩ : ∃ D', D = D' + 1 := ⟨D - 1, by omega⟩
  have h200 := hU.2.1
  have hK : ∀ s', (ka_K (kcs h s' w) 13).1 = 0 := fun s' => kK (kcs_f (s := s') (w := w) hf) rfl rfl
  refine kd_in (kcs_f hf) rfl rfl rfl (kd_seg (fun p => Nat.beq p 21) 60 ⟨hK s, ?_⟩)
  refine kc_addSign (v := 18) hf h135 (by omega) ⟨kcs_f hf, ⟨hK _, ?_⟩⟩
  have hok0 : ct_ok 7 7 7 s (ct_at s (p + 3)) (p + 3) sc [] := ct_ok0 h135
  rw [show ct_at s (p + 3) = s from ka_u_id h92] at hok0
  have hok1 : ct_ok 7 7 7 s (ka_u (ka_u s 38 sc 18) 13 5 (nI (sc + 1))) (p + 3) sc ([] ++ [18]) := ct_okt hok0 (Nat.le_refl _) (Nat.le_refl _) (Nat.le_refl _) 18
  generalize hs1 : ka_u (ka_u s 38 sc 18) 13 5 (nI (sc + 1)) = s1 at hok1
  have hcall := hC g h s1 w (sc + 1)
  rw [nI_succ lv] at hcall
  refine hcall _ hf hU hok1.2.1 hok1.2.2.2.1 (by omega) (fun kd pl s' ho hfr c3 c4 => ⟨kcs_f hf, ⟨fun c => absurd rfl c, fun _ => ⟨Or.inl rfl, ?_⟩⟩⟩) (fun p1 tk cd H s2 ho hok2 hH => ⟨kcs_f hf, ⟨fun _ => ?_, fun c => absurd c (by decide)⟩⟩)
  · exact e1 kd pl s' (by rw [ho]; rfl) ((hok1.1.le (by omega) (by omega) (by omega)).tr (hfr.le (by omega) (by omega) (by omega))) c3 c4
  · have hok12 : ct_ok (lv + 1) (lv + 1 + 1) (lv + 1 + 1) s s2 p1 sc ([18] ++ tk) := (hok1.le (by omega) (by omega) (by omega)).tr hok2
    have hd := kq_for (P := fun k => kd_ex g (D' + 1) 5 R 21 [.ref 13, .int (nI lv), .int (nI k)] [] (kcs h (ka_uF s2 (23 + lv) (kh_o (s2 (23 + lv)) (fun a => s2 (23 + (lv + 1)) a ^^^ (-1)) k)) w)) 16 ?_ (fun k hk ih => ?_)
    · rw [kh_o_0, ka_uF_id] at hd
      exact hd
    · refine kd_seg (fun p => Nat.beq p 21) 20 ⟨fun _ => ⟨Or.inr rfl, ?_⟩, fun c => absurd c (nI_nlt (b := 16) (by omega) (by omega))⟩
      have ho' : kt_nt o1 = .inr (p1, [18] ++ tk, cd ++ [105], fun a b => !H a b) := by rw [ho]; rfl
      refine e2 _ _ _ _ _ ho' (ct_okF hok12 _ (by omega) (by omega) ((ct_fr.b (by omega) _).le (Nat.le_refl _) (by omega) (by omega)) (by omega) (by omega) (by omega)) (fun a b ha hb => ?_)
      rw [ka_uF_S, kh_o_T _ _ ha, b_xor, b_m1 b (by omega), hH a b ha hb]
      cases H a b <;> rfl
    · have hfk : kf g (kcs h (ka_uF s2 (23 + lv) (kh_o (s2 (23 + lv)) (fun a => s2 (23 + (lv + 1)) a ^^^ (-1)) k)) w) := kcs_f hf
      have hL1 := kL hfk (l := lv + 1) (by omega)
      have hL0 := kL hfk (l := lv) (by omega)
      generalize hsk : ka_uF s2 (23 + lv) (kh_o (s2 (23 + lv)) (fun a => s2 (23 + (lv + 1)) a ^^^ (-1)) k) = sk at hfk hL1 hL0
      refine kd_seg (fun p => Nat.beq p 21) 30 ⟨fun c => absurd (nI_lt (b := 16) hk (by omega)) c, fun _ => ⟨hK _, ⟨kaa hfk (by omega) (Or.inr (Or.inl rfl)), ?_⟩⟩⟩
      rw [nI_clamp (by omega)]
      rw [show ka_P (kcs h sk w) (kq_p (kcs h sk w) 13 2) lv = 23 + lv from hL0.1.2.1]
      refine ⟨hK _, ⟨by rw [show nI lv + Int32.ofInt 1 = nI (lv + 1) from (nI_succ lv).symm]; exact kaa hfk (by omega) (Or.inr (Or.inl rfl)), ?_⟩⟩
      rw [show nI lv + Int32.ofInt 1 = nI (lv + 1) from (nI_succ lv).symm, nI_clamp (by omega)]
      rw [show ka_P (kcs h sk w) (kq_p (kcs h sk w) 13 2) (lv + 1) = 23 + (lv + 1) from hL1.1.2.1]
      refine ⟨kr_in hL1.2.2.1 hk (by omega), ⟨hL0.2.2.1.1, kr_st hL0.2.2.1 hk (by omega), ?_⟩⟩
      rw [nI_clamp (by omega), kcs_I' (by omega) (by omega)]
      rw [show sk (23 + (lv + 1)) k = s2 (23 + (lv + 1)) k by rw [← hsk, ka_uF_N _ _ (by omega)]]
      rw [← hsk, kcs_sI' (by omega) (by omega), show s2 (23 + (lv + 1)) k ^^^ Int32.ofInt (-1) = (fun a => s2 (23 + (lv + 1)) a ^^^ (-1)) k from rfl, kh_o_s]
      rw [nI_succ] at ih
      exact ih
theorem kC_A {D : Nat} {o1 : kO} (hpn : p ≤ n) (hq : kt_s tp n p < n) (hc : tp (kt_s tp n p) = 91) (hlv : lv < 6) (hC : kCd D 2 n tp (kt_s tp n p + 1) (lv + 1) (lv + 1) (lv + 1) (lv + 1) (31 + (lv + 1)) o1) (hP : kPd n (kt_s tp n p + 1) (16 - 2 * (lv + 1)) o1) (hD : 4 ≤ D) : kCd (D + 2) 4 n tp p lv lv (lv + 1) (lv + 1) (23 + lv) (kt_br tp n o1) := by
  intro g h s w sc R hf hU h92 h135 hsc e1 e2
  obtain ⟨D', rfl⟩ : ∃ D', D = D' + 4 := ⟨D - 4, by omega⟩
  have hle := kt_s_le tp n p hpn
  have h200 := hU.2.1
  have hid := kt_s_id (tp := tp) hpn
  generalize hq0 : kt_s tp n p = q at hq hc hC hP hle hid
  have hbr := kC_br (p := q) hle.2 hid hq hc hlv hC hP (by omega)
  refine kq_in (kcs_f hf) rfl rfl rfl (kq_seg kp_no 60 ?_)
  refine kc_skip hf hU h92 hpn ?_
  rw [hq0]
  refine ⟨kcs_f hf, ?_⟩
  refine kc_takeWord (i := 16) (s := ct_at s q) hf hU (ka_uS _ _ _ _) hle.2 (by decide) (fun z => absurd (by rw [hid] at z; exact z) (kt_nonot hc)) (fun _ => ⟨kcs_f hf, ?_⟩)
  rw [hid, ct_at_at]
  refine ⟨fun c => absurd rfl c, fun _ => ?_⟩
  refine kc_isSign (s := ct_at s q) hf hU (ka_uS _ _ _ _) hle.2 (fun z => ⟨kcs_f hf, ?_⟩) (fun z => absurd ⟨by rw [hid]; exact hq, by rw [hid]; exact hc⟩ z)
  rw [hid, ct_at_at]
  refine ⟨fun _ => ⟨fun _ => ⟨fun _ => ?_, fun c => absurd rfl c⟩, fun c => absurd (nI_lt (b := 6) hlv (by omega)) c⟩, fun c => absurd c (by decide)⟩
  have ok0 : ct_ok 7 7 7 s (ct_at s q) q sc [] := ct_ok0 h135
  refine hbr g h (ct_at s q) w sc _ hf hU (ka_uS _ _ _ _) h135 (by omega) (fun kd pl s' ho hfr c3 c4 => ⟨kcs_f hf, ⟨Or.inl rfl, e1 kd pl s' ho ((ok0.1.le (by omega) (by omega) (by omega)).tr hfr) c3 c4⟩⟩) (fun p' tk cd H s' ho hok hH => ⟨kcs_f hf, ⟨Or.inr rfl, e2 p' tk cd H s' ho ((ok0.le (by omega) (by omega) (by omega)).tr hok) hH⟩⟩)
theorem kC_A6 (hpn : p ≤ n) (hq : kt_s tp n p < n) (hc : tp (kt_s tp n p) = 91) : kCd (d + 6) 4 n tp p 6 6 7 7 29 (.inl (3, kt_s tp n p)) := by
  intro g h s w sc R hf hU h92 h135 hsc e1 e2
  have hle := kt_s_le tp n p hpn
  have h200 := hU.2.1
  have hid := kt_s_id (tp := tp) hpn
  generalize hq0 : kt_s tp n p = q at hq hc hle hid e1
  refine kq_in (kcs_f hf) rfl rfl rfl (kq_seg kp_no 60 ?_)
  refine kc_skip hf hU h92 hpn ?_
  rw [hq0]
  refine ⟨kcs_f hf, ?_⟩
  refine kc_takeWord (i := 16) (s := ct_at s q) hf hU (ka_uS _ _ _ _) hle.2 (by decide) (fun z => absurd (by rw [hid] at z; exact z) (kt_nonot hc)) (fun _ => ⟨kcs_f hf, ?_⟩)
  rw [hid, ct_at_at]
  refine ⟨fun c => absurd rfl c, fun _ => ?_⟩
  refine kc_isSign (s := ct_at s q) hf hU (ka_uS _ _ _ _) hle.2 (fun z => ⟨kcs_f hf, ?_⟩) (fun z => absurd ⟨by rw [hid]; exact hq, by rw [hid]; exact hc⟩ z)
  rw [hid, ct_at_at]
  refine ⟨fun _ => ⟨fun c => absurd c (by decide), fun _ => ?_⟩, fun c => absurd c (by decide)⟩
  exact kc_fail hf ⟨kcs_f hf, ⟨Or.inl rfl, e1 3 q _ rfl (((ct_fr.u9 _).tr ((ct_fr.u9 _).tr (ct_fr.u9 _))).le (by omega) (by omega) (by omega)) rfl rfl⟩⟩
theorem kC_B {D : Nat} {o1 : kO} (hpn : p ≤ n) (hw : kt_is tp n (kt_s tp n p) (kt_wd 16)) (hlv : lv < 6) (hC : kCd D 4 n tp (kt_s tp n p + 3) (lv + 1) (lv + 1) (lv + 1 + 1) (lv + 1 + 1) (23 + (lv + 1)) o1) (hD : 4 ≤ D) : kCd (D + 2) 4 n tp p lv lv (lv + 1) (lv + 1) (23 + lv) (kt_nt o1) := by
  intro g h s w sc R hf hU h92 h135 hsc e1 e2
  obtain ⟨D', rfl⟩ : ∃ D', D = D' + 4 := ⟨D - 4, by omega⟩
  have hle := kt_s_le tp n p hpn
  have h200 := hU.2.1
  have hid := kt_s_id (tp := tp) hpn
  generalize hq0 : kt_s tp n p = q at hw hC hle hid
  have hrl := kt_r_le kt_sm tp n q hle.2
  have hr3 : kt_r kt_sm tp n q = 3 := hw.1
  have hnt := kC_nt (p := q) (by omega) hlv hC (by omega)
  refine kq_in (kcs_f hf) rfl rfl rfl (kq_seg kp_no 60 ?_)
  refine kc_skip hf hU h92 hpn ?_
  rw [hq0]
  refine ⟨kcs_f hf, ?_⟩
  refine kc_takeWord (i := 16) (s := ct_at s q) hf hU (ka_uS _ _ _ _) hle.2 (by decide) (fun _ => ⟨kcs_f hf, ?_⟩) (fun z => absurd (by rw [hid]; exact hw) z)
  rw [hid, ct_at_at]
  refine ⟨fun _ => ⟨fun _ => ⟨fun c => absurd c (by decide), fun _ => ?_⟩, fun c => absurd (nI_lt (b := 6) hlv (by omega)) c⟩, fun c => absurd c (by decide)⟩
  have ok0 : ct_ok 7 7 7 s (ct_at s (q + 3)) (q + 3) sc [] := ct_ok0 h135
  refine hnt g h (ct_at s (q + 3)) w sc _ hf hU (ka_uS _ _ _ _) h135 (by omega) (fun kd pl s' ho hfr c3 c4 => ⟨kcs_f hf, ⟨Or.inl rfl, e1 kd pl s' ho ((ok0.1.le (by omega) (by omega) (by omega)).tr hfr) c3 c4⟩⟩) (fun p' tk cd H s' ho hok hH => ⟨kcs_f hf, ⟨Or.inr rfl, e2 p' tk cd H s' ho ((ok0.le (by omega) (by omega) (by omega)).tr hok) hH⟩⟩)
theorem kC_B6 (hpn : p ≤ n) (hw : kt_is tp n (kt_s tp n p) (kt_wd 16)) : kCd (d + 6) 4 n tp p 6 6 7 7 29 (.inl (3, kt_s tp n p)) := by
  intro g h s w sc R hf hU h92 h135 hsc e1 e2
  have hle := kt_s_le tp n p hpn
  have h200 := hU.2.1
  have hid := kt_s_id (tp := tp) hpn
  generalize hq0 : kt_s tp n p = q at hw hle hid e1
  refine kq_in (kcs_f hf) rfl rfl rfl (kq_seg kp_no 60 ?_)
  refine kc_skip hf hU h92 hpn ?_
  rw [hq0]
  refine ⟨kcs_f hf, ?_⟩
  refine kc_takeWord (i := 16) (s := ct_at s q) hf hU (ka_uS _ _ _ _) hle.2 (by decide) (fun _ => ⟨kcs_f hf, ?_⟩) (fun z => absurd (by rw [hid]; exact hw) z)
  rw [hid, ct_at_at]
  refine ⟨fun _ => ⟨fun c => absurd c (by decide), fun _ => ?_⟩, fun c => absurd c (by decide)⟩
  exact kc_fail hf ⟨kcs_f hf, ⟨Or.inl rfl, e1 3 q _ rfl (((ct_fr.u9 _).tr ((ct_fr.u9 _).tr (ct_fr.u9 _))).le (by omega) (by omega) (by omega)) rfl rfl⟩⟩
theorem kC_C (hpn : p ≤ n) (hc : ¬ (kt_s tp n p < n ∧ tp (kt_s tp n p) = 91)) (hw : ¬ kt_is tp n (kt_s tp n p) (kt_wd 16)) (hl : lv < 7) : kCd (d + 8) 4 n tp p lv lv (lv + 1) (lv + 1) (23 + lv) (kt_cmp tp n (kt_s tp n p)) := by
  intro g h s w sc R hf hU h92 h135 hsc e1 e2
  have hle := kt_s_le tp n p hpn
  have h200 := hU.2.1
  have hid := kt_s_id (tp := tp) hpn
  generalize hq0 : kt_s tp n p = q at hc hw hle hid e1 e2
  refine kq_in (kcs_f hf) rfl rfl rfl (kq_seg kp_no 60 ?_)
  refine kc_skip hf hU h92 hpn ?_
  rw [hq0]
  refine ⟨kcs_f hf, ?_⟩
  refine kc_takeWord (i := 16) (s := ct_at s q) hf hU (ka_uS _ _ _ _) hle.2 (by decide) (fun z => absurd (by rw [hid] at z; exact z) hw) (fun _ => ⟨kcs_f hf, ?_⟩)
  rw [hid, ct_at_at]
  refine ⟨fun c => absurd rfl c, fun _ => ?_⟩
  refine kc_isSign (s := ct_at s q) hf hU (ka_uS _ _ _ _) hle.2 (fun z => absurd (by rw [hid] at z; exact z) hc) (fun z => ⟨kcs_f hf, ?_⟩)
  rw [hid, ct_at_at]
  refine ⟨fun c => absurd rfl c, fun _ => ?_⟩
  have ok0 : ct_ok 7 7 7 s (ct_at s q) q sc [] := ct_ok0 h135
  refine kc_cmpC (s := ct_at s q) hf hU (ka_uS _ _ _ _) hle.2 h135 (by omega) hl (fun kd pl s' ho hfr c3 c4 => ⟨kcs_f hf, ⟨Or.inl rfl, e1 kd pl s' ho ((ok0.1.le (by omega) (by omega) (by omega)).tr (hfr.le (Nat.le_refl _) (by omega) (by omega))) c3 c4⟩⟩) (fun p' tk cd H s' ho hok hH => ⟨kcs_f hf, ⟨Or.inr rfl, e2 p' tk cd H s' ho ((ok0.le (by omega) (by omega) (by omega)).tr (hok.le (Nat.le_refl _) (by omega) (by omega))) hH⟩⟩)
end C10
