/-! ===== conditions: chains of the class ===== -/
section C12
variable {d : Nat} {n p lv : Nat} {tp : Nat → Int32}

/-- the rest of a chain, the class: from p on; so far it holds for H0 -/
def kan_C (D n : Nat) (tp : Nat → Int32) (p lv : Nat) (H0 : Nat → Nat → Bool) (o : kO) : Prop := ∀ (g : Nat × (Nat → Int32)) (h : ka_H) (s : Nat → Nat → Int32) (w : Nat → Nat) (sc i : Nat) (z : Value) (R : ka_R → ka_H → Prop), kf g h → kU h n tp → s 9 2 = nI p → s 13 5 = nI sc → sc ≤ p → i ≤ p → (∀ a b, a < 16 → b < 16 → bt (s (15 + lv) a) b = H0 a b) →
  (∀ kd pl s', o = .inl (kd, pl) → ct_fr lv lv (lv + 1) s s' → s' 9 3 = nI kd → s' 9 4 = nI pl → R (kp_ri 0) (kcs h s' w)) → (∀ p' tk cd H s', o = .inr (p', tk, cd, H) → ct_ok lv lv (lv + 1) s s' p' sc tk → (∀ a b, a < 16 → b < 16 → bt (s' (15 + lv) a) b = H a b) → R (kp_ri 1) (kcs h s' w)) → kd_ex g D 3 R 31 [.ref 13, .int (nI lv), .int (nI i), z] [] (kcs h s w)
theorem kan_Cend (hpn : p ≤ n) (hl : lv < 7) (hw : ¬ kt_is tp n (kt_s tp n p) (kt_wd 15)) {H0 : Nat → Nat → Bool} : kan_C (d + 5) n tp p lv H0 (.inr (kt_s tp n p, [], [], H0)) := by
  intro g h s w sc i z R hf hU h92 h135 hsc hi hH e1 e2
  have hle := kt_s_le tp n p hpn
  have h200 := hU.2.1
  have hK : ∀ s', (ka_K (kcs h s' w) 13).1 = 0 := fun s' => kK (kcs_f (s := s') (w := w) hf) rfl rfl
  have hK9 : ∀ s', (ka_K (kcs h s' w) 9).1 = 6 := fun s' => kK (kcs_f (s := s') (w := w) hf) rfl rfl
  have hH' : ∀ a b, a < 16 → b < 16 → bt (ct_at s (kt_s tp n p) (15 + lv) a) b = H0 a b := fun a b ha hb => by
    show bt (ka_u s 9 2 _ (15 + lv) a) b = _
    rw [ka_uN _ _ _ _ (by omega)]
    exact hH a b ha hb
  refine kd_seg kp_no 20 ⟨fun c => ?_, fun c => ⟨hK s, ⟨hK9 s, ?_⟩⟩⟩
  · have h0 : p = n := by
      rcases Nat.lt_or_ge i 200 with y | y
      · exact absurd (nI_lt (b := 200) y (by omega)) c
      · omega
    have := e2 _ _ _ _ (ct_at s (kt_s tp n p)) rfl ((ct_ok0 h135).le (by omega) (by omega) (by omega)) hH'
    rw [show kt_s tp n p = p by rw [h0]; exact kt_s_ge (Nat.le_refl _), kcs_at h92] at this
    exact ⟨Or.inr rfl, this⟩
  · refine kc_takeWord (i := 15) hf hU h92 hpn (by decide) (fun y => absurd y hw) (fun _ => ⟨kcs_f hf, ⟨fun _ => ⟨Or.inr rfl, ?_⟩, fun c => absurd rfl c⟩⟩)
    exact e2 _ _ _ _ (ct_at s (kt_s tp n p)) rfl ((ct_ok0 h135).le (by omega) (by omega) (by omega)) hH'
theorem kan_Cstep {D : Nat} {o1 : kO} {rest : Nat → (Nat → Nat → Bool) → kO} {H0 : Nat → Nat → Bool} {Dp : Nat} (hpn : p ≤ n) (hl : lv < 7) (hw : kt_is tp n (kt_s tp n p) (kt_wd 15)) (hC : kCd D 4 n tp (kt_s tp n p + 3) lv lv (lv + 1) (lv + 1) (23 + lv) o1) (hP : kPd n (kt_s tp n p + 3) Dp o1) (hR : ∀ p1 tk cd H, o1 = .inr (p1, tk, cd, H) → kan_C D n tp p1 lv (fun a b => H0 a b && H a b) (rest p1 (fun a b => H0 a b && H a b))) (hD : 5 ≤ D) : kan_C D n tp p lv H0 (kan_o H0 o1 rest) := by
  intro g h s w sc i z R hf hU h92 h135 hsc hi hH e1 e2
  obtain ⟨D', rfl⟩ : ∃ D', D = D' + 5 := ⟨D - 5, by omega⟩
  have hle := kt_s_le tp n p hpn
  have h200 := hU.2.1
  have hid := kt_s_id (tp := tp) hpn
  have hK : ∀ s', (ka_K (kcs h s' w) 13).1 = 0 := fun s' => kK (kcs_f (s := s') (w := w) hf) rfl rfl
  have hK9 : ∀ s', (ka_K (kcs h s' w) 9).1 = 6 := fun s' => kK (kcs_f (s := s') (w := w) hf) rfl rfl
  generalize hq0 : kt_s tp n p = q at hw hC hP hle hid
  have hrl := kt_r_le kt_sm tp n q hle.2
  have hr3 : kt_r kt_sm tp n q = 3 := hw.1
  refine kd_seg (fun p => Nat.beq p 69) 30 ⟨fun c => absurd (nI_lt (b := 200) (by omega) (by omega)) c, fun c => ⟨hK s, ⟨hK9 s, ?_⟩⟩⟩
  refine kc_takeWord (i := 15) hf hU h92 hpn (by decide) (fun _ => ⟨kcs_f hf, ⟨fun c => absurd c (by decide), fun _ => ⟨hK _, ?_⟩⟩⟩) (fun y => absurd (by rw [hq0]; exact hw) y)
  rw [hq0]
  have hok0 : ct_ok 7 7 7 s (ct_at s (q + 3)) (q + 3) sc [] := ct_ok0 h135
  refine kc_addSign (v := 19) (s := ct_at s (q + 3)) hf h135 (by omega) ⟨kcs_f hf, ⟨hK _, ?_⟩⟩
  have hok1 : ct_ok 7 7 7 s (ka_u (ka_u (ct_at s (q + 3)) 38 sc 19) 13 5 (nI (sc + 1))) (q + 3) sc ([] ++ [19]) := ct_okt hok0 (Nat.le_refl _) (Nat.le_refl _) (Nat.le_refl _) 19
  have hH1 : ∀ a b, a < 16 → b < 16 → bt ((ka_u (ka_u (ct_at s (q + 3)) 38 sc 19) 13 5 (nI (sc + 1))) (15 + lv) a) b = H0 a b := fun a b ha hb => by
    rw [← hH a b ha hb]
    rw [ka_uN _ _ _ _ (by omega), ka_uN _ _ _ _ (by omega)]
    show bt (ka_u s 9 2 _ (15 + lv) a) b = _
    rw [ka_uN _ _ _ _ (by omega)]
  generalize hs1 : ka_u (ka_u (ct_at s (q + 3)) 38 sc 19) 13 5 (nI (sc + 1)) = s1 at hok1 hH1
  refine hC g h s1 w (sc + 1) _ hf hU hok1.2.1 hok1.2.2.2.1 (by omega) (fun kd pl s' ho hfr c3 c4 => ⟨kcs_f hf, ⟨fun c => absurd rfl c, fun _ => ⟨Or.inl rfl, ?_⟩⟩⟩) (fun p1 tk cd H s2 ho hok2 hHb => ⟨kcs_f hf, ⟨fun _ => ?_, fun c => absurd c (by decide)⟩⟩)
  · exact e1 kd pl s' (by rw [ho]; rfl) ((hok1.1.le (by omega) (by omega) (by omega)).tr (hfr.le (by omega) (by omega) (by omega))) c3 c4
  · have hpp := hP.2 p1 tk cd H ho
    have hok12 : ct_ok lv (lv + 1) (lv + 1) s s2 p1 sc ([19] ++ tk) := (hok1.le (by omega) (by omega) (by omega)).tr hok2
    have hacc : s2 (15 + lv) = s1 (15 + lv) := hok2.1.2.2.2.1 lv (by omega)
    have hd := kq_for (P := fun k => kd_ex g (D' + 5) 3 R 69 [.ref 13, .int (nI lv), .int (nI i), .int (nI k)] [] (kcs h (ka_uF s2 (15 + lv) (kh_o (s2 (15 + lv)) (fun a => s2 (15 + lv) a &&& s2 (23 + lv) a) k)) w)) 16 ?_ (fun k hk ih => ?_)
    · rw [kh_o_0, ka_uF_id] at hd
      exact hd
    · have hlt : ([19] ++ tk : List Nat).length = 1 + tk.length := by simp; omega
      have hokF : ct_ok lv lv (lv + 1) s (ka_uF s2 (15 + lv) (kh_o (s2 (15 + lv)) (fun a => s2 (15 + lv) a &&& s2 (23 + lv) a) 16)) p1 sc ([19] ++ tk) := ct_okF hok12 _ (by omega) (by omega) ((ct_fr.p (by omega) _).le (by omega) (by omega) (by omega)) (by omega) (by omega) (by omega)
      refine kd_seg (fun p => Nat.beq p 31) 10 ⟨fun _ => ?_, fun c => absurd c (nI_nlt (b := 16) (by omega) (by omega))⟩
      have := hR p1 tk cd H ho g h _ w (sc + (1 + tk.length)) (i + 1) (.int (nI 16)) R hf hU hokF.2.1 (by rw [hokF.2.2.2.1, hlt]) (by omega) (by omega) (fun a b ha hb => ?_) (fun kd pl s' ho2 hfr c3 c4 => ?_) (fun p2 tk2 cd2 H2 s' ho2 hok3 hH2 => ?_)
      · rw [nI_succ] at this
        exact this
      · rw [ka_uF_S, kh_o_T _ _ ha, b_and, hHb a b ha hb, hacc, hH1 a b ha hb]
      · refine e1 kd pl s' ?_ (hokF.1.tr hfr) c3 c4
        rw [ho]
        show (match rest p1 _ with | .inl x => _ | .inr (p2, tk2, cd2, H2) => _) = _
        rw [ho2]
      · refine e2 p2 ([19] ++ tk ++ tk2) (cd ++ [104] ++ cd2) H2 s' ?_ (hokF.tr (by rw [hlt]; exact hok3)) hH2
        rw [ho]
        show (match rest p1 _ with | .inl x => _ | .inr (p2, tk2, cd2, H2) => _) = _
        rw [ho2]
    · have hfk : kf g (kcs h (ka_uF s2 (15 + lv) (kh_o (s2 (15 + lv)) (fun a => s2 (15 + lv) a &&& s2 (23 + lv) a) k)) w) := kcs_f hf
      have hL0 := kL hfk (l := lv) (by omega)
      generalize hsk : ka_uF s2 (15 + lv) (kh_o (s2 (15 + lv)) (fun a => s2 (15 + lv) a &&& s2 (23 + lv) a) k) = sk at hfk hL0
      refine kd_seg (fun p => Nat.beq p 69) 30 ⟨fun c => absurd (nI_lt (b := 16) hk (by omega)) c, fun _ => ⟨hK _, ⟨kaa hfk (by omega) (Or.inl rfl), ?_⟩⟩⟩
      rw [nI_clamp (by omega)]
      rw [show ka_P (kcs h sk w) (kq_p (kcs h sk w) 13 1) lv = 15 + lv from hL0.1.1]
      refine ⟨kr_in hL0.2.1 hk (by omega), ⟨hK _, ⟨kaa hfk (by omega) (Or.inr (Or.inl rfl)), ?_⟩⟩⟩
      rw [nI_clamp (n := lv) (by omega)]
      rw [show ka_P (kcs h sk w) (kq_p (kcs h sk w) 13 2) lv = 23 + lv from hL0.1.2.1]
      refine ⟨kr_in hL0.2.2.1 hk (by omega), ⟨hL0.2.1.1, kr_st hL0.2.1 hk (by omega), ?_⟩⟩
      rw [nI_clamp (by omega), kcs_I' (by omega) (by omega), kcs_I' (by omega) (by omega)]
      rw [show sk (23 + lv) k = s2 (23 + lv) k by rw [← hsk, ka_uF_N _ _ (by omega)], show sk (15 + lv) k = s2 (15 + lv) k by rw [← hsk, ka_uF_S, kh_o_F _ _ (by omega)]]
      rw [← hsk, kcs_sI' (by omega) (by omega), show s2 (15 + lv) k &&& s2 (23 + lv) k = (fun a => s2 (15 + lv) a &&& s2 (23 + lv) a) k from rfl, kh_o_s]
      rw [nI_succ] at ih
      exact ih
/-- the first of a chain, and its rest -/
def kan_f (o1 : kO) (rest : Nat → (Nat → Nat → Bool) → kO) : kO := match o1 with
  | .inl x => .inl x
  | .inr (p1, tk, cd, H) => match rest p1 H with
    | .inl x => .inl x
    | .inr (p2, tk2, cd2, H2) => .inr (p2, tk ++ tk2, cd ++ cd2, H2)
theorem kan_Cfirst {D Dp : Nat} {o1 : kO} {rest : Nat → (Nat → Nat → Bool) → kO} (hl : lv < 7) (hC : kCd D 4 n tp p lv lv (lv + 1) (lv + 1) (23 + lv) o1) (hP : kPd n p Dp o1) (hR : ∀ p1 tk cd H, o1 = .inr (p1, tk, cd, H) → kan_C D n tp p1 lv H (rest p1 H)) : kCd (D + 1) 3 n tp p lv lv lv (lv + 1) (15 + lv) (kan_f o1 rest) := by
  intro g h s w sc R hf hU h92 h135 hsc e1 e2
  have hK : ∀ s', (ka_K (kcs h s' w) 13).1 = 0 := fun s' => kK (kcs_f (s := s') (w := w) hf) rfl rfl
  refine kd_in (kcs_f hf) rfl rfl rfl (kd_seg (fun p => Nat.beq p 31) 40 ⟨hK s, ?_⟩)
  refine hC g h s w sc _ hf hU h92 h135 hsc (fun kd pl s' ho hfr c3 c4 => ⟨kcs_f hf, ⟨fun c => absurd rfl c, fun _ => ⟨Or.inl rfl, ?_⟩⟩⟩) (fun p1 tk cd H s2 ho hok2 hHb => ⟨kcs_f hf, ⟨fun _ => ⟨hK s2, ?_⟩, fun c => absurd c (by decide)⟩⟩)
  · exact e1 kd pl s' (by rw [ho]; rfl) (hfr.le (by omega) (by omega) (by omega)) c3 c4
  · have hpp := hP.2 p1 tk cd H ho
    have hfk : kf g (kcs h s2 w) := kcs_f hf
    have hL0 := kL hfk (l := lv) (by omega)
    refine ⟨kaa hfk (by omega) (Or.inr (Or.inl rfl)), ?_⟩
    rw [nI_clamp (by omega)]
    rw [show ka_P (kcs h s2 w) (kq_p (kcs h s2 w) 13 2) lv = 23 + lv from hL0.1.2.1]
    refine ⟨hK s2, ⟨kaa hfk (by omega) (Or.inl rfl), ?_⟩⟩
    rw [nI_clamp (by omega)]
    rw [show ka_P (kcs h s2 w) (kq_p (kcs h s2 w) 13 1) lv = 15 + lv from hL0.1.1]
    refine ⟨hL0.2.2.1.1, hL0.2.1.1, kcp_ok hL0.2.2.1 hL0.2.1, ?_⟩
    rw [show ((Int32.ofInt 0).toNatClampNeg) = 0 from rfl, show ((Int32.ofInt 16).toNatClampNeg) = 16 from rfl, ka_cpy0, kcs_sF (by omega) (by omega)]
    have hokF : ct_ok lv lv (lv + 1) s (ka_uF s2 (15 + lv) (kh_o (ka_I (kcs h s2 w) (15 + lv)) (ka_I (kcs h s2 w) (23 + lv)) 16)) p1 sc tk := ct_okF hok2 _ (by omega) (by omega) ((ct_fr.p (by omega) _).le (by omega) (by omega) (by omega)) (by omega) (by omega) (by omega)
    refine hR p1 tk cd H ho g h _ w (sc + tk.length) 0 _ R hf hU hokF.2.1 hokF.2.2.2.1 (by omega) (by omega) (fun a b ha hb => ?_) (fun kd pl s' ho2 hfr c3 c4 => ?_) (fun p2 tk2 cd2 H2 s' ho2 hok3 hH2 => ?_)
    · rw [ka_uF_S, kh_o_T _ _ ha, kcs_I' (by omega) (by omega), hHb a b ha hb]
    · refine e1 kd pl s' ?_ (hokF.1.tr hfr) c3 c4
      rw [ho]
      show (match rest p1 _ with | .inl x => _ | .inr (p2, tk2, cd2, H2) => _) = _
      rw [ho2]
    · refine e2 p2 (tk ++ tk2) (cd ++ cd2) H2 s' ?_ (hokF.tr hok3) hH2
      rw [ho]
      show (match rest p1 _ with | .inl x => _ | .inr (p2, tk2, cd2, H2) => _) = _
      rw [ho2]

/-- the rest of a chain, the class: from p on; so far it holds for H0 -/
def kor_C (D n : Nat) (tp : Nat → Int32) (p lv : Nat) (H0 : Nat → Nat → Bool) (o : kO) : Prop := ∀ (g : Nat × (Nat → Int32)) (h : ka_H) (s : Nat → Nat → Int32) (w : Nat → Nat) (sc i : Nat) (z : Value) (R : ka_R → ka_H → Prop), kf g h → kU h n tp → s 9 2 = nI p → s 13 5 = nI sc → sc ≤ p → i ≤ p → (∀ a b, a < 16 → b < 16 → bt (s (31 + lv) a) b = H0 a b) →
  (∀ kd pl s', o = .inl (kd, pl) → ct_fr lv lv (lv) s s' → s' 9 3 = nI kd → s' 9 4 = nI pl → R (kp_ri 0) (kcs h s' w)) → (∀ p' tk cd H s', o = .inr (p', tk, cd, H) → ct_ok lv lv (lv) s s' p' sc tk → (∀ a b, a < 16 → b < 16 → bt (s' (31 + lv) a) b = H a b) → R (kp_ri 1) (kcs h s' w)) → kd_ex g D 2 R 31 [.ref 13, .int (nI lv), .int (nI i), z] [] (kcs h s w)
theorem kor_Cend (hpn : p ≤ n) (hl : lv < 7) (hw : ¬ kt_is tp n (kt_s tp n p) (kt_wd 14)) {H0 : Nat → Nat → Bool} : kor_C (d + 5) n tp p lv H0 (.inr (kt_s tp n p, [], [], H0)) := by
  intro g h s w sc i z R hf hU h92 h135 hsc hi hH e1 e2
  have hle := kt_s_le tp n p hpn
  have h200 := hU.2.1
  have hK : ∀ s', (ka_K (kcs h s' w) 13).1 = 0 := fun s' => kK (kcs_f (s := s') (w := w) hf) rfl rfl
  have hK9 : ∀ s', (ka_K (kcs h s' w) 9).1 = 6 := fun s' => kK (kcs_f (s := s') (w := w) hf) rfl rfl
  have hH' : ∀ a b, a < 16 → b < 16 → bt (ct_at s (kt_s tp n p) (31 + lv) a) b = H0 a b := fun a b ha hb => by
    show bt (ka_u s 9 2 _ (31 + lv) a) b = _
    rw [ka_uN _ _ _ _ (by omega)]
    exact hH a b ha hb
  refine kd_seg kp_no 20 ⟨fun c => ?_, fun c => ⟨hK s, ⟨hK9 s, ?_⟩⟩⟩
  · have h0 : p = n := by
      rcases Nat.lt_or_ge i 200 with y | y
      · exact absurd (nI_lt (b := 200) y (by omega)) c
      · omega
    have := e2 _ _ _ _ (ct_at s (kt_s tp n p)) rfl ((ct_ok0 h135).le (by omega) (by omega) (by omega)) hH'
    rw [show kt_s tp n p = p by rw [h0]; exact kt_s_ge (Nat.le_refl _), kcs_at h92] at this
    exact ⟨Or.inr rfl, this⟩
  · refine kc_takeWord (i := 14) hf hU h92 hpn (by decide) (fun y => absurd y hw) (fun _ => ⟨kcs_f hf, ⟨fun _ => ⟨Or.inr rfl, ?_⟩, fun c => absurd rfl c⟩⟩)
    exact e2 _ _ _ _ (ct_at s (kt_s tp n p)) rfl ((ct_ok0 h135).le (by omega) (by omega) (by omega)) hH'
theorem kor_Cstep {D : Nat} {o1 : kO} {rest : Nat → (Nat → Nat → Bool) → kO} {H0 : Nat → Nat → Bool} {Dp : Nat} (hpn : p ≤ n) (hl : lv < 7) (hw : kt_is tp n (kt_s tp n p) (kt_wd 14)) (hC : kCd D 3 n tp (kt_s tp n p + 2) lv lv (lv) (lv + 1) (15 + lv) o1) (hP : kPd n (kt_s tp n p + 2) Dp o1) (hR : ∀ p1 tk cd H, o1 = .inr (p1, tk, cd, H) → kor_C D n tp p1 lv (fun a b => H0 a b || H a b) (rest p1 (fun a b => H0 a b || H a b))) (hD : 5 ≤ D) : kor_C D n tp p lv H0 (kor_o H0 o1 rest) := by
  intro g h s w sc i z R hf hU h92 h135 hsc hi hH e1 e2
  obtain ⟨D', rfl⟩ : ∃ D', D = D' + 5 := ⟨D - 5, by omega⟩
  have hle := kt_s_le tp n p hpn
  have h200 := hU.2.1
  have hid := kt_s_id (tp := tp) hpn
  have hK : ∀ s', (ka_K (kcs h s' w) 13).1 = 0 := fun s' => kK (kcs_f (s := s') (w := w) hf) rfl rfl
  have hK9 : ∀ s', (ka_K (kcs h s' w) 9).1 = 6 := fun s' => kK (kcs_f (s := s') (w := w) hf) rfl rfl
  generalize hq0 : kt_s tp n p = q at hw hC hP hle hid
  have hrl := kt_r_le kt_sm tp n q hle.2
  have hr3 : kt_r kt_sm tp n q = 2 := hw.1
  refine kd_seg (fun p => Nat.beq p 69) 30 ⟨fun c => absurd (nI_lt (b := 200) (by omega) (by omega)) c, fun c => ⟨hK s, ⟨hK9 s, ?_⟩⟩⟩
  refine kc_takeWord (i := 14) hf hU h92 hpn (by decide) (fun _ => ⟨kcs_f hf, ⟨fun c => absurd c (by decide), fun _ => ⟨hK _, ?_⟩⟩⟩) (fun y => absurd (by rw [hq0]; exact hw) y)
  rw [hq0]
  have hok0 : ct_ok 7 7 7 s (ct_at s (q + 2)) (q + 2) sc [] := ct_ok0 h135
  refine kc_addSign (v := 20) (s := ct_at s (q + 2)) hf h135 (by omega) ⟨kcs_f hf, ⟨hK _, ?_⟩⟩
  have hok1 : ct_ok 7 7 7 s (ka_u (ka_u (ct_at s (q + 2)) 38 sc 20) 13 5 (nI (sc + 1))) (q + 2) sc ([] ++ [20]) := ct_okt hok0 (Nat.le_refl _) (Nat.le_refl _) (Nat.le_refl _) 20
  have hH1 : ∀ a b, a < 16 → b < 16 → bt ((ka_u (ka_u (ct_at s (q + 2)) 38 sc 20) 13 5 (nI (sc + 1))) (31 + lv) a) b = H0 a b := fun a b ha hb => by
    rw [← hH a b ha hb]
    rw [ka_uN _ _ _ _ (by omega), ka_uN _ _ _ _ (by omega)]
    show bt (ka_u s 9 2 _ (31 + lv) a) b = _
    rw [ka_uN _ _ _ _ (by omega)]
  generalize hs1 : ka_u (ka_u (ct_at s (q + 2)) 38 sc 20) 13 5 (nI (sc + 1)) = s1 at hok1 hH1
  refine hC g h s1 w (sc + 1) _ hf hU hok1.2.1 hok1.2.2.2.1 (by omega) (fun kd pl s' ho hfr c3 c4 => ⟨kcs_f hf, ⟨fun c => absurd rfl c, fun _ => ⟨Or.inl rfl, ?_⟩⟩⟩) (fun p1 tk cd H s2 ho hok2 hHb => ⟨kcs_f hf, ⟨fun _ => ?_, fun c => absurd c (by decide)⟩⟩)
  · exact e1 kd pl s' (by rw [ho]; rfl) ((hok1.1.le (by omega) (by omega) (by omega)).tr (hfr.le (by omega) (by omega) (by omega))) c3 c4
  · have hpp := hP.2 p1 tk cd H ho
    have hok12 : ct_ok lv (lv) (lv + 1) s s2 p1 sc ([20] ++ tk) := (hok1.le (by omega) (by omega) (by omega)).tr hok2
    have hacc : s2 (31 + lv) = s1 (31 + lv) := hok2.1.2.2.2.2 lv (by omega)
    have hd := kq_for (P := fun k => kd_ex g (D' + 5) 2 R 69 [.ref 13, .int (nI lv), .int (nI i), .int (nI k)] [] (kcs h (ka_uF s2 (31 + lv) (kh_o (s2 (31 + lv)) (fun a => s2 (31 + lv) a ||| s2 (15 + lv) a) k)) w)) 16 ?_ (fun k hk ih => ?_)
    · rw [kh_o_0, ka_uF_id] at hd
      exact hd
    · have hlt : ([20] ++ tk : List Nat).length = 1 + tk.length := by simp; omega
      have hokF : ct_ok lv lv (lv) s (ka_uF s2 (31 + lv) (kh_o (s2 (31 + lv)) (fun a => s2 (31 + lv) a ||| s2 (15 + lv) a) 16)) p1 sc ([20] ++ tk) := ct_okF hok12 _ (by omega) (by omega) ((ct_fr.c (by omega) _).le (by omega) (by omega) (by omega)) (by omega) (by omega) (by omega)
      refine kd_seg (fun p => Nat.beq p 31) 10 ⟨fun _ => ?_, fun c => absurd c (nI_nlt (b := 16) (by omega) (by omega))⟩
      have := hR p1 tk cd H ho g h _ w (sc + (1 + tk.length)) (i + 1) (.int (nI 16)) R hf hU hokF.2.1 (by rw [hokF.2.2.2.1, hlt]) (by omega) (by omega) (fun a b ha hb => ?_) (fun kd pl s' ho2 hfr c3 c4 => ?_) (fun p2 tk2 cd2 H2 s' ho2 hok3 hH2 => ?_)
      · rw [nI_succ] at this
        exact this
      · rw [ka_uF_S, kh_o_T _ _ ha, b_or, hHb a b ha hb, hacc, hH1 a b ha hb]
      · refine e1 kd pl s' ?_ (hokF.1.tr hfr) c3 c4
        rw [ho]
        show (match rest p1 _ with | .inl x => _ | .inr (p2, tk2, cd2, H2) => _) = _
        rw [ho2]
      · refine e2 p2 ([20] ++ tk ++ tk2) (cd ++ [103] ++ cd2) H2 s' ?_ (hokF.tr (by rw [hlt]; exact hok3)) hH2
        rw [ho]
        show (match rest p1 _ with | .inl x => _ | .inr (p2, tk2, cd2, H2) => _) = _
        rw [ho2]
    · have hfk : kf g (kcs h (ka_uF s2 (31 + lv) (kh_o (s2 (31 + lv)) (fun a => s2 (31 + lv) a ||| s2 (15 + lv) a) k)) w) := kcs_f hf
      have hL0 := kL hfk (l := lv) (by omega)
      generalize hsk : ka_uF s2 (31 + lv) (kh_o (s2 (31 + lv)) (fun a => s2 (31 + lv) a ||| s2 (15 + lv) a) k) = sk at hfk hL0
      refine kd_seg (fun p => Nat.beq p 69) 30 ⟨fun c => absurd (nI_lt (b := 16) hk (by omega)) c, fun _ => ⟨hK _, ⟨kaa hfk (by omega) (Or.inr (Or.inr rfl)), ?_⟩⟩⟩
      rw [nI_clamp (by omega)]
      rw [show ka_P (kcs h sk w) (kq_p (kcs h sk w) 13 3) lv = 31 + lv from hL0.1.2.2]
      refine ⟨kr_in hL0.2.2.2 hk (by omega), ⟨hK _, ⟨kaa hfk (by omega) (Or.inl rfl), ?_⟩⟩⟩
      rw [nI_clamp (n := lv) (by omega)]
      rw [show ka_P (kcs h sk w) (kq_p (kcs h sk w) 13 1) lv = 15 + lv from hL0.1.1]
      refine ⟨kr_in hL0.2.1 hk (by omega), ⟨hL0.2.2.2.1, kr_st hL0.2.2.2 hk (by omega), ?_⟩⟩
      rw [nI_clamp (by omega), kcs_I' (by omega) (by omega), kcs_I' (by omega) (by omega)]
      rw [show sk (15 + lv) k = s2 (15 + lv) k by rw [← hsk, ka_uF_N _ _ (by omega)], show sk (31 + lv) k = s2 (31 + lv) k by rw [← hsk, ka_uF_S, kh_o_F _ _ (by omega)]]
      rw [← hsk, kcs_sI' (by omega) (by omega), show s2 (31 + lv) k ||| s2 (15 + lv) k = (fun a => s2 (31 + lv) a ||| s2 (15 + lv) a) k from rfl, kh_o_s]
      rw [nI_succ] at ih
      exact ih
/-- the first of a chain, and its rest -/
def kor_f (o1 : kO) (rest : Nat → (Nat → Nat → Bool) → kO) : kO := match o1 with
  | .inl x => .inl x
  | .inr (p1, tk, cd, H) => match rest p1 H with
    | .inl x => .inl x
    | .inr (p2, tk2, cd2, H2) => .inr (p2, tk ++ tk2, cd ++ cd2, H2)
theorem kor_Cfirst {D Dp : Nat} {o1 : kO} {rest : Nat → (Nat → Nat → Bool) → kO} (hl : lv < 7) (hC : kCd D 3 n tp p lv lv (lv) (lv + 1) (15 + lv) o1) (hP : kPd n p Dp o1) (hR : ∀ p1 tk cd H, o1 = .inr (p1, tk, cd, H) → kor_C D n tp p1 lv H (rest p1 H)) : kCd (D + 1) 2 n tp p lv lv lv (lv) (31 + lv) (kor_f o1 rest) := by
  intro g h s w sc R hf hU h92 h135 hsc e1 e2
  have hK : ∀ s', (ka_K (kcs h s' w) 13).1 = 0 := fun s' => kK (kcs_f (s := s') (w := w) hf) rfl rfl
  refine kd_in (kcs_f hf) rfl rfl rfl (kd_seg (fun p => Nat.beq p 31) 40 ⟨hK s, ?_⟩)
  refine hC g h s w sc _ hf hU h92 h135 hsc (fun kd pl s' ho hfr c3 c4 => ⟨kcs_f hf, ⟨fun c => absurd rfl c, fun _ => ⟨Or.inl rfl, ?_⟩⟩⟩) (fun p1 tk cd H s2 ho hok2 hHb => ⟨kcs_f hf, ⟨fun _ => ⟨hK s2, ?_⟩, fun c => absurd c (by decide)⟩⟩)
  · exact e1 kd pl s' (by rw [ho]; rfl) (hfr.le (by omega) (by omega) (by omega)) c3 c4
  · have hpp := hP.2 p1 tk cd H ho
    have hfk : kf g (kcs h s2 w) := kcs_f hf
    have hL0 := kL hfk (l := lv) (by omega)
    refine ⟨kaa hfk (by omega) (Or.inl rfl), ?_⟩
    rw [nI_clamp (by omega)]
    rw [show ka_P (kcs h s2 w) (kq_p (kcs h s2 w) 13 1) lv = 15 + lv from hL0.1.1]
    refine ⟨hK s2, ⟨kaa hfk (by omega) (Or.inr (Or.inr rfl)), ?_⟩⟩
    rw [nI_clamp (by omega)]
    rw [show ka_P (kcs h s2 w) (kq_p (kcs h s2 w) 13 3) lv = 31 + lv from hL0.1.2.2]
    refine ⟨hL0.2.1.1, hL0.2.2.2.1, kcp_ok hL0.2.1 hL0.2.2.2, ?_⟩
    rw [show ((Int32.ofInt 0).toNatClampNeg) = 0 from rfl, show ((Int32.ofInt 16).toNatClampNeg) = 16 from rfl, ka_cpy0, kcs_sF (by omega) (by omega)]
    have hokF : ct_ok lv lv (lv) s (ka_uF s2 (31 + lv) (kh_o (ka_I (kcs h s2 w) (31 + lv)) (ka_I (kcs h s2 w) (15 + lv)) 16)) p1 sc tk := ct_okF hok2 _ (by omega) (by omega) ((ct_fr.c (by omega) _).le (by omega) (by omega) (by omega)) (by omega) (by omega) (by omega)
    refine hR p1 tk cd H ho g h _ w (sc + tk.length) 0 _ R hf hU hokF.2.1 hokF.2.2.2.1 (by omega) (by omega) (fun a b ha hb => ?_) (fun kd pl s' ho2 hfr c3 c4 => ?_) (fun p2 tk2 cd2 H2 s' ho2 hok3 hH2 => ?_)
    · rw [ka_uF_S, kh_o_T _ _ ha, kcs_I' (by omega) (by omega), hHb a b ha hb]
    · refine e1 kd pl s' ?_ (hokF.1.tr hfr) c3 c4
      rw [ho]
      show (match rest p1 _ with | .inl x => _ | .inr (p2, tk2, cd2, H2) => _) = _
      rw [ho2]
    · refine e2 p2 (tk ++ tk2) (cd ++ cd2) H2 s' ?_ (hokF.tr hok3) hH2
      rw [ho]
      show (match rest p1 _ with | .inl x => _ | .inr (p2, tk2, cd2, H2) => _) = _
      rw [ho2]
end C12
