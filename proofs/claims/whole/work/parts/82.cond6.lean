/-! ===== conditions: chains of the reference ===== -/
section C11
variable {d : Nat} {n p lv : Nat} {tp : Nat → Int32}

/-- the rest of a chain, the reference: from p on, tk and cd being read -/
def kan_M (D n : Nat) (tp : Nat → Int32) (p lv : Nat) (o : kO) : Prop := ∀ (g : Nat × (Nat → Int32)) (h : ka_H) (s : Nat → Nat → Int32) (nt nc : Nat) (R : ka_R → ka_H → Prop), kf g h → kT h n tp → s 72 23 = nI p → s 72 24 = -1 → s 72 26 = nI lv → s 72 30 = nI nt → s 72 31 = nI nc → nt ≤ p → nc ≤ p →
  (∀ kd pl s', o = .inl (kd, pl) → kt_fr s s' → s' 72 24 = nI pl → s' 72 25 = nI kd → R (.inl none) (kms h s')) → (∀ p' tk cd H s', o = .inr (p', tk, cd, H) → kt_ok s s' p' nt nc tk cd → R (.inl none) (kms h s')) → kq_ex g D 179 R 4 [.ref 72] [] (kms h s)
theorem kan_Mend (hpn : p ≤ n) (hw : ¬ kt_is tp n (kt_s tp n p) (kt_wd 15)) {H : Nat → Nat → Bool} : kan_M (d + 2) n tp p lv (.inr (kt_s tp n p, [], [], H)) := by
  intro g h s nt nc R hf hT h23 h24 h26 h30 h31 hnt hnc e1 e2
  have hle := kt_s_le tp n p hpn
  refine kq_seg kp_no 20 ?_
  refine kq_ci (kc_fine1 hf h24) (kms_f hf) ⟨fun c => absurd c (by decide), fun _ => ?_⟩
  refine kc_word hf hT h23 hpn (fun w hw9 => ⟨kms_f hf, ⟨fun _ => ?_, fun c => absurd (kt_wand.mp (hw9.symm.trans c)) hw⟩⟩)
  exact e2 _ _ _ _ _ rfl (kt_ok1 (kt_fr.u (by decide) _) (ka_uS _ _ _ _) h24 rfl h30 h31 (fun _ => rfl) (fun _ => rfl))
/-- what a chain's next link gives, with the rest behind it -/
def kan_o (H0 : Nat → Nat → Bool) (o1 : kO) (rest : Nat → (Nat → Nat → Bool) → kO) : kO := match o1 with
  | .inl x => .inl x
  | .inr (p1, tk, cd, H) => match rest p1 (fun a b => H0 a b && H a b) with
    | .inl x => .inl x
    | .inr (p2, tk2, cd2, H2) => .inr (p2, [19] ++ tk ++ tk2, cd ++ [104] ++ cd2, H2)
theorem kan_Mstep {D : Nat} {o1 : kO} {rest : Nat → (Nat → Nat → Bool) → kO} {H0 : Nat → Nat → Bool} {Dp : Nat} (hpn : p ≤ n) (hw : kt_is tp n (kt_s tp n p) (kt_wd 15)) (hM : kMd D 180 n tp (kt_s tp n p + 3) lv o1) (hP : kPd n (kt_s tp n p + 3) Dp o1) (hR : ∀ p1 tk cd H, o1 = .inr (p1, tk, cd, H) → kan_M D n tp p1 lv (rest p1 (fun a b => H0 a b && H a b))) (hD : 3 ≤ D) : kan_M D n tp p lv (kan_o H0 o1 rest) := by
  intro g h s nt nc R hf hT h23 h24 h26 h30 h31 hnt hnc e1 e2
  obtain ⟨D', rfl⟩ : ∃ D', D = D' + 3 := ⟨D - 3, by omega⟩
  have hle := kt_s_le tp n p hpn
  have h200 := hT.2.1
  have hid := kt_s_id (tp := tp) hpn
  generalize hq0 : kt_s tp n p = q at hw hM hP hle hid
  have hrl := kt_r_le kt_sm tp n q hle.2
  have hr3 : kt_r kt_sm tp n q = 3 := hw.1
  refine kq_seg (fun p => Nat.beq p 4) 30 ?_
  refine kq_ci (kc_fine1 hf h24) (kms_f hf) ⟨fun c => absurd c (by decide), fun _ => ?_⟩
  refine kc_word hf hT h23 hpn (fun w hw9 => ⟨kms_f hf, ?_⟩)
  rw [hq0] at hw9 ⊢
  rw [hw9, kt_wand.mpr hw]
  refine ⟨fun c => absurd rfl c, fun _ => ?_⟩
  refine kc_pass (s := kt_at s q) hf hT (ka_uS _ _ _ _) hle.2 ⟨kms_f hf, ?_⟩
  rw [kt_at_at, hr3]
  have ok1 : kt_ok s (kt_at s (q + 3)) (q + 3) nt nc [] [] := kt_ok1 (kt_fr.u (by decide) _) (ka_uS _ _ _ _) h24 rfl h30 h31 (fun _ => rfl) (fun _ => rfl)
  refine kq_cv (kc_token1 hf ok1.2.2.1 (nt := nt) h30 (by omega)) (kms_f hf) ?_
  have ok2 : kt_ok s (ka_u (ka_u (kt_at s (q + 3)) 90 nt (tM 19)) 72 30 (nI (nt + 1))) (q + 3) nt nc ([] ++ [19]) [] := kt_okt ok1 19
  generalize hs2 : ka_u (ka_u (kt_at s (q + 3)) 90 nt (tM 19)) 72 30 (nI (nt + 1)) = s2 at ok2
  rw [show ka_u (ka_u (kt_at s (q + 3)) 90 nt (Int32.ofInt 104)) 72 30 (nI (nt + 1)) = s2 from hs2]
  refine hM g h s2 (nt + 1) nc _ hf hT ok2.2.1 ok2.2.2.1 (ok2.2.2.2.1.trans h26) ok2.2.2.2.2.1.1 ok2.2.2.2.2.2.1 (by omega) (by omega) (fun kd pl s' ho hfr c24 c25 => ⟨kms_f hf, ?_⟩) (fun p1 tk cd H s3 ho hok => ⟨kms_f hf, ?_⟩)
  · have hpl := hP.1 kd pl ho
    have hb' : ¬ s' 72 24 = -1 := by rw [c24]; exact nI_ne_m1 (by omega)
    refine kq_cv (kc_emit0 hf hb') (kms_f hf) ?_
    refine (kq_seg kp_no 10 ?_ : kq_ex g (D' + 3) 179 R 4 [.ref 72] [] (kms h s'))
    exact kq_ci (kc_fine0 hf hb') (kms_f hf) ⟨fun _ => e1 kd pl s' (by rw [ho]; rfl) (ok2.1.tr hfr) c24 c25, fun c => absurd rfl c⟩
  · have hpp := hP.2 p1 tk cd H ho
    have ok3 : kt_ok s s3 p1 nt nc (([] ++ [19]) ++ tk) ([] ++ cd) := ok2.tr hok
    refine kq_cv (kc_emit1 hf ok3.2.2.1 (nc := nc + cd.length) (by rw [ok3.2.2.2.2.2.1]; simp) (by omega)) (kms_f hf) ?_
    have ok4 := kt_okc ok3 104
    have hlc : ([] ++ cd : List Int32).length = cd.length := by simp
    rw [hlc] at ok4
    generalize hs4 : ka_u (ka_u s3 91 (nc + cd.length) 104) 72 31 (nI (nc + cd.length + 1)) = s4 at ok4
    rw [show ka_u (ka_u s3 91 (nc + cd.length) (Int32.ofInt 104)) 72 31 (nI (nc + cd.length + 1)) = s4 from hs4]
    have hlt : (([] ++ [19]) ++ tk : List Nat).length = 1 + tk.length := by simp; omega
    have hlc4 : (([] ++ cd) ++ [104] : List Int32).length = cd.length + 1 := by simp
    refine hR p1 tk cd H ho g h s4 (nt + (1 + tk.length)) (nc + (cd.length + 1)) R hf hT ok4.2.1 ok4.2.2.1 (ok4.2.2.2.1.trans h26) (by rw [ok4.2.2.2.2.1.1, hlt]) (by rw [ok4.2.2.2.2.2.1, hlc4]) (by omega) (by omega) (fun kd pl s' ho2 hfr c24 c25 => ?_) (fun p2 tk2 cd2 H2 s' ho2 hok2 => ?_)
    · refine e1 kd pl s' ?_ (ok4.1.tr hfr) c24 c25
      rw [ho]
      show (match rest p1 _ with | .inl x => _ | .inr (p2, tk2, cd2, H2) => _) = _
      rw [ho2]
    · have ok5 := ok4.tr (by rw [hlt, hlc4]; exact hok2)
      refine e2 p2 ([19] ++ tk ++ tk2) (cd ++ [104] ++ cd2) H2 s' ?_ (by simpa using ok5)
      rw [ho]
      show (match rest p1 _ with | .inl x => _ | .inr (p2, tk2, cd2, H2) => _) = _
      rw [ho2]

/-- the rest of a chain, the reference: from p on, tk and cd being read -/
def kor_M (D n : Nat) (tp : Nat → Int32) (p lv : Nat) (o : kO) : Prop := ∀ (g : Nat × (Nat → Int32)) (h : ka_H) (s : Nat → Nat → Int32) (nt nc : Nat) (R : ka_R → ka_H → Prop), kf g h → kT h n tp → s 72 23 = nI p → s 72 24 = -1 → s 72 26 = nI lv → s 72 30 = nI nt → s 72 31 = nI nc → nt ≤ p → nc ≤ p →
  (∀ kd pl s', o = .inl (kd, pl) → kt_fr s s' → s' 72 24 = nI pl → s' 72 25 = nI kd → R (.inl none) (kms h s')) → (∀ p' tk cd H s', o = .inr (p', tk, cd, H) → kt_ok s s' p' nt nc tk cd → R (.inl none) (kms h s')) → kq_ex g D 178 R 4 [.ref 72] [] (kms h s)
theorem kor_Mend (hpn : p ≤ n) (hw : ¬ kt_is tp n (kt_s tp n p) (kt_wd 14)) {H : Nat → Nat → Bool} : kor_M (d + 2) n tp p lv (.inr (kt_s tp n p, [], [], H)) := by
  intro g h s nt nc R hf hT h23 h24 h26 h30 h31 hnt hnc e1 e2
  have hle := kt_s_le tp n p hpn
  refine kq_seg kp_no 20 ?_
  refine kq_ci (kc_fine1 hf h24) (kms_f hf) ⟨fun c => absurd c (by decide), fun _ => ?_⟩
  refine kc_word hf hT h23 hpn (fun w hw9 => ⟨kms_f hf, ⟨fun _ => ?_, fun c => absurd (kt_wor.mp (hw9.symm.trans c)) hw⟩⟩)
  exact e2 _ _ _ _ _ rfl (kt_ok1 (kt_fr.u (by decide) _) (ka_uS _ _ _ _) h24 rfl h30 h31 (fun _ => rfl) (fun _ => rfl))
/-- what a chain's next link gives, with the rest behind it -/
def kor_o (H0 : Nat → Nat → Bool) (o1 : kO) (rest : Nat → (Nat → Nat → Bool) → kO) : kO := match o1 with
  | .inl x => .inl x
  | .inr (p1, tk, cd, H) => match rest p1 (fun a b => H0 a b || H a b) with
    | .inl x => .inl x
    | .inr (p2, tk2, cd2, H2) => .inr (p2, [20] ++ tk ++ tk2, cd ++ [103] ++ cd2, H2)
theorem kor_Mstep {D : Nat} {o1 : kO} {rest : Nat → (Nat → Nat → Bool) → kO} {H0 : Nat → Nat → Bool} {Dp : Nat} (hpn : p ≤ n) (hw : kt_is tp n (kt_s tp n p) (kt_wd 14)) (hM : kMd D 179 n tp (kt_s tp n p + 2) lv o1) (hP : kPd n (kt_s tp n p + 2) Dp o1) (hR : ∀ p1 tk cd H, o1 = .inr (p1, tk, cd, H) → kor_M D n tp p1 lv (rest p1 (fun a b => H0 a b || H a b))) (hD : 3 ≤ D) : kor_M D n tp p lv (kor_o H0 o1 rest) := by
  intro g h s nt nc R hf hT h23 h24 h26 h30 h31 hnt hnc e1 e2
  obtain ⟨D', rfl⟩ : ∃ D', D = D' + 3 := ⟨D - 3, by omega⟩
  have hle := kt_s_le tp n p hpn
  have h200 := hT.2.1
  have hid := kt_s_id (tp := tp) hpn
  generalize hq0 : kt_s tp n p = q at hw hM hP hle hid
  have hrl := kt_r_le kt_sm tp n q hle.2
  have hr3 : kt_r kt_sm tp n q = 2 := hw.1
  refine kq_seg (fun p => Nat.beq p 4) 30 ?_
  refine kq_ci (kc_fine1 hf h24) (kms_f hf) ⟨fun c => absurd c (by decide), fun _ => ?_⟩
  refine kc_word hf hT h23 hpn (fun w hw9 => ⟨kms_f hf, ?_⟩)
  rw [hq0] at hw9 ⊢
  rw [hw9, kt_wor.mpr hw]
  refine ⟨fun c => absurd rfl c, fun _ => ?_⟩
  refine kc_pass (s := kt_at s q) hf hT (ka_uS _ _ _ _) hle.2 ⟨kms_f hf, ?_⟩
  rw [kt_at_at, hr3]
  have ok1 : kt_ok s (kt_at s (q + 2)) (q + 2) nt nc [] [] := kt_ok1 (kt_fr.u (by decide) _) (ka_uS _ _ _ _) h24 rfl h30 h31 (fun _ => rfl) (fun _ => rfl)
  refine kq_cv (kc_token1 hf ok1.2.2.1 (nt := nt) h30 (by omega)) (kms_f hf) ?_
  have ok2 : kt_ok s (ka_u (ka_u (kt_at s (q + 2)) 90 nt (tM 20)) 72 30 (nI (nt + 1))) (q + 2) nt nc ([] ++ [20]) [] := kt_okt ok1 20
  generalize hs2 : ka_u (ka_u (kt_at s (q + 2)) 90 nt (tM 20)) 72 30 (nI (nt + 1)) = s2 at ok2
  rw [show ka_u (ka_u (kt_at s (q + 2)) 90 nt (Int32.ofInt 103)) 72 30 (nI (nt + 1)) = s2 from hs2]
  refine hM g h s2 (nt + 1) nc _ hf hT ok2.2.1 ok2.2.2.1 (ok2.2.2.2.1.trans h26) ok2.2.2.2.2.1.1 ok2.2.2.2.2.2.1 (by omega) (by omega) (fun kd pl s' ho hfr c24 c25 => ⟨kms_f hf, ?_⟩) (fun p1 tk cd H s3 ho hok => ⟨kms_f hf, ?_⟩)
  · have hpl := hP.1 kd pl ho
    have hb' : ¬ s' 72 24 = -1 := by rw [c24]; exact nI_ne_m1 (by omega)
    refine kq_cv (kc_emit0 hf hb') (kms_f hf) ?_
    refine (kq_seg kp_no 10 ?_ : kq_ex g (D' + 3) 178 R 4 [.ref 72] [] (kms h s'))
    exact kq_ci (kc_fine0 hf hb') (kms_f hf) ⟨fun _ => e1 kd pl s' (by rw [ho]; rfl) (ok2.1.tr hfr) c24 c25, fun c => absurd rfl c⟩
  · have hpp := hP.2 p1 tk cd H ho
    have ok3 : kt_ok s s3 p1 nt nc (([] ++ [20]) ++ tk) ([] ++ cd) := ok2.tr hok
    refine kq_cv (kc_emit1 hf ok3.2.2.1 (nc := nc + cd.length) (by rw [ok3.2.2.2.2.2.1]; simp) (by omega)) (kms_f hf) ?_
    have ok4 := kt_okc ok3 103
    have hlc : ([] ++ cd : List Int32).length = cd.length := by simp
    rw [hlc] at ok4
    generalize hs4 : ka_u (ka_u s3 91 (nc + cd.length) 103) 72 31 (nI (nc + cd.length + 1)) = s4 at ok4
    rw [show ka_u (ka_u s3 91 (nc + cd.length) (Int32.ofInt 103)) 72 31 (nI (nc + cd.length + 1)) = s4 from hs4]
    have hlt : (([] ++ [20]) ++ tk : List Nat).length = 1 + tk.length := by simp; omega
    have hlc4 : (([] ++ cd) ++ [103] : List Int32).length = cd.length + 1 := by simp
    refine hR p1 tk cd H ho g h s4 (nt + (1 + tk.length)) (nc + (cd.length + 1)) R hf hT ok4.2.1 ok4.2.2.1 (ok4.2.2.2.1.trans h26) (by rw [ok4.2.2.2.2.1.1, hlt]) (by rw [ok4.2.2.2.2.2.1, hlc4]) (by omega) (by omega) (fun kd pl s' ho2 hfr c24 c25 => ?_) (fun p2 tk2 cd2 H2 s' ho2 hok2 => ?_)
    · refine e1 kd pl s' ?_ (ok4.1.tr hfr) c24 c25
      rw [ho]
      show (match rest p1 _ with | .inl x => _ | .inr (p2, tk2, cd2, H2) => _) = _
      rw [ho2]
    · have ok5 := ok4.tr (by rw [hlt, hlc4]; exact hok2)
      refine e2 p2 ([20] ++ tk ++ tk2) (cd ++ [103] ++ cd2) H2 s' ?_ (by simpa using ok5)
      rw [ho]
      show (match rest p1 _ with | .inl x => _ | .inr (p2, tk2, cd2, H2) => _) = _
      rw [ho2]
end C11
