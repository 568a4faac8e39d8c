/-! ===== conditions: what both sides read; a comparison ===== -/
/-- a fault's kind and place; or the place behind, the signs, the reference's code, for which rows it holds -/
abbrev kO : Type := (Nat × Nat) ⊕ (Nat × List Nat × List Int32 × (Nat → Nat → Bool))
/-- the reference reads so, by the method m -/
def kMd (D m n : Nat) (tp : Nat → Int32) (p lv : Nat) (o : kO) : Prop := ∀ (g : Nat × (Nat → Int32)) (h : ka_H) (s : Nat → Nat → Int32) (nt nc : Nat) (R : ka_R → ka_H → Prop), kf g h → kT h n tp → s 72 23 = nI p → s 72 24 = -1 → s 72 26 = nI lv → s 72 30 = nI nt → s 72 31 = nI nc → nt ≤ p → nc ≤ p →
  (∀ kd pl s', o = .inl (kd, pl) → kt_fr s s' → s' 72 24 = nI pl → s' 72 25 = nI kd → R (.inl none) (kms h s')) → (∀ p' tk cd H s', o = .inr (p', tk, cd, H) → kt_ok s s' p' nt nc tk cd → R (.inl none) (kms h s')) → kp_T D m [.ref 72] (kms h s) R
/-- the class reads so, by the method m; its lines in the array rs -/
def kCd (D m n : Nat) (tp : Nat → Int32) (p lv b pp cc rs : Nat) (o : kO) : Prop := ∀ (g : Nat × (Nat → Int32)) (h : ka_H) (s : Nat → Nat → Int32) (w : Nat → Nat) (sc : Nat) (R : ka_R → ka_H → Prop), kf g h → kU h n tp → s 9 2 = nI p → s 13 5 = nI sc → sc ≤ p →
  (∀ kd pl s', o = .inl (kd, pl) → ct_fr b pp cc s s' → s' 9 3 = nI kd → s' 9 4 = nI pl → R (kp_ri 0) (kcs h s' w)) → (∀ p' tk cd H s', o = .inr (p', tk, cd, H) → ct_ok b pp cc s s' p' sc tk → (∀ a b, a < 16 → b < 16 → bt (s' rs a) b = H a b) → R (kp_ri 1) (kcs h s' w)) → kp_T D m [.ref 13, .int (nI lv)] (kcs h s w) R
/-- the code leaves one number more on the stack: whether it holds -/
def kv_cx (cd : List Int32) (H : Nat → Nat → Bool) (D : Nat) : Prop := ∀ a b sp S, a < 16 → b < 16 → sp + D ≤ 100 → ∃ S', kv_xl a b cd (sp, S) = some (sp + 1, S') ∧ S' sp = (if H a b = true then 1 else 0) ∧ ∀ j, j < sp → S' j = S j
def kt_vc (c : Nat) : Prop := c ≤ 20 ∨ c = 60 ∨ c = 61 ∨ c = 62 ∨ c = 91 ∨ c = 93
def kPd (n p D : Nat) (o : kO) : Prop := (∀ kd pl, o = .inl (kd, pl) → pl ≤ n ∧ 1 ≤ kd ∧ kd ≤ 3) ∧ ∀ p' tk cd H, o = .inr (p', tk, cd, H) → p < p' ∧ p' ≤ n ∧ p + tk.length ≤ p' ∧ p + cd.length ≤ p' ∧ 1 ≤ tk.length ∧ kv_cx cd H D ∧ ∀ c, c ∈ tk → kt_vc c
theorem kv_xl_ap {a b : Nat} {l2 : List Int32} : ∀ (l1 : List Int32) (p p1 : Nat × (Nat → Int32)), kv_xl a b l1 p = some p1 → kv_xl a b (l1 ++ l2) p = kv_xl a b l2 p1
  | [], p, p1, h => by
    have : p = p1 := Option.some.inj h
    rw [this]; rfl
  | v :: l1, p, p1, h => by
    unfold kv_xl at h
    show (match kv_x1 a b v p with | some p' => kv_xl a b (l1 ++ l2) p' | none => none) = _
    cases hx : kv_x1 a b v p with
    | none => rw [hx] at h; cases h
    | some p' => rw [hx] at h; exact kv_xl_ap l1 p' p1 h
def kt_cmp (tp : Nat → Int32) (n p : Nat) : kO := match kt_tm tp n p with
  | .inl k => .inl (k, kt_s tp n p)
  | .inr (p1, c1) => match kt_rel tp n (kt_s tp n p1) with
    | none => .inl (1, kt_s tp n p1)
    | some r => match kt_tm tp n (kt_s tp n p1 + 1) with
      | .inl k => .inl (k, kt_s tp n (kt_s tp n p1 + 1))
      | .inr (p2, c2) => .inr (p2, [c1, r, c2], [tM c1, tM c2, tM r], kt_cm c1 r c2)
theorem kt_rel_rg {tp : Nat → Int32} {n q r : Nat} (h : kt_rel tp n q = some r) : q < n ∧ tp q = nI r ∧ (r = 60 ∨ r = 61 ∨ r = 62) := by
  unfold kt_rel at h
  split at h
  · rename_i hq
    split at h
    · rename_i e; injection h with h; subst h; exact ⟨hq, e, Or.inl rfl⟩
    · split at h
      · rename_i e; injection h with h; subst h; exact ⟨hq, e, Or.inr (Or.inr rfl)⟩
      · split at h
        · rename_i e; injection h with h; subst h; exact ⟨hq, e, Or.inr (Or.inl rfl)⟩
        · cases h
  · cases h
theorem kt_tm_k {tp : Nat → Int32} {n p k : Nat} (h : kt_tm tp n p = .inl k) : 1 ≤ k ∧ k ≤ 3 := by
  unfold kt_tm at h
  split at h
  · split at h
    · cases h
    · injection h with h; omega
  · split at h
    · cases h
    · split at h
      · cases h
      · injection h with h; omega
theorem kt_tm_s {tp : Nat → Int32} {n p : Nat} (hp : p ≤ n) : kt_tm tp n (kt_s tp n p) = kt_tm tp n p := by
  unfold kt_tm
  rw [kt_s_id hp]
theorem tM_lt {c : Nat} (h : c ≤ 17) : tM c < 100 := (by decide : ∀ c, c < 18 → tM c < 100) c (by omega)
theorem tM_v {c a b : Nat} (h : c ≤ 17) (ha : a < 16) (hb : b < 16) : (if tM c = 20 then nI a else if tM c = 21 then nI b else tM c) = nI (kt_tv c a b) := by
  unfold kt_tv
  rcases (by omega : c < 16 ∨ c = 16 ∨ c = 17) with z | z | z
  · have h1 : tM c = nI c := if_pos z
    rw [h1, if_neg (fun y => by have := (nI_eq (b := 20) (by omega) (by omega)).mp y; omega), if_neg (fun y => by have := (nI_eq (b := 21) (by omega) (by omega)).mp y; omega), if_neg (by omega), if_neg (by omega)]
  · rw [z]; rfl
  · rw [z]; rfl
theorem kt_cmp_pd {tp : Nat → Int32} {n p : Nat} (hp : p ≤ n) : kPd n p 2 (kt_cmp tp n p) := by
  have hle := kt_s_le tp n p hp
  unfold kt_cmp
  cases h1 : kt_tm tp n p with
  | inl k =>
    refine ⟨fun kd pl e => ?_, fun p' tk cd H e => by cases e⟩
    injection e with e
    injection e with e1 e2
    have := kt_tm_k h1
    omega
  | inr x =>
    obtain ⟨p1, c1⟩ := x
    have r1 := kt_tm_rg hp h1
    have hle1 := kt_s_le tp n p1 r1.2.1
    show kPd n p 2 (match kt_rel tp n (kt_s tp n p1) with | none => _ | some r => _)
    cases h2 : kt_rel tp n (kt_s tp n p1) with
    | none =>
      refine ⟨fun kd pl e => ?_, fun p' tk cd H e => by cases e⟩
      injection e with e
      injection e with e1 e2
      omega
    | some r =>
      have r2 := kt_rel_rg h2
      have hle2 := kt_s_le tp n (kt_s tp n p1 + 1) (by omega)
      show kPd n p 2 (match kt_tm tp n (kt_s tp n p1 + 1) with | .inl k => _ | .inr (p2, c2) => _)
      cases h3 : kt_tm tp n (kt_s tp n p1 + 1) with
      | inl k =>
        refine ⟨fun kd pl e => ?_, fun p' tk cd H e => by cases e⟩
        injection e with e
        injection e with e1 e2
        have := kt_tm_k h3
        omega
      | inr x =>
        obtain ⟨p2, c2⟩ := x
        have r3 := kt_tm_rg (by omega) h3
        refine ⟨fun kd pl e => (by cases e), fun p' tk cd H e => ?_⟩
        injection e with e
        injection e with e1 e2
        injection e2 with e2 e3
        injection e3 with e3 e4
        subst e1 e2 e3 e4
        refine ⟨by omega, r3.2.1, by simp; omega, by simp; omega, by simp, ?_, fun c hc => ?_⟩
        · intro a b sp S ha hb hsp
          have x1 : kv_x1 a b (tM c1) (sp, S) = some (sp + 1, kh_u S sp (nI (kt_tv c1 a b))) := by
            unfold kv_x1
            rw [if_pos (tM_lt r1.2.2), if_pos (show sp < 100 by omega), tM_v r1.2.2 ha hb]
          have x2 : kv_x1 a b (tM c2) (sp + 1, kh_u S sp (nI (kt_tv c1 a b))) = some (sp + 2, kh_u (kh_u S sp (nI (kt_tv c1 a b))) (sp + 1) (nI (kt_tv c2 a b))) := by
            unfold kv_x1
            rw [if_pos (tM_lt r3.2.2), if_pos (show sp + 1 < 100 by omega), tM_v r3.2.2 ha hb]
          have hv : ∀ c, c ≤ 17 → kt_tv c a b < 100 := fun c hc => by unfold kt_tv; split; omega; split <;> omega
          have x3 : kv_x1 a b (tM r) (sp + 2, kh_u (kh_u S sp (nI (kt_tv c1 a b))) (sp + 1) (nI (kt_tv c2 a b))) = some (sp + 1, kh_u (kh_u (kh_u S sp (nI (kt_tv c1 a b))) (sp + 1) (nI (kt_tv c2 a b))) sp (if kt_cm c1 r c2 a b = true then 1 else 0)) := by
            unfold kv_x1
            have hn : ¬ tM r < 100 ∧ ¬ tM r = 105 := by rcases r2.2.2 with z | z | z <;> rw [z] <;> decide
            rw [if_neg hn.1, if_neg hn.2, if_pos (show 2 ≤ sp + 2 ∧ sp + 2 ≤ 100 by omega)]
            show some (sp + 1, kh_u _ sp (kv_c2 (tM r) (kh_u (kh_u S sp (nI (kt_tv c1 a b))) (sp + 1) (nI (kt_tv c2 a b)) sp) (kh_u (kh_u S sp (nI (kt_tv c1 a b))) (sp + 1) (nI (kt_tv c2 a b)) (sp + 1)))) = _
            rw [kh_uS, kh_uN _ _ (show sp ≠ sp + 1 by omega), kh_uS]
            have h1 := hv c1 r1.2.2
            have h2 := hv c2 r3.2.2
            have hlt1 := nI_ltI (a := kt_tv c1 a b) (b := kt_tv c2 a b) (by omega) (by omega)
            have hlt2 := nI_ltI (a := kt_tv c2 a b) (b := kt_tv c1 a b) (by omega) (by omega)
            have heq := nI_eq (a := kt_tv c1 a b) (b := kt_tv c2 a b) (by omega) (by omega)
            have hk : kv_c2 (tM r) (nI (kt_tv c1 a b)) (nI (kt_tv c2 a b)) = if kt_cm c1 r c2 a b = true then 1 else 0 := by
              rcases r2.2.2 with z | z | z
              · rw [z, show kt_cm c1 60 c2 a b = decide (kt_tv c1 a b < kt_tv c2 a b) from rfl, show kv_c2 (tM 60) (nI (kt_tv c1 a b)) (nI (kt_tv c2 a b)) = kp_b (nI (kt_tv c1 a b) < nI (kt_tv c2 a b)) from rfl]
                unfold kp_b
                simp only [hlt1, decide_eq_true_eq]
              · rw [z, show kt_cm c1 61 c2 a b = decide (kt_tv c1 a b = kt_tv c2 a b) from rfl, show kv_c2 (tM 61) (nI (kt_tv c1 a b)) (nI (kt_tv c2 a b)) = kp_b (nI (kt_tv c1 a b) = nI (kt_tv c2 a b)) from rfl]
                unfold kp_b
                simp only [heq, decide_eq_true_eq]
              · rw [z, show kt_cm c1 62 c2 a b = decide (kt_tv c2 a b < kt_tv c1 a b) from rfl, show kv_c2 (tM 62) (nI (kt_tv c1 a b)) (nI (kt_tv c2 a b)) = kp_b (nI (kt_tv c2 a b) < nI (kt_tv c1 a b)) from rfl]
                unfold kp_b
                simp only [hlt2, decide_eq_true_eq]
            rw [hk]
          refine ⟨kh_u (kh_u (kh_u S sp (nI (kt_tv c1 a b))) (sp + 1) (nI (kt_tv c2 a b))) sp (if kt_cm c1 r c2 a b = true then 1 else 0), ?_, kh_uS _ _ _, fun j hj => ?_⟩
          · unfold kv_xl
            rw [x1]
            show kv_xl a b [tM c2, tM r] _ = _
            unfold kv_xl
            rw [x2]
            show kv_xl a b [tM r] _ = _
            unfold kv_xl
            rw [x3]
            rfl
          · rw [kh_uN _ _ (show j ≠ sp by omega), kh_uN _ _ (show j ≠ sp + 1 by omega), kh_uN _ _ (show j ≠ sp by omega)]
        · unfold kt_vc
          simp at hc
          rcases hc with z | z | z
          · omega
          · rcases r2.2.2 with y | y | y <;> omega
          · omega
section C7
variable {g : Nat × (Nat → Int32)} {d : Nat} {h : ka_H} {s : Nat → Nat → Int32} {w : Nat → Nat} {R : ka_R → ka_H → Prop} {n p nt nc sc lv : Nat} {tp : Nat → Int32}
theorem kc_wrong0 (hf : kf g h) (hb : ¬ s 72 24 = -1) {kd pl : Int32} : kp_T (d + 1) 163 [.ref 72, .int kd, .int pl] (kms h s) (kp_vo (kms h s)) :=
  kq_in (kms_f hf) rfl rfl rfl (kq_seg kp_no 14 ⟨fun c => absurd c hb, fun _ => ⟨rfl, rfl⟩⟩)
theorem kc_value0 (hf : kf g h) (hb : ¬ s 72 24 = -1) : kp_T (d + 2) 182 [.ref 72] (kms h s) (kp_vo (kms h s)) := by
  refine kq_in (kms_f hf) rfl rfl rfl (kq_seg kp_no 14 ?_)
  exact kq_ci (kc_fine0 hf hb) (kms_f hf) ⟨fun c => absurd rfl c, fun _ => ⟨rfl, rfl⟩⟩
/-- after a fault a comparison does nothing more -/
theorem kc_cmpB (hf : kf g h) (hb : ¬ s 72 24 = -1) (e : R (.inl none) (kms h s)) : ∀ z1 z2, kq_ex g (d + 4) 180 R 173 [.ref 72, z1, .int z2] [] (kms h s) := by
  intro z1 z2
  refine kq_seg kp_no 30 ?_
  refine kq_ci (kc_fine0 hf hb) (kms_f hf) ⟨fun _ => ?_, fun c => absurd rfl c⟩
  refine kq_cv (kc_token0 hf hb) (kms_f hf) ?_
  refine kq_cv (kc_value0 hf hb) (kms_f hf) ?_
  exact kq_cv (kc_emit0 hf hb) (kms_f hf) e
theorem kc_cmpM (hf : kf g h) (hT : kT h n tp) (hp : s 72 23 = nI p) (hpn : p ≤ n) (hb : s 72 24 = -1) (h30 : s 72 30 = nI nt) (h31 : s 72 31 = nI nc) (ht : nt ≤ p) (hc : nc ≤ p)
    (e1 : ∀ kd pl s', kt_cmp tp n p = .inl (kd, pl) → kt_fr s s' → s' 72 24 = nI pl → s' 72 25 = nI kd → R (.inl none) (kms h s')) (e2 : ∀ p' tk cd H s', kt_cmp tp n p = .inr (p', tk, cd, H) → kt_ok s s' p' nt nc tk cd → R (.inl none) (kms h s')) : kq_ex g (d + 4) 180 R 101 [.ref 72, .retAddr 0, .retAddr 0] [] (kms h s) := by
  have h200 := hT.2.1
  have hle := kt_s_le tp n p hpn
  have hbl : ∀ s' pl kd, pl ≤ 200 → kt_cmp tp n p = .inl (kd, pl) → kt_fr s s' → s' 72 24 = nI pl → s' 72 25 = nI kd → ∀ z1 z2, kq_ex g (d + 4) 180 R 173 [.ref 72, z1, .int z2] [] (kms h s') := fun s' pl kd hpl hk hfr h24 h25 => kc_cmpB hf (by rw [h24]; exact nI_ne_m1 (by omega)) (e1 kd pl s' hk hfr h24 h25)
  refine kq_seg (fun p => Nat.beq p 105) 10 ?_
  refine kc_value hf hT hp hpn hb h30 h31 ht hc (fun k s' hk hfr h24 h25 => ⟨kms_f hf, ?_⟩) (fun p1 c1 s1 hk hok => ⟨kms_f hf, ?_⟩)
  · have hcm : kt_cmp tp n p = .inl (k, kt_s tp n p) := by unfold kt_cmp; rw [hk]
    have hb' : ¬ s' 72 24 = -1 := by rw [h24]; exact nI_ne_m1 (by omega)
    have hgo := hbl s' _ k (by omega) hcm hfr h24 h25
    refine (kq_seg (fun p => Nat.beq p 173) 60 ?_ : kq_ex g (d + 4) 180 R 105 [.ref 72, .retAddr 0, .retAddr 0] [] (kms h s'))
    refine kq_ci (kc_fine0 hf hb') (kms_f hf) ⟨fun _ => ?_, fun c => absurd rfl c⟩
    refine ⟨fun _ => ⟨fun _ => ⟨fun c => absurd c (by decide), fun _ => ⟨fun c => absurd c (by decide), fun _ => ⟨fun c => absurd c (by decide), fun _ => ?_⟩⟩⟩, fun c => absurd c (by decide)⟩, fun c => absurd c (by decide)⟩
    exact kq_cv (kc_wrong0 hf hb') (kms_f hf) (hgo _ _)
  · have r1 := kt_tm_rg hpn hk
    have hle1 := kt_s_le tp n p1 r1.2.1
    have hb1 : s1 72 24 = -1 := hok.2.2.1
    generalize hq1 : kt_s tp n p1 = q1 at hle1
    have h30' : s1 72 30 = nI (nt + 1) := hok.2.2.2.2.1.1
    have h31' : s1 72 31 = nI (nc + 1) := hok.2.2.2.2.2.1
    have j173 : ∀ (r : Nat) (z1 : Value), kt_rel tp n q1 = some r → kq_ex g (d + 4) 180 R 173 [.ref 72, z1, .int (tM r)] [] (kms h (kt_at s1 q1)) := by
      intro r z1 hr
      have r2 := kt_rel_rg hr
      suffices j190 : kq_ex g (d + 4) 180 R 190 [.ref 72, z1, .int (tM r)] [] (kms h (kt_at s1 (q1 + 1))) by
        refine kq_seg (fun p => Nat.beq p 190) 40 ?_
        refine kq_ci (kc_fine1 hf (s := kt_at s1 q1) hb1) (kms_f hf) ⟨fun c => absurd c (by decide), fun _ => ?_⟩
        rw [← kms_nx] at j190
        exact j190
      refine kq_seg kp_no 40 ?_
      refine kq_cv (kc_token1 hf (s := kt_at s1 (q1 + 1)) hb1 (nt := nt + 1) h30' (by omega)) (kms_f hf) ?_
      have hok2 : kt_ok s (ka_u (ka_u (kt_at s1 (q1 + 1)) 90 (nt + 1) (tM r)) 72 30 (nI (nt + 1 + 1))) (q1 + 1) nt nc ([c1] ++ [r]) [tM c1] := kt_okt (kt_oka hok (q1 + 1)) r
      refine kc_value hf hT (s := ka_u (ka_u (kt_at s1 (q1 + 1)) 90 (nt + 1) (tM r)) 72 30 (nI (nt + 1 + 1))) (p := q1 + 1) (nt := nt + 2) (nc := nc + 1) hok2.2.1 (by omega) hok2.2.2.1 hok2.2.2.2.2.1.1 hok2.2.2.2.2.2.1 (by omega) (by omega) (fun k s' hk2 hfr h24 h25 => ⟨kms_f hf, ?_⟩) (fun p2 c2 s' hk2 hok3 => ⟨kms_f hf, ?_⟩)
      · have hle2 := kt_s_le tp n (q1 + 1) (by omega)
        have hcm : kt_cmp tp n p = .inl (k, kt_s tp n (q1 + 1)) := by
          unfold kt_cmp
          rw [hk]
          show (match kt_rel tp n (kt_s tp n p1) with | none => _ | some r => _) = _
          rw [hq1, hr]
          show (match kt_tm tp n (q1 + 1) with | .inl k => _ | .inr (p2, c2) => _) = _
          rw [hk2]
        refine kq_cv (kc_emit0 hf (by rw [h24]; exact nI_ne_m1 (by omega))) (kms_f hf) ?_
        exact e1 k _ s' hcm (hok2.1.tr hfr) h24 h25
      · have r3 := kt_tm_rg (by omega) hk2
        have hcm : kt_cmp tp n p = .inr (p2, [c1, r, c2], [tM c1, tM c2, tM r], kt_cm c1 r c2) := by
          unfold kt_cmp
          rw [hk]
          show (match kt_rel tp n (kt_s tp n p1) with | none => _ | some r => _) = _
          rw [hq1, hr]
          show (match kt_tm tp n (q1 + 1) with | .inl k => _ | .inr (p2, c2) => _) = _
          rw [hk2]
        have hok4 : kt_ok s s' p2 nt nc (([c1] ++ [r]) ++ [c2]) ([tM c1] ++ [tM c2]) := hok2.tr hok3
        have hle2 := kt_s_le tp n (q1 + 1) (by omega)
        refine kq_cv (kc_emit1 hf hok4.2.2.1 (nc := nc + 2) hok4.2.2.2.2.2.1 (by omega)) (kms_f hf) ?_
        exact e2 _ _ _ _ _ hcm (kt_okc hok4 (tM r))
    refine (kq_seg (fun p => Nat.beq p 173) 60 ?_ : kq_ex g (d + 4) 180 R 105 [.ref 72, .retAddr 0, .retAddr 0] [] (kms h s1))
    refine kq_ci (kc_fine1 hf hb1) (kms_f hf) ⟨fun c => absurd c (by decide), fun _ => ?_⟩
    refine kc_here hf hT hok.2.1 r1.2.1 ⟨kms_f hf, ?_⟩
    rw [hq1]
    generalize hcv : (if q1 < n then tp q1 else (0 : Int32)) = cv
    have hrel : kt_rel tp n q1 = if cv = 60 then some 60 else if cv = 62 then some 62 else if cv = 61 then some 61 else none := by
      unfold kt_rel
      by_cases z : q1 < n
      · rw [if_pos z] at hcv ⊢
        rw [hcv]
      · rw [if_neg z] at hcv ⊢
        rw [← hcv]
        rfl
    refine ⟨fun (a1 : ¬ cv = 60) => ⟨fun (a2 : ¬ cv = 62) => ⟨fun c => absurd c a1, fun _ => ⟨fun c => absurd c a2, fun _ => ⟨fun (a3 : cv = 61) => ?_, fun (a3 : ¬ cv = 61) => ?_⟩⟩⟩, fun (a2 : cv = 62) => ⟨fun c => absurd c a1, fun _ => ⟨fun _ => ?_, fun c => absurd a2 c⟩⟩⟩, fun (a1 : cv = 60) => ⟨fun _ => ?_, fun c => absurd a1 c⟩⟩
    · exact j173 61 _ (by rw [hrel, if_neg a1, if_neg a2, if_pos a3])
    · have hno : kt_rel tp n q1 = none := by rw [hrel, if_neg a1, if_neg a2, if_neg a3]
      have hcm : kt_cmp tp n p = .inl (1, q1) := by
        unfold kt_cmp
        rw [hk]
        show (match kt_rel tp n (kt_s tp n p1) with | none => _ | some r => _) = _
        rw [hq1, hno]
      refine kq_cv (kc_wrong hf (s := kt_at s1 q1) hb1) (kms_f hf) ?_
      exact hbl (kt_bad (kt_at s1 q1) 1 (nI q1)) q1 1 (by omega) hcm (hok.1.tr ((kt_fr.u (by decide) _).tr ((kt_fr.u (by decide) _).tr (kt_fr.u (by decide) _)))) rfl rfl _ _
    · exact j173 62 _ (by rw [hrel, if_neg a1, if_pos a2])
    · exact j173 60 _ (by rw [hrel, if_pos a1])
end C7
