/-! ===== conditions: the class's lines by levels; a comparison ===== -/
def ka_uF (s : Nat → Nat → Int32) (a : Nat) (f : Nat → Int32) : Nat → Nat → Int32 := fun b => if b = a then f else s b
theorem ka_uF_S (s : Nat → Nat → Int32) (a : Nat) (f : Nat → Int32) : ka_uF s a f a = f := if_pos rfl
theorem ka_uF_N (s : Nat → Nat → Int32) {a b : Nat} (f : Nat → Int32) (e : b ≠ a) : ka_uF s a f b = s b := if_neg e
theorem ka_uF_id (s : Nat → Nat → Int32) (a : Nat) : ka_uF s a (s a) = s := by
  funext b
  by_cases e : b = a
  · rw [e, ka_uF_S]
  · rw [ka_uF_N _ _ e]
theorem ka_u_uF (s : Nat → Nat → Int32) (a : Nat) (f : Nat → Int32) (k : Nat) (v : Int32) : ka_u (ka_uF s a f) a k v = ka_uF s a (kh_u f k v) := by
  funext b j
  unfold ka_u ka_uF kh_u
  by_cases e : b = a
  · simp only [if_pos e]
  · simp only [if_neg e]
theorem pc_in {a : Nat} (h1 : 15 ≤ a) (h2 : a ≤ 62) (k : Nat) : pc a k = true := by
  have e3 : ∀ x, x < 15 → Nat.beq a x = false := fun x hx => by
    cases hb : Nat.beq a x with
    | false => rfl
    | true => have := Nat.eq_of_beq_eq_true hb; omega
  unfold pc
  rw [e3 9 (by omega), e3 11 (by omega), e3 13 (by omega), show Nat.ble 15 a = true from Nat.ble_eq_true_of_le h1, show Nat.ble a 62 = true from Nat.ble_eq_true_of_le h2]
  rfl
theorem kcs_sF {h : ka_H} {s : Nat → Nat → Int32} {w : Nat → Nat} {a : Nat} (h1 : 15 ≤ a) (h2 : a ≤ 62) (f : Nat → Int32) : ka_sF (kcs h s w) a f = kcs h (ka_uF s a f) w := by
  refine Prod.ext rfl (Prod.ext rfl (Prod.ext rfl (Prod.ext ?_ rfl)))
  funext b
  show (if b = a then f else fun k => cond (pc b k) (s b k) (h.2.2.2.1 b k)) = fun k => cond (pc b k) (ka_uF s a f b k) (h.2.2.2.1 b k)
  by_cases e : b = a
  · rw [if_pos e]
    funext k
    rw [e, pc_in h1 h2, ka_uF_S]
    rfl
  · rw [if_neg e, ka_uF_N _ _ e]
theorem kcs_sI' {h : ka_H} {s : Nat → Nat → Int32} {w : Nat → Nat} {a : Nat} (h1 : 15 ≤ a) (h2 : a ≤ 62) (f : Nat → Int32) (k : Nat) (v : Int32) : ka_sI (kcs h (ka_uF s a f) w) a k v = kcs h (ka_uF s a (kh_u f k v)) w := by
  rw [kcs_sI v (pc_in h1 h2 k), ka_u_uF]
theorem kcs_I' {h : ka_H} {s : Nat → Nat → Int32} {w : Nat → Nat} {a : Nat} (h1 : 15 ≤ a) (h2 : a ≤ 62) (k : Nat) : ka_I (kcs h s w) a k = s a k := kcs_I (pc_in h1 h2 k)
theorem ct_fr.b {lv : Nat} {s : Nat → Nat → Int32} (hl : lv < 7) (f : Nat → Int32) : ct_fr lv 7 7 s (ka_uF s (23 + lv) f) := ⟨fun a x => ka_uF_N _ _ (by omega), congrFun (ka_uF_N _ _ (by omega)) _, fun l x => ka_uF_N _ _ (by omega), fun l x => ka_uF_N _ _ (by omega), fun l x => ka_uF_N _ _ (by omega)⟩
theorem ct_fr.p {lv : Nat} {s : Nat → Nat → Int32} (hl : lv < 7) (f : Nat → Int32) : ct_fr 7 lv 7 s (ka_uF s (15 + lv) f) := ⟨fun a x => ka_uF_N _ _ (by omega), congrFun (ka_uF_N _ _ (by omega)) _, fun l x => ka_uF_N _ _ (by omega), fun l x => ka_uF_N _ _ (by omega), fun l x => ka_uF_N _ _ (by omega)⟩
theorem ct_fr.c {lv : Nat} {s : Nat → Nat → Int32} (hl : lv < 7) (f : Nat → Int32) : ct_fr 7 7 lv s (ka_uF s (31 + lv) f) := ⟨fun a x => ka_uF_N _ _ (by omega), congrFun (ka_uF_N _ _ (by omega)) _, fun l x => ka_uF_N _ _ (by omega), fun l x => ka_uF_N _ _ (by omega), fun l x => ka_uF_N _ _ (by omega)⟩
/-- an array of lines is set; the rest of what was read well stands -/
theorem ct_okF {b pp cc b' pp' cc' p' sc a : Nat} {s s1 : Nat → Nat → Int32} {tk : List Nat} (h1 : ct_ok b pp cc s s1 p' sc tk) (f : Nat → Int32) (h15 : 15 ≤ a) (h37 : a ≤ 37) (hfr : ct_fr b' pp' cc' s1 (ka_uF s1 a f)) (hb : b' ≤ b) (hp : pp' ≤ pp) (hc : cc' ≤ cc) : ct_ok b' pp' cc' s (ka_uF s1 a f) p' sc tk := by
  obtain ⟨a1, a2, a3, a4, a5, a6⟩ := h1
  have e : ∀ x, x < 15 ∨ x = 38 → ka_uF s1 a f x = s1 x := fun x hx => ka_uF_N _ _ (by omega)
  refine ⟨(a1.le hb hp hc).tr hfr, ?_, ⟨?_, ?_⟩, ?_, fun j hj => ?_, fun j hj => ?_⟩
  · rw [e 9 (by omega)]; exact a2
  · rw [e 9 (by omega)]; exact a3.1
  · rw [e 9 (by omega)]; exact a3.2
  · rw [e 13 (by omega)]; exact a4
  · rw [e 38 (by omega)]; exact a5 j hj
  · rw [e 38 (by omega)]; exact a6 j hj
theorem kt_cmp_n {tp : Nat → Int32} {n p p1 c1 : Nat} (hk : kt_tm tp n p = .inr (p1, c1)) (hr : kt_rel tp n (kt_s tp n p1) = none) : kt_cmp tp n p = .inl (1, kt_s tp n p1) := by
  unfold kt_cmp
  rw [hk]
  show (match kt_rel tp n (kt_s tp n p1) with | none => _ | some r => _) = _
  rw [hr]
theorem kt_cmp_l {tp : Nat → Int32} {n p p1 c1 r k : Nat} (hk : kt_tm tp n p = .inr (p1, c1)) (hr : kt_rel tp n (kt_s tp n p1) = some r) (hk2 : kt_tm tp n (kt_s tp n p1 + 1) = .inl k) : kt_cmp tp n p = .inl (k, kt_s tp n (kt_s tp n p1 + 1)) := by
  unfold kt_cmp
  rw [hk]
  show (match kt_rel tp n (kt_s tp n p1) with | none => _ | some r => _) = _
  rw [hr]
  show (match kt_tm tp n (kt_s tp n p1 + 1) with | .inl k => _ | .inr (p2, c2) => _) = _
  rw [hk2]
theorem kt_cmp_r {tp : Nat → Int32} {n p p1 c1 r p2 c2 : Nat} (hk : kt_tm tp n p = .inr (p1, c1)) (hr : kt_rel tp n (kt_s tp n p1) = some r) (hk2 : kt_tm tp n (kt_s tp n p1 + 1) = .inr (p2, c2)) : kt_cmp tp n p = .inr (p2, [c1, r, c2], [tM c1, tM c2, tM r], kt_cm c1 r c2) := by
  unfold kt_cmp
  rw [hk]
  show (match kt_rel tp n (kt_s tp n p1) with | none => _ | some r => _) = _
  rw [hr]
  show (match kt_tm tp n (kt_s tp n p1 + 1) with | .inl k => _ | .inr (p2, c2) => _) = _
  rw [hk2]
section C8
variable {g : Nat × (Nat → Int32)} {d : Nat} {h : ka_H} {s : Nat → Nat → Int32} {w : Nat → Nat} {R : ka_R → ka_H → Prop} {n p sc lv : Nat} {tp : Nat → Int32}
theorem kL (hf : kf g h) {l : Nat} (hl : l < 7) : (ka_P h 14 l = 15 + l ∧ ka_P h 22 l = 23 + l ∧ ka_P h 30 l = 31 + l) ∧ kr h (15 + l) 16 ∧ kr h (23 + l) 16 ∧ kr h (31 + l) 16 := by
  have h1 := (by decide : ∀ l, l < 7 → (Nat.beq (pt 14 l) 0 = false ∧ pt 14 l = 15 + l) ∧ (Nat.beq (pt 22 l) 0 = false ∧ pt 22 l = 23 + l) ∧ Nat.beq (pt 30 l) 0 = false ∧ pt 30 l = 31 + l) l hl
  have h2 := (by decide : ∀ l, l < 7 → kt (15 + l) = (30, 16) ∧ kt (23 + l) = (30, 16) ∧ kt (31 + l) = (30, 16)) l hl
  have hb : ∀ x, x < 103 → Nat.blt x 103 = true := fun x hx => Nat.ble_eq_true_of_le hx
  refine ⟨⟨(hf.2.2.1 14 l rfl h1.1.1).trans h1.1.2, (hf.2.2.1 22 l rfl h1.2.1.1).trans h1.2.1.2, (hf.2.2.1 30 l rfl h1.2.2.1).trans h1.2.2.2⟩, ?_, ?_, ?_⟩
  · unfold kr; rw [hf.2.1 _ (hb _ (by omega)), h2.1]; exact ⟨rfl, rfl⟩
  · unfold kr; rw [hf.2.1 _ (hb _ (by omega)), h2.2.1]; exact ⟨rfl, rfl⟩
  · unfold kr; rw [hf.2.1 _ (hb _ (by omega)), h2.2.2]; exact ⟨rfl, rfl⟩
/-- the array of a level -/
theorem kaa (hf : kf g h) {a l : Nat} (hl : l < 7) (ha : a = 14 ∨ a = 22 ∨ a = 30) : 34 ≤ (ka_K h a).1 ∧ (ka_K h a).1 ≤ 38 ∧ vp_in (nI l) (ka_K h a).2 := by
  rcases ha with z | z | z <;> subst z <;> rw [hf.2.1 _ rfl] <;> exact ⟨by decide, by decide, nI_in (N := 7) hl (by omega)⟩
theorem kc_cmpC (hf : kf g h) (hU : kU h n tp) (hp : s 9 2 = nI p) (hpn : p ≤ n) (hs : s 13 5 = nI sc) (hsc : sc ≤ p) (hl : lv < 7)
    (e1 : ∀ kd pl s', kt_cmp tp n p = .inl (kd, pl) → ct_fr lv 7 7 s s' → s' 9 3 = nI kd → s' 9 4 = nI pl → R (kp_ri 0) (kcs h s' w)) (e2 : ∀ p' tk cd H s', kt_cmp tp n p = .inr (p', tk, cd, H) → ct_ok lv 7 7 s s' p' sc tk → (∀ a b, a < 16 → b < 16 → bt (s' (23 + lv) a) b = H a b) → R (kp_ri 1) (kcs h s' w)) : kp_T (d + 7) 7 [.ref 13, .int (nI lv)] (kcs h s w) R := by
  have h200 := hU.2.1
  have hle := kt_s_le tp n p hpn
  have hK : ∀ s', (ka_K (kcs h s' w) 13).1 = 0 := fun s' => kK (kcs_f (s := s') (w := w) hf) rfl rfl
  have j32 : ∀ (s' : Nat → Nat → Int32) (v2 v3 : Int32) (z4 z5 : Value), R (kp_ri 0) (kcs h s' w) → kd_ex g (d + 6) 7 R 32 [.ref 13, .int (nI lv), .int v2, .int v3, z4, z5] [.int (-1)] (kcs h s' w) := fun s' v2 v3 z4 z5 hR => kd_seg kp_no 10 ⟨fun c => absurd rfl c, fun _ => ⟨Or.inl rfl, hR⟩⟩
  have j18 : ∀ (s' : Nat → Nat → Int32) (v2 : Int32) (z3 z4 z5 : Value), R (kp_ri 0) (kcs h s' w) → kd_ex g (d + 6) 7 R 18 [.ref 13, .int (nI lv), .int v2, z3, z4, z5] [.int (-1)] (kcs h s' w) := fun s' v2 z3 z4 z5 hR => kd_seg (fun p => Nat.beq p 32) 10 ⟨fun c => absurd rfl c, fun _ => j32 s' _ _ _ _ hR⟩
  refine kd_in (kcs_f hf) rfl rfl rfl (kd_seg (fun p => Nat.beq p 18 || Nat.beq p 32) 20 ⟨hK s, ?_⟩)
  refine kc_readTerm hf hU hp hpn hs hsc (fun k s' hk hfr h3 h4 => ⟨kcs_f hf, ⟨fun c => absurd rfl c, fun _ => ?_⟩⟩) (fun p1 c1 s1 hk hok => ⟨kcs_f hf, ?_⟩)
  · exact j18 s' _ _ _ _ (e1 k _ s' (by unfold kt_cmp; rw [hk]) (hfr.le (by omega) (by omega) (by omega)) h3 h4)
  · have r1 := kt_tm_rg hpn hk
    have hle1 := kt_s_le tp n p1 r1.2.1
    refine ⟨fun _ => ⟨hK s1, ?_⟩, fun c => absurd c (nI_ne_m1 (by omega))⟩
    refine kc_readRelation hf hU hok.2.1 r1.2.1 (sc := sc + 1) hok.2.2.2.1 (by omega) (fun s' hr hfr h3 h4 => ⟨kcs_f hf, ?_⟩) (fun r s2 hr hok2 => ⟨kcs_f hf, ?_⟩)
    · exact j18 s' _ _ _ _ (e1 1 _ s' (kt_cmp_n hk hr) ((hok.1.tr hfr).le (by omega) (by omega) (by omega)) h3 h4)
    · have r2 := kt_rel_rg hr
      have hle2 := kt_s_le tp n (kt_s tp n p1 + 1) (by omega)
      have hok12 : ct_ok 7 7 7 s s2 (kt_s tp n p1 + 1) sc ([c1] ++ [r]) := hok.tr hok2
      refine (kd_seg (fun p => Nat.beq p 32) 20 ⟨fun _ => ⟨hK s2, ?_⟩, fun c => absurd c (nI_ne_m1 (by omega))⟩ : kd_ex g (d + 6) 7 R 18 [.ref 13, .int (nI lv), .int (nI c1), .retAddr 0, .retAddr 0, .retAddr 0] [.int (nI r)] (kcs h s2 w))
      refine kc_readTerm hf hU hok2.2.1 (by omega) (sc := sc + 2) hok12.2.2.2.1 (by omega) (fun k s' hk2 hfr h3 h4 => ⟨kcs_f hf, ?_⟩) (fun p2 c2 s3 hk2 hok3 => ⟨kcs_f hf, ?_⟩)
      · exact j32 s' _ _ _ _ (e1 k _ s' (kt_cmp_l hk hr hk2) ((hok12.1.tr hfr).le (by omega) (by omega) (by omega)) h3 h4)
      · have r3 := kt_tm_rg (by omega) hk2
        have hokA : ct_ok 7 7 7 s s3 p2 sc (([c1] ++ [r]) ++ [c2]) := hok12.tr hok3
        have hcm2 : kt_cmp tp n p = .inr (p2, [c1, r, c2], [tM c1, tM c2, tM r], kt_cm c1 r c2) := kt_cmp_r hk hr hk2
        refine (kd_seg (fun p => Nat.beq p 45) 10 ⟨fun _ => ?_, fun c => absurd c (nI_ne_m1 (by omega))⟩ : kd_ex g (d + 6) 7 R 32 [.ref 13, .int (nI lv), .int (nI c1), .int (nI r), .retAddr 0, .retAddr 0] [.int (nI c2)] (kcs h s3 w))
        have hd := kq_for (P := fun k => kd_ex g (d + 6) 7 R 45 [.ref 13, .int (nI lv), .int (nI c1), .int (nI r), .int (nI c2), .int (nI k)] [] (kcs h (ka_uF s3 (23 + lv) (kh_o (s3 (23 + lv)) (fun a => kb_s (kt_cm c1 r c2 a) 16) k)) w)) 16 ?_ (fun k hk ih => ?_)
        · rw [kh_o_0, ka_uF_id] at hd
          exact hd
        · refine kd_seg (fun p => Nat.beq p 45) 20 ⟨fun _ => ⟨Or.inr rfl, ?_⟩, fun c => absurd c (nI_nlt (b := 16) (by omega) (by omega))⟩
          refine e2 _ _ _ _ _ hcm2 (ct_okF hokA _ (by omega) (by omega) (ct_fr.b hl _) (by omega) (Nat.le_refl _) (Nat.le_refl _)) (fun a b ha hb => ?_)
          rw [ka_uF_S, kh_o_T _ _ ha, kb_bt _ 16 (by omega) b (by omega), decide_eq_true hb, Bool.true_and]
        · have hfk : kf g (kcs h (ka_uF s3 (23 + lv) (kh_o (s3 (23 + lv)) (fun a => kb_s (kt_cm c1 r c2 a) 16) k)) w) := kcs_f hf
          refine kd_seg (fun p => Nat.beq p 45) 30 ⟨fun c => absurd (nI_lt (b := 16) hk (by omega)) c, fun _ => ⟨hK _, ?_⟩⟩
          refine ⟨kaa hfk hl (Or.inr (Or.inl rfl)), ?_⟩
          rw [nI_clamp (by omega)]
          rw [show ka_P (kcs h (ka_uF s3 (23 + lv) (kh_o (s3 (23 + lv)) (fun a => kb_s (kt_cm c1 r c2 a) 16) k)) w) (kq_p (kcs h (ka_uF s3 (23 + lv) (kh_o (s3 (23 + lv)) (fun a => kb_s (kt_cm c1 r c2 a) 16) k)) w) 13 2) lv = 23 + lv from (kL hfk hl).1.2.1]
          refine kp_opq (kc_lineOf hfk r1.2.2 r3.2.2 r2.2.2 hk) (fun v hv => ⟨hfk, ⟨(kL hfk hl).2.2.1.1, kr_st (kL hfk hl).2.2.1 hk (by omega), ?_⟩⟩)
          rw [nI_clamp (by omega), kcs_sI' (by omega) (by omega), hv, kh_o_s (s3 (23 + lv)) (fun a => kb_s (kt_cm c1 r c2 a) 16)]
          rw [nI_succ] at ih
          exact ih
end C8
