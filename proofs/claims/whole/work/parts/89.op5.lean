/-! ===== operators: the reference reads one ===== -/
def kx_tb (tp : Nat → Int32) (n bg en q : Nat) : kX := if 1 < kt_r kt_dg tp n (q + 1) ∨ (kt_r kt_dg tp n (q + 1) = 1 ∧ 51 < tp (q + 1)) then .inl (2, q) else if bg = 12 then .inl (3, q) else if kt_r kt_dg tp n (q + 1) = 0 then .inl (1, q + 1) else .inr (q + 2, [(0, (tp (q + 1)).toInt.toNat - 48, 0, 0, en, [], [], kx_hf)])
section O5
variable {d : Nat} {n p Q bg en i : Nat} {tp : Nat → Int32}
/-- after a fault at the word: nothing more -/
theorem kx75b {g : Nat × (Nat → Int32)} {h : ka_H} {s : Nat → Nat → Int32} {R : ka_R → ka_H → Prop} (hf : kf g h) (hb : ¬ s 72 24 = -1) (e : R (kp_ri 0) (kms h s)) : ∀ z1 z2 z3, kq_ex g (d + 1) 172 R 75 [.ref 72, z1, z2, z3] [] (kms h s) := by
  intro z1 z2 z3
  refine kq_seg kp_no 20 ?_
  exact kq_ci (kc_fine0 hf hb) (kms_f hf) ⟨fun c => absurd rfl c, fun _ => ⟨trivial, e⟩⟩
theorem kx_wr {g : Nat × (Nat → Int32)} {h : ka_H} {s : Nat → Nat → Int32} {q : Nat} (hf : kf g h) (hb : s 72 24 = -1) (hq : s 72 23 = nI q) {k : Int32} : kp_T (d + 1) 163 [.ref 72, .int k, .int (ka_I (kms h s) 72 23)] (kms h s) (kp_vo (kms h (kt_bad s k (nI q)))) := by
  rw [show ka_I (kms h s) 72 23 = nI q from hq]
  exact kc_wrong hf hb
theorem kXM_no (hpn : p ≤ n) (hno : ∀ i, i < 14 → ¬ kt_is tp n (kt_s tp n p) (kt_wd i)) : kXM (d + 3) n tp Q p bg en (.inl (1, kt_s tp n p)) := by
  intro g h s R hf hT hQ h23 h24 h26 h27 h79 e1 e2
  have h200 := hT.2.1
  have hle := kt_s_le tp n p hpn
  refine kq_in (kms_f hf) rfl rfl rfl (kq_seg (fun p => Nat.beq p 75) 40 ?_)
  refine kq_ci (kc_fine1 hf h24) (kms_f hf) ⟨fun _ => ?_, fun c => absurd c (by decide)⟩
  refine kc_word hf hT h23 hpn (fun w hw => ⟨kms_f hf, ?_⟩)
  refine kp_opq (kc_kindOf (kms_f hf)) (fun k hk => ⟨kms_f hf, ?_⟩)
  rw [hk, hw, kt_kind_no hno]
  refine ⟨fun c => absurd rfl c, fun _ => ?_⟩
  refine kq_cv (kx_wr (s := kt_at s (kt_s tp n p)) (q := kt_s tp n p) hf h24 rfl) (kms_f hf) ?_
  exact kx75b hf (nI_ne_m1 (by omega)) (e1 1 _ _ rfl (kMfr.tr (kMfr.u _) (kMfr.tr (kMfr.u _) (kMfr.u _))) rfl rfl) _ _ _
theorem kXM_tb (hpn : p ≤ n) (hQ6 : Q < 6) (hbe : en ≤ bg) (hb12 : bg ≤ 12) (hw : kt_is tp n (kt_s tp n p) (kt_wd 0)) : kXM (d + 4) n tp Q p bg en (kx_tb tp n bg en (kt_s tp n p)) := by
  intro g h s R hf hT hQ h23 h24 h26 h27 h79 e1 e2
  have h200 := hT.2.1
  have hle := kt_s_le tp n p hpn
  generalize hq0 : kt_s tp n p = q at hw hle e1 e2
  have hrl := kt_r_le kt_sm tp n q hle.2
  have hr1 : kt_r kt_sm tp n q = 1 := hw.1
  have hdl := kt_r_le kt_dg tp n (q + 1) (by omega)
  unfold kx_tb at e1 e2
  refine kq_in (kms_f hf) rfl rfl rfl (kq_seg (fun p => Nat.beq p 75) 60 ?_)
  refine kq_ci (kc_fine1 hf h24) (kms_f hf) ⟨fun _ => ?_, fun c => absurd c (by decide)⟩
  refine kc_word hf hT h23 hpn (fun w hw9 => ⟨kms_f hf, ?_⟩)
  rw [hq0] at hw9 ⊢
  refine kp_opq (kc_kindOf (kms_f hf)) (fun k hk => ⟨kms_f hf, ?_⟩)
  rw [hk, hw9, kt_kind_is (by decide) hw]
  refine ⟨fun _ => ⟨fun c => absurd rfl c, fun _ => ?_⟩, fun c => absurd c (by decide)⟩
  refine kp_opq (kc_isNoTable (s := kt_at s q) hf hT (ka_uS _ _ _ _) (by omega)) (fun v hv => ⟨kms_f hf, ?_⟩)
  by_cases c1 : 1 < kt_r kt_dg tp n (q + 1) ∨ (kt_r kt_dg tp n (q + 1) = 1 ∧ 51 < tp (q + 1))
  · rw [kp_bT c1] at hv
    rw [if_pos c1] at e1 e2
    rw [hv]
    refine ⟨fun c => absurd c (by decide), fun _ => ?_⟩
    refine kq_cv (kx_wr (s := kt_at s q) (q := q) hf h24 rfl) (kms_f hf) ?_
    exact kx75b hf (nI_ne_m1 (by omega)) (e1 2 _ _ rfl (kMfr.tr (kMfr.u _) (kMfr.tr (kMfr.u _) (kMfr.u _))) rfl rfl) _ _ _
  · rw [kp_bF c1] at hv
    rw [if_neg c1] at e1 e2
    rw [hv]
    refine ⟨fun _ => ⟨fun c => ?_, fun c => ?_⟩, fun c => absurd rfl c⟩
    · have c2 : ¬ bg = 12 := fun z => c (by show s 72 27 = _; rw [h27, z]; rfl)
      rw [if_neg c2] at e1 e2
      refine (kq_seg (fun p => Nat.beq p 94) 20 ?_ : kq_ex g (d + 3) 172 R 75 [.ref 72, .int (nI 0), .retAddr 0, .retAddr 0] [] (kms h (kt_at s q)))
      refine kq_ci (kc_fine1 hf (s := kt_at s q) h24) (kms_f hf) ⟨fun _ => ?_, fun c => absurd c (by decide)⟩
      have ew : ka_sI (kms h (kt_at s q)) 72 27 (s 72 27 + 1) = kms h (ka_u (kt_at s q) 72 27 (nI (bg + 1))) := by rw [kms_sI _ rfl, h27, ← nI_succ]
      suffices j94 : kq_ex g (d + 3) 172 R 94 [.ref 72, .int (nI 0), .retAddr 0, .retAddr 0] [] (kms h (ka_u (kt_at s q) 72 27 (nI (bg + 1)))) by
        rw [← ew] at j94
        exact j94
      refine kq_seg kp_no 20 ?_
      refine kc_pass (s := ka_u (kt_at s q) 72 27 (nI (bg + 1))) (p := q) hf hT rfl hle.2 ⟨kms_f hf, ?_⟩
      rw [hr1]
      generalize hs1 : kt_at (ka_u (kt_at s q) 72 27 (nI (bg + 1))) (q + 1) = s1
      have b24 : s1 72 24 = -1 := by rw [← hs1]; exact h24
      have b79 : s1 79 Q = nI en := by rw [← hs1]; exact h79
      have bfr : kMfr Q en s s1 := by rw [← hs1]; exact kMfr.tr (kMfr.u _) (kMfr.tr (kMfr.u _) (kMfr.u _))
      have hpos : (q + 1 < n ∧ kt_dg (tp (q + 1)) = true) ↔ ¬ kt_r kt_dg tp n (q + 1) = 0 := by
        rcases Nat.lt_or_ge (q + 1) n with z | z
        · have := kt_r_0 (q := kt_dg) (tp := tp) z
          exact ⟨fun y => by have := this.mpr y.2; omega, fun y => ⟨z, this.mp (by omega)⟩⟩
        · rw [kt_r_ge z]; exact ⟨fun y => by omega, fun y => absurd rfl y⟩
      refine ⟨fun c => absurd rfl c, fun _ => ?_⟩
      refine kc_readTable (s := s1) hf hT hQ hQ6 (p := q + 1) (by rw [← hs1]; rfl) (by omega) b24 b79 (by omega) (fun z => ⟨kms_f hf, ⟨trivial, ?_⟩⟩) (fun z1 z2 => ⟨kms_f hf, ⟨trivial, ?_⟩⟩)
      · have z0 : kt_r kt_dg tp n (q + 1) = 0 := Classical.byContradiction fun y => z (hpos.mpr y)
        rw [if_pos z0] at e1 e2
        exact e1 1 _ _ rfl (bfr.tr (kMfr.tr (kMfr.u _) (kMfr.u _))) rfl rfl
      · rw [if_neg (hpos.mp ⟨z1, z2⟩)] at e1 e2
        obtain ⟨ed, d1, d2⟩ := kt_dgn z2
        have hd : tp (q + 1) - 48 = nI ((tp (q + 1)).toInt.toNat - 48) := by
          rw [← nI_sub (b := 48) (by omega), ← ed]
          rfl
        obtain ⟨n1, n2, n3, n4, n5, n6, n7, n8, n9, n10⟩ := kt_nd_n (s := kt_at s1 (q + 1 + 1)) (Q := Q) (en := en) (op := 0) (tab := tp (q + 1) - 48) (a := -1) (b := -1) (by decide) (by decide)
        refine e2 _ _ _ rfl ⟨bfr.tr ⟨fun q' hq' => ?_, fun a ha i' hi' => ?_, fun a ha j hj => ?_⟩, ?_, ?_, ?_, ?_, ?_, fun j x hx => ?_⟩
        · exact (n3 q' hq').trans (ka_uN _ _ _ _ (by decide) _)
        · exact (n1 a i' (by omega) (by omega)).trans (ka_uN _ _ _ _ (by omega) _)
        · exact (congrFun (n2 a (by omega)) j).trans (ka_uN _ _ _ _ (by omega) _)
        · exact (congrFun (n2 72 (by omega)) 23).trans (ka_uS _ _ _ _)
        · exact (congrFun (n2 72 (by omega)) 24).trans b24
        · refine (congrFun (n2 72 (by omega)) 26).trans ?_
          rw [← hs1]; rfl
        · refine (congrFun (n2 72 (by omega)) 27).trans ?_
          rw [← hs1]; rfl
        · exact n4
        · have hj : j = 0 := by
            rcases Nat.eq_zero_or_pos j with z | z
            · exact z
            · rw [List.getElem?_eq_none (by simp; omega)] at hx
              cases hx
          subst hj
          have hx' := Option.some.inj (show some ((0, (tp (q + 1)).toInt.toNat - 48, 0, 0, en, [], [], kx_hf) : kN) = some x from hx)
          rw [← hx']
          refine ⟨n5, ?_, ?_, ?_, n9, n10, fun j hj => absurd hj (Nat.not_lt_zero j), fun j hj => absurd hj (Nat.not_lt_zero j)⟩
          · exact n6.trans hd
          · exact n7
          · exact n8
    · have c2 : bg = 12 := by
        have : s 72 27 = nI 12 := c
        rw [h27] at this
        exact (nI_eq (by omega) (by omega)).mp this
      rw [if_pos c2] at e1 e2
      refine kq_cv (kx_wr (s := kt_at s q) (q := q) hf h24 rfl) (kms_f hf) ?_
      exact kx75b hf (nI_ne_m1 (by omega)) (e1 3 _ _ rfl (kMfr.tr (kMfr.u _) (kMfr.tr (kMfr.u _) (kMfr.u _))) rfl rfl) _ _ _
theorem kXM_op {X1 : Nat → kX} {X2 : Nat → Nat → kX} {oc : Nat → kO} (hpn : p ≤ n) (hQ6 : Q < 6) (hbe : en ≤ bg) (hb12 : bg ≤ 12) (hi : 1 ≤ i ∧ i ≤ 13) (hw : kt_is tp n (kt_s tp n p) (kt_wd i))
    (hX1 : ∀ p', p < p' → p' ≤ n → bg < 12 → kXM (d + 41) n tp Q p' (bg + 1) en (X1 p') ∧ kXP n p' (bg + 1) en (X1 p'))
    (hX2 : ∀ p' k, p < p' → p' ≤ n → bg + 1 + k ≤ 12 → kXM (d + 41) n tp Q p' (bg + 1 + k) (en + k) (X2 p' k) ∧ kXP n p' (bg + 1 + k) (en + k) (X2 p' k))
    (hoc : ∀ p', p < p' → p' ≤ n → kMd (MP 0 + 2) 178 n tp p' 0 (oc p') ∧ kPd n p' 16 (oc p')) : kXM (d + 42) n tp Q p bg en (if bg = 12 then .inl (3, kt_s tp n p) else kx_ops tp n i en X1 X2 oc (kt_s tp n p + (kt_wd i).length)) := by
  intro g h s R hf hT hQ h23 h24 h26 h27 h79 e1 e2
  have h200 := hT.2.1
  have hle := kt_s_le tp n p hpn
  generalize hq0 : kt_s tp n p = q at hw hle e1 e2
  have hrl := kt_r_le kt_sm tp n q hle.2
  have hr1 : kt_r kt_sm tp n q = (kt_wd i).length := hw.1
  have hwl := (kt_wd_l i (by omega)).2
  refine kq_in (kms_f hf) rfl rfl rfl (kq_seg (fun p => Nat.beq p 75) 60 ?_)
  refine kq_ci (kc_fine1 hf h24) (kms_f hf) ⟨fun _ => ?_, fun c => absurd c (by decide)⟩
  refine kc_word hf hT h23 hpn (fun w hw9 => ⟨kms_f hf, ?_⟩)
  rw [hq0] at hw9 ⊢
  refine kp_opq (kc_kindOf (kms_f hf)) (fun k hk => ⟨kms_f hf, ?_⟩)
  rw [hk, hw9, kt_kind_is (by omega) hw]
  refine ⟨fun _ => ⟨fun _ => ⟨fun c => ?_, fun c => ?_⟩, fun c => absurd c (nI_ne0 (by omega) (by omega))⟩, fun c => absurd c (nI_ne_m1 (by omega))⟩
  · have c2 : ¬ bg = 12 := fun z => c (by show s 72 27 = _; rw [h27, z]; rfl)
    rw [if_neg c2] at e1 e2
    refine (kq_seg (fun p => Nat.beq p 94) 20 ?_ : kq_ex g (d + 41) 172 R 75 [.ref 72, .int (nI i), .retAddr 0, .retAddr 0] [] (kms h (kt_at s q)))
    refine kq_ci (kc_fine1 hf (s := kt_at s q) h24) (kms_f hf) ⟨fun _ => ?_, fun c => absurd c (by decide)⟩
    have ew : ka_sI (kms h (kt_at s q)) 72 27 (s 72 27 + 1) = kms h (ka_u (kt_at s q) 72 27 (nI (bg + 1))) := by rw [kms_sI _ rfl, h27, ← nI_succ]
    suffices j94 : kq_ex g (d + 41) 172 R 94 [.ref 72, .int (nI i), .retAddr 0, .retAddr 0] [] (kms h (ka_u (kt_at s q) 72 27 (nI (bg + 1)))) by
      rw [← ew] at j94
      exact j94
    refine kq_seg (fun p => Nat.beq p 107) 20 ?_
    refine kc_pass (s := ka_u (kt_at s q) 72 27 (nI (bg + 1))) (p := q) hf hT rfl hle.2 ⟨kms_f hf, ?_⟩
    rw [hr1]
    generalize hs1 : kt_at (ka_u (kt_at s q) 72 27 (nI (bg + 1))) (q + (kt_wd i).length) = s1
    have bfr : kMfr Q en s s1 := by rw [← hs1]; exact kMfr.tr (kMfr.u _) (kMfr.tr (kMfr.u _) (kMfr.u _))
    have b26 : s1 72 26 = s 72 26 := by rw [← hs1]; rfl
    refine ⟨fun _ => ?_, fun c => absurd c (nI_ne0 (by omega) (by omega))⟩
    refine kXM_ops (d := d) (s := s1) (p := q + (kt_wd i).length) (bg := bg) (X1 := X1) (X2 := X2) (oc := oc) hf hT hQ hQ6 (by rw [← hs1]; rfl) (by omega) (by rw [← hs1]; exact h24) (by rw [← hs1]; exact h26) (by rw [← hs1]; rfl) (by rw [← hs1]; exact h79) hbe (by omega) hi (fun p' y1 y2 => hX1 p' (by omega) y2 (by omega)) (fun p' k y1 y2 y3 => hX2 p' k (by omega) y2 y3) (fun p' y1 y2 => hoc p' (by omega) y2) (fun kd pl s' hk hfr c24 c25 => e1 kd pl s' hk (bfr.tr hfr) c24 c25) (fun p' nds s' hk hok => e2 p' nds s' hk ⟨bfr.tr hok.1, hok.2.1, hok.2.2.1, hok.2.2.2.1.trans b26, hok.2.2.2.2⟩)
  · have c2 : bg = 12 := by
      have : s 72 27 = nI 12 := c
      rw [h27] at this
      exact (nI_eq (by omega) (by omega)).mp this
    rw [if_pos c2] at e1 e2
    refine kq_cv (kx_wr (s := kt_at s q) (q := q) hf h24 rfl) (kms_f hf) ?_
    exact kx75b hf (nI_ne_m1 (by omega)) (e1 3 _ _ rfl (kMfr.tr (kMfr.u _) (kMfr.tr (kMfr.u _) (kMfr.u _))) rfl rfl) _ _ _
end O5
