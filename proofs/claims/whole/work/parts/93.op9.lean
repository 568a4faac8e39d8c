/-! ===== operators: the class reads one ===== -/
section O9
variable {d : Nat} {n p bg en i : Nat} {tp : Nat → Int32}
theorem kXC_no (hpn : p ≤ n) (hno : ∀ i, i < 14 → ¬ kt_is tp n (kt_s tp n p) (kt_wd i)) : kXC (d + 7) n tp p bg en (.inl (1, kt_s tp n p)) := by
  intro g h s w sc R hf hU hp h113 h114 hs hsc e1 e2
  have hle := kt_s_le tp n p hpn
  have hK11 : ∀ s' w', (ka_K (kcs h s' w') 11).1 = 1 := fun s' w' => kK (kcs_f hf) rfl rfl
  have hK9 : ∀ s' w', (ka_K (kcs h s' w') 9).1 = 6 := fun s' w' => kK (kcs_f hf) rfl rfl
  refine kd_in (kcs_f hf) rfl rfl rfl (kd_seg kp_no 60 ⟨hK11 s w, ⟨hK9 s w, ?_⟩⟩)
  refine kc_skip hf hU hp hpn ⟨kcs_f hf, ⟨hK11 _ _, ?_⟩⟩
  refine kc_readWord (s := ct_at s (kt_s tp n p)) hf hU (ka_uS _ _ _ _) hle.2 (kt_s_id hpn) (fun i hi hw => absurd hw (hno i hi)) (fun _ => ⟨kcs_f hf, ?_⟩)
  refine ⟨fun c => absurd rfl c, fun _ => ⟨hK11 _ _, ⟨hK9 _ _, ?_⟩⟩⟩
  exact kc_fail hf ⟨kcs_f hf, ⟨Or.inl rfl, e1 1 _ _ _ rfl rfl rfl⟩⟩
theorem kXC_tb (hpn : p ≤ n) (hbe : en ≤ bg) (hb12 : bg ≤ 12) (hw : kt_is tp n (kt_s tp n p) (kt_wd 0)) : kXC (d + 7) n tp p bg en (kx_tb tp n bg en (kt_s tp n p)) := by
  intro g h s w sc R hf hU hp h113 h114 hs hsc e1 e2
  have hle := kt_s_le tp n p hpn
  have h200 := hU.2.1
  have hK11 : ∀ s' w', (ka_K (kcs h s' w') 11).1 = 1 := fun s' w' => kK (kcs_f hf) rfl rfl
  have hK9 : ∀ s' w', (ka_K (kcs h s' w') 9).1 = 6 := fun s' w' => kK (kcs_f hf) rfl rfl
  have hid := kt_s_id (tp := tp) hpn
  refine kd_in (kcs_f hf) rfl rfl rfl (kd_seg (fun p => Nat.beq p 84) 60 ⟨hK11 s w, ⟨hK9 s w, ?_⟩⟩)
  refine kc_skip hf hU hp hpn ⟨kcs_f hf, ⟨hK11 _ _, ?_⟩⟩
  generalize hq0 : kt_s tp n p = q at hw hle e1 e2 hid
  have hrl := kt_r_le kt_sm tp n q hle.2
  have hr1 : kt_r kt_sm tp n q = 1 := hw.1
  have hdl := kt_r_le kt_dg tp n (q + 1) (by omega)
  refine kc_readWord (s := ct_at s q) hf hU (ka_uS _ _ _ _) hle.2 hid (fun i hi hw' => ⟨kcs_f hf, ?_⟩) (fun hno => absurd hw (hno 0 (by decide)))
  have hi0 : i = 0 := (nI_eq (by omega) (by omega)).mp ((kt_kind_is hi hw').symm.trans (kt_kind_is (i := 0) (by decide) hw))
  subst hi0
  rw [show (kt_wd 0).length = 1 from rfl, ct_at_at]
  refine ⟨fun _ => ⟨⟨by decide, by decide⟩, fun c => absurd rfl c, fun _ => ⟨hK11 _ _, ⟨hK9 _ _, ?_⟩⟩⟩, fun c => absurd c (by decide)⟩
  refine kc_digits (s := ct_at s (q + 1)) hf hU (ka_uS _ _ _ _) (by omega) ⟨kcs_f hf, ?_⟩
  generalize hD : kt_r kt_dg tp n (q + 1) = D at hdl
  have hpos : ¬ D = 0 → q + 1 < n ∧ kt_dg (tp (q + 1)) = true := fun y => by
    rcases Nat.lt_or_ge (q + 1) n with z | z
    · exact ⟨z, (kt_r_0 (q := kt_dg) (tp := tp) z).mp (by omega)⟩
    · rw [kt_r_ge z] at hD; exact absurd hD.symm y
  unfold kx_tb at e1 e2
  rw [hD] at e1 e2
  have j84 : ∀ (tv : Int32) (a : Nat), ¬ (1 < D ∨ (D = 1 ∧ 51 < tp (q + 1))) → (D = 0 → a = q + 1) → (D = 1 → a = q + 2 ∧ tv = nI ((tp (q + 1)).toInt.toNat - 48)) → kd_ex g (d + 6) 20 R 84 [.ref 11, .int (nI q), .ref 1000000, .int (nI D), .int tv] [] (kcs h (ct_at s a) w) := by
    intro tv a c1 hd0 hd1
    rw [if_neg c1] at e1 e2
    refine kd_seg (fun p => Nat.beq p 113) 40 ⟨hK11 _ _, ?_⟩
    rw [show ka_I (kcs h (ct_at s a) w) 11 3 = nI bg from h113]
    refine ⟨fun c => ?_, fun c => ?_⟩
    · have c2 : ¬ bg = 12 := fun z => by rw [z] at c; exact absurd c (by decide)
      rw [if_neg c2] at e1 e2
      refine ⟨hK11 _ _, ⟨hK11 _ _, ?_⟩⟩
      rw [show ka_I (kcs h (ct_at s a) w) 11 3 = nI bg from h113, show nI bg + Int32.ofInt 1 = nI (bg + 1) from (nI_succ bg).symm, kcs_sI (a := 11) (k := 3) _ rfl]
      generalize hs1 : ka_u (ct_at s a) 11 3 (nI (bg + 1)) = s1
      have x92 : s1 9 2 = nI a := by rw [← hs1]; rfl
      have x114 : s1 11 4 = nI en := by rw [← hs1]; exact h114
      have x135 : s1 13 5 = nI sc := by rw [← hs1]; exact hs
      refine (kd_seg kp_no 40 ⟨⟨by decide, by decide⟩, fun _ => ⟨fun c => ?_, fun c => ?_⟩, fun c => absurd rfl c⟩ : kd_ex g (d + 6) 20 R 113 [.ref 11, .int (nI q), .ref 1000000, .int (nI D), .int tv] [] (kcs h s1 w))
      · have hD0 : ¬ D = 0 := fun z => c (by rw [z]; rfl)
        have hD1 : D = 1 := by
          rcases Nat.lt_or_ge 1 D with z | z
          · exact absurd (Or.inl z) c1
          · omega
        obtain ⟨ha, htv⟩ := hd1 hD1
        rw [if_neg hD0] at e1 e2
        refine ⟨hK11 _ _, ⟨hK11 _ _, ?_⟩⟩
        rw [show ka_I (kcs h s1 w) 11 4 = nI en from x114]
        have hz : ∀ c, c ≠ 9 → c ≠ 11 → s1 c = s c := fun c y1 y2 => by
          rw [← hs1]
          exact funext fun k => (ka_uN _ _ _ _ y2 k).trans (ka_uN _ _ _ _ y1 k)
        have h0 : kCok en sc s w s1 w (q + 2) (bg + 1) [] sc := ⟨⟨fun k hk => ⟨rfl, hz _ (by omega) (by omega), hz _ (by omega) (by omega)⟩, fun j _ => by rw [hz 38 (by decide) (by decide)]⟩, by rw [x92, ha], ⟨by rw [← hs1]; rfl, by rw [← hs1]; rfl⟩, by rw [← hs1]; rfl, x114, x135, ⟨Nat.le_refl _, by omega⟩, fun j x hx => by cases hx⟩
        have hfin := h0.snoc (bg := bg) (op := 0) (tab := (tp (q + 1)).toInt.toNat - 48) (o1 := 0) (o2 := 0) (sb := 0) (tk := []) (cd := []) (H := kx_hf) (tb := tv) (f1 := -1) (f2 := -1) (sbv := s1 13 6) (be := en) rfl (by simp only [List.length_nil]; omega) htv rfl rfl (fun z => absurd z (by decide)) (fun _ => rfl)
        rw [← x135] at hfin
        exact kc_end (op := 0) (tab := tv) (beg := nI en) (f1 := -1) (f2 := -1) hf (en := en) x114 (by omega) (by decide) ⟨kcs_f hf, ⟨Or.inr rfl, e2 _ _ _ _ sc rfl hfin⟩⟩
      · have hD0 : D = 0 := Classical.byContradiction fun z => absurd ((nI_eq (b := 0) (by omega) (by omega)).mp c) z
        rw [if_pos hD0] at e1 e2
        refine ⟨hK11 _ _, ⟨hK11 _ _, ⟨hK9 _ _, ⟨hK9 _ _, ?_⟩⟩⟩⟩
        rw [show ka_I (kcs h s1 w) (kq_p (kcs h s1 w) 11 0) 2 = nI (q + 1) from x92.trans (by rw [hd0 hD0])]
        exact kc_fail hf ⟨kcs_f hf, ⟨Or.inl rfl, e1 1 _ _ _ rfl rfl rfl⟩⟩
    · have c2 : bg = 12 := by
        rcases Nat.lt_or_ge bg 12 with z | z
        · exact absurd (nI_lt (b := 12) z (by omega)) c
        · omega
      rw [if_pos c2] at e1 e2
      refine ⟨hK11 _ _, ⟨hK9 _ _, ?_⟩⟩
      exact kc_fail hf ⟨kcs_f hf, ⟨Or.inl rfl, e1 3 _ _ _ rfl rfl rfl⟩⟩
  refine ⟨fun c => ?_, fun c => ?_⟩
  · have hD0 : D = 0 := by
      rcases Nat.eq_zero_or_pos D with z | z
      · exact z
      · exact absurd (nI_lt (a := 0) z (by omega)) c
    refine ⟨fun c => ?_, fun _ => ⟨fun _ => ?_, fun c => absurd (by decide) c⟩⟩
    · rw [hD0] at c
      exact absurd c (by decide)
    · exact j84 _ (q + 1) (by omega) (fun _ => rfl) (fun z => by omega)
  · have hDp : 0 < D := (nI_ltI (a := 0) (by omega) (by omega)).mp c
    obtain ⟨hq1, hdg⟩ := hpos (by omega)
    obtain ⟨ed, d1, d2⟩ := kt_dgn hdg
    refine ⟨hK11 _ _, ⟨hK9 _ _, ?_⟩⟩
    refine kc_takeNumber (s := ct_at s (q + 1)) hf hU (ka_uS _ _ _ _) (by omega) ⟨kcs_f hf, ?_⟩
    rw [hD]
    have hnn : D = 1 → nI (kt_nn tp (q + 1) D) = nI ((tp (q + 1)).toInt.toNat - 48) := fun z => by
      rw [z]
      show nI (min 16 (10 * 0 + ((tp (q + 1)).toInt.toNat - 48))) = _
      congr 1
      omega
    have h51 : 51 < tp (q + 1) ↔ 51 < (tp (q + 1)).toInt.toNat := by
      rw [Int32.lt_iff_toInt_lt]
      exact ⟨fun z => by have : (51 : Int) < (tp (q + 1)).toInt := z; omega, fun z => by show (51 : Int) < (tp (q + 1)).toInt; omega⟩
    refine ⟨fun c => ?_, fun c => ⟨fun c3 => ?_, fun c3 => ?_⟩⟩
    · have c1 : 1 < D := (nI_ltI (a := 1) (by omega) (by omega)).mp c
      rw [if_pos (Or.inl c1)] at e1
      exact ⟨hK11 _ _, ⟨hK9 _ _, kc_fail hf ⟨kcs_f hf, ⟨Or.inl rfl, e1 2 _ _ _ rfl rfl rfl⟩⟩⟩⟩
    · have hD1 : D = 1 := by
        rcases Nat.lt_or_ge 1 D with z | z
        · exact absurd (nI_lt (a := 1) z (by omega)) c
        · omega
      rw [hnn hD1] at c3 ⊢
      have c4 := (nI_ltI (b := 4) (by omega) (by omega)).mp c3
      rw [ct_at_at]
      exact j84 _ _ (fun z => by rcases z with z | z; omega; have := h51.mp z.2; omega) (fun z => by omega) (fun _ => ⟨by omega, rfl⟩)
    · have hD1 : D = 1 := by
        rcases Nat.lt_or_ge 1 D with z | z
        · exact absurd (nI_lt (a := 1) z (by omega)) c
        · omega
      rw [hnn hD1] at c3
      have c4 : ¬ ((tp (q + 1)).toInt.toNat - 48) < 4 := fun z => c3 (nI_lt (b := 4) z (by omega))
      rw [if_pos (Or.inr ⟨hD1, h51.mpr (by omega)⟩)] at e1
      exact ⟨hK11 _ _, ⟨hK9 _ _, kc_fail hf ⟨kcs_f hf, ⟨Or.inl rfl, e1 2 _ _ _ rfl rfl rfl⟩⟩⟩⟩
theorem kXC_op {D : Nat} {X1 : Nat → kX} {X2 : Nat → Nat → kX} {oc : Nat → kO} (hpn : p ≤ n) (hbe : en ≤ bg) (hb12 : bg ≤ 12) (hi : 1 ≤ i ∧ i ≤ 13) (hw : kt_is tp n (kt_s tp n p) (kt_wd i)) (hD : 49 ≤ D)
    (hX1 : ∀ p', p < p' → p' ≤ n → bg < 12 → kXC D n tp p' (bg + 1) en (X1 p') ∧ kXP n p' (bg + 1) en (X1 p'))
    (hX2 : ∀ p' k, p < p' → p' ≤ n → bg + 1 + k ≤ 12 → kXC D n tp p' (bg + 1 + k) (en + k) (X2 p' k) ∧ kXP n p' (bg + 1 + k) (en + k) (X2 p' k))
    (hoc : ∀ p', p < p' → p' ≤ n → kCd (CP 0 + 2) 2 n tp p' 0 0 0 0 31 (oc p') ∧ kPd n p' 16 (oc p')) : kXC (D + 3) n tp p bg en (if bg = 12 then .inl (3, kt_s tp n p) else kx_ops tp n i en X1 X2 oc (kt_s tp n p + (kt_wd i).length)) := by
  intro g h s w sc R hf hU hp h113 h114 hs hsc e1 e2
  have hle := kt_s_le tp n p hpn
  have h200 := hU.2.1
  have hK11 : ∀ s' w', (ka_K (kcs h s' w') 11).1 = 1 := fun s' w' => kK (kcs_f hf) rfl rfl
  have hK9 : ∀ s' w', (ka_K (kcs h s' w') 9).1 = 6 := fun s' w' => kK (kcs_f hf) rfl rfl
  have hid := kt_s_id (tp := tp) hpn
  obtain ⟨D', rfl⟩ : ∃ D', D = D' + 49 := ⟨D - 49, by omega⟩
  refine kd_in (kcs_f hf) rfl rfl rfl (kd_seg (fun p => Nat.beq p 113) 60 ⟨hK11 s w, ⟨hK9 s w, ?_⟩⟩)
  refine kc_skip hf hU hp hpn ⟨kcs_f hf, ⟨hK11 _ _, ?_⟩⟩
  generalize hq0 : kt_s tp n p = q at hw hle e1 e2 hid
  have hrl := kt_r_le kt_sm tp n q hle.2
  have hr1 : kt_r kt_sm tp n q = (kt_wd i).length := hw.1
  have hwl := kt_wd_l i (by omega)
  refine kc_readWord (s := ct_at s q) hf hU (ka_uS _ _ _ _) hle.2 hid (fun j hj hw' => ⟨kcs_f hf, ?_⟩) (fun hno => absurd hw (hno i (by omega)))
  have hi0 : j = i := (nI_eq (by omega) (by omega)).mp ((kt_kind_is hj hw').symm.trans (kt_kind_is (i := i) (by omega) hw))
  subst hi0
  rw [ct_at_at]
  generalize hq1 : q + (kt_wd j).length = q1 at e1 e2
  refine ⟨fun _ => ⟨⟨(show 1000000 + j < 1000014 by omega), by decide⟩, fun c => ⟨fun _ => ⟨fun c => absurd c (by decide), fun _ => ⟨fun _ => ⟨hK11 _ _, ?_⟩, fun c => absurd (by decide) c⟩⟩, fun c => absurd c (by decide)⟩, fun c => absurd c (show ¬ 1000000 + j = 1000000 by omega)⟩, fun c => absurd c (show ¬ 1000000 + j = 0 by omega)⟩
  rw [show ka_I (kcs h (ct_at s q1) w) 11 3 = nI bg from h113]
  refine ⟨fun c => ?_, fun c => ?_⟩
  · have c2 : ¬ bg = 12 := fun z => by rw [z] at c; exact absurd c (by decide)
    rw [if_neg c2] at e1 e2
    refine ⟨hK11 _ _, ⟨hK11 _ _, ?_⟩⟩
    rw [show ka_I (kcs h (ct_at s q1) w) 11 3 = nI bg from h113, show nI bg + Int32.ofInt 1 = nI (bg + 1) from (nI_succ bg).symm, kcs_sI (a := 11) (k := 3) _ rfl]
    generalize hs1 : ka_u (ct_at s q1) 11 3 (nI (bg + 1)) = s1
    have hz : ∀ c, c ≠ 9 → c ≠ 11 → s1 c = s c := fun c y1 y2 => by
      rw [← hs1]
      exact funext fun k => (ka_uN _ _ _ _ y2 k).trans (ka_uN _ _ _ _ y1 k)
    have hfr1 : kCfr en sc s w s1 w := ⟨fun k hk => ⟨rfl, hz _ (by omega) (by omega), hz _ (by omega) (by omega)⟩, fun j _ => by rw [hz 38 (by decide) (by decide)]⟩
    have y3 : s1 9 3 = s 9 3 := by rw [← hs1]; rfl
    have y4 : s1 9 4 = s 9 4 := by rw [← hs1]; rfl
    refine (kd_seg kp_no 40 ⟨⟨(show 1000000 + j < 1000014 by omega), by decide⟩, fun c => absurd c (show ¬ 1000000 + j = 1000000 by omega), fun _ => ⟨hK11 _ _, ?_⟩⟩ : kd_ex g (D' + 51) 20 R 113 [.ref 11, .int (nI q), .ref (1000000 + j), .int (nI 0), .int (-1)] [] (kcs h s1 w))
    exact kXC_ops (D := D' + 49) (X1 := X1) (X2 := X2) (oc := oc) hf hU (p := q1) (by rw [← hs1]; rfl) (by omega) (by rw [← hs1]; rfl) (by rw [← hs1]; exact h114) (by rw [← hs1]; exact hs) (by omega) hbe (by omega) hi (by omega) (fun p' z1 z2 => hX1 p' (by omega) z2 (by omega)) (fun p' k z1 z2 z3 => hX2 p' k (by omega) z2 z3) (fun p' z1 z2 => hoc p' (by omega) z2) (fun kd pl s' w' ho c3 c4 => ⟨kcs_f hf, ⟨Or.inl rfl, e1 kd pl s' w' ho c3 c4⟩⟩) (fun p' nds s' w' sc' ho hok => ⟨kcs_f hf, ⟨Or.inr rfl, e2 p' nds s' w' sc' ho ⟨hfr1.tr hok.1 (Nat.le_refl _) (Nat.le_refl _), hok.2.1, ⟨hok.2.2.1.1.trans y3, hok.2.2.1.2.trans y4⟩, hok.2.2.2⟩⟩⟩)
  · have c2 : bg = 12 := by
      rcases Nat.lt_or_ge bg 12 with z | z
      · exact absurd (nI_lt (b := 12) z (by omega)) c
      · omega
    rw [if_pos c2] at e1 e2
    refine ⟨hK11 _ _, ⟨hK9 _ _, ?_⟩⟩
    exact kc_fail hf ⟨kcs_f hf, ⟨Or.inl rfl, e1 3 _ _ _ rfl rfl rfl⟩⟩
end O9
