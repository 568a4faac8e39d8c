/-! ===== the reference reads: a value of a condition ===== -/
def kt_nn (tp : Nat → Int32) (q : Nat) : Nat → Nat
  | 0 => 0
  | k + 1 => min 16 (10 * kt_nn tp q k + ((tp (q + k)).toInt.toNat - 48))
theorem kt_nn_le (tp : Nat → Int32) (q : Nat) : ∀ k, kt_nn tp q k ≤ 16
  | 0 => Nat.zero_le _
  | _ + 1 => Nat.min_le_left _ _
/-- a term from p on: the fault's kind (its place is where the term begins), or the place behind it and its sign -/
def kt_tm (tp : Nat → Int32) (n p : Nat) : Nat ⊕ (Nat × Nat) :=
  if kt_s tp n p < n ∧ kt_dg (tp (kt_s tp n p)) = true then (if kt_nn tp (kt_s tp n p) (kt_r kt_dg tp n (kt_s tp n p)) ≤ 15 then .inr (kt_s tp n p + kt_r kt_dg tp n (kt_s tp n p), kt_nn tp (kt_s tp n p) (kt_r kt_dg tp n (kt_s tp n p))) else .inl 2)
  else if kt_w tp n (kt_s tp n p) = 1 then .inr (kt_s tp n p + 1, 16) else if kt_w tp n (kt_s tp n p) = 2 then .inr (kt_s tp n p + 1, 17) else .inl 1
theorem kt_w1 {tp : Nat → Int32} {n p : Nat} : kt_w tp n p = 1 ↔ kt_is tp n p [97] := kt_w_is [97] 1 (by decide) (by decide) (by decide) (by decide)
theorem kt_w2 {tp : Nat → Int32} {n p : Nat} : kt_w tp n p = 2 ↔ kt_is tp n p [98] := kt_w_is [98] 2 (by decide) (by decide) (by decide) (by decide)
theorem kt_dg_b {c : Int32} (h : kt_dg c = true) : 48 ≤ c.toInt ∧ c.toInt ≤ 57 := by
  unfold kt_dg at h
  have := of_decide_eq_true h
  rw [Int32.le_iff_toInt_le, Int32.le_iff_toInt_le] at this
  exact this
theorem kt_dgn {c : Int32} (h : kt_dg c = true) : c = nI c.toInt.toNat ∧ 48 ≤ c.toInt.toNat ∧ c.toInt.toNat ≤ 57 := by
  have := kt_dg_b h
  exact ⟨Int32.toInt_inj.mp (by rw [nI_toInt (by omega)]; omega), by omega, by omega⟩
theorem kt_tm_rg {tp : Nat → Int32} {n p p' c : Nat} (hp : p ≤ n) (h : kt_tm tp n p = .inr (p', c)) : kt_s tp n p < p' ∧ p' ≤ n ∧ c ≤ 17 := by
  have hle := kt_s_le tp n p hp
  unfold kt_tm at h
  split at h
  · rename_i hd
    split at h
    · injection h with h
      injection h with h1 h2
      have h3 := (kt_r_0 (q := kt_dg) hd.1).mpr hd.2
      have h4 := kt_r_le kt_dg tp n _ hle.2
      omega
    · cases h
  · split at h
    · rename_i hw
      injection h with h
      injection h with h1 h2
      have := (kt_w1.mp hw).1
      have h4 := kt_r_le kt_sm tp n _ hle.2
      have : kt_r kt_sm tp n (kt_s tp n p) = 1 := this
      omega
    · split at h
      · rename_i hw
        injection h with h
        injection h with h1 h2
        have : kt_r kt_sm tp n (kt_s tp n p) = 1 := (kt_w2.mp hw).1
        have h4 := kt_r_le kt_sm tp n _ hle.2
        omega
      · cases h
section L3
variable {g : Nat × (Nat → Int32)} {d : Nat} {h : ka_H} {s : Nat → Nat → Int32} {R : ka_R → ka_H → Prop} {n p nt nc lv : Nat} {tp : Nat → Int32}
theorem kt_ok1 {s1 : Nat → Nat → Int32} {p' : Nat} (hfr : kt_fr s s1) (h23 : s1 72 23 = nI p') (h24 : s1 72 24 = -1) (h26 : s1 72 26 = s 72 26) (h30 : s1 72 30 = nI nt) (h31 : s1 72 31 = nI nc) (h90 : ∀ j, s1 90 j = s 90 j) (h91 : ∀ j, s1 91 j = s 91 j) : kt_ok s s1 p' nt nc [] [] :=
  ⟨hfr, h23, h24, h26, ⟨h30, fun j _ => h90 j, fun j hj => absurd hj (Nat.not_lt_zero j)⟩, h31, fun j _ => h91 j, fun j hj => absurd hj (Nat.not_lt_zero j)⟩
theorem kt_okt {s1 : Nat → Nat → Int32} {p' : Nat} {tk : List Nat} {cd : List Int32} (h : kt_ok s s1 p' nt nc tk cd) (c : Nat) : kt_ok s (ka_u (ka_u s1 90 (nt + tk.length) (tM c)) 72 30 (nI (nt + tk.length + 1))) p' nt nc (tk ++ [c]) cd := by
  obtain ⟨a1, a2, a3, a4, ⟨a5, a6, a7⟩, a8, a9, a10⟩ := h
  refine ⟨a1.tr ((kt_fr.u90 _ _).tr (kt_fr.u (by decide) _)), a2, a3, a4, ⟨by rw [ka_uS, List.length_append]; rfl, fun j hj => ?_, fun j hj => ?_⟩, a8, a9, a10⟩
  · rw [ka_uN _ _ _ _ (by decide), ka_uJ _ _ _ _ _ (by omega), a6 j hj]
  · rw [ka_uN _ _ _ _ (by decide)]
    rcases Nat.lt_or_ge j tk.length with z | z
    · rw [ka_uJ _ _ _ _ _ (by omega), a7 j z, kl_ga z]
    · rw [List.length_append] at hj
      have hj' : j = tk.length := by simp at hj; omega
      rw [hj', ka_uS, kl_gr (Nat.le_refl _), Nat.sub_self]
      rfl
theorem kt_okc {s1 : Nat → Nat → Int32} {p' : Nat} {tk : List Nat} {cd : List Int32} (h : kt_ok s s1 p' nt nc tk cd) (c : Int32) : kt_ok s (ka_u (ka_u s1 91 (nc + cd.length) c) 72 31 (nI (nc + cd.length + 1))) p' nt nc tk (cd ++ [c]) := by
  obtain ⟨a1, a2, a3, a4, ⟨a5, a6, a7⟩, a8, a9, a10⟩ := h
  refine ⟨a1.tr ((kt_fr.u91 _ _).tr (kt_fr.u (by decide) _)), a2, a3, a4, ⟨a5, a6, a7⟩, by rw [ka_uS, List.length_append]; rfl, fun j hj => ?_, fun j hj => ?_⟩
  · rw [ka_uN _ _ _ _ (by decide), ka_uJ _ _ _ _ _ (by omega), a9 j hj]
  · rw [ka_uN _ _ _ _ (by decide)]
    rcases Nat.lt_or_ge j cd.length with z | z
    · rw [ka_uJ _ _ _ _ _ (by omega), a10 j z, kl_ga z]
    · rw [List.length_append] at hj
      have hj' : j = cd.length := by simp at hj; omega
      rw [hj', ka_uS, kl_gr (Nat.le_refl _), Nat.sub_self]
      rfl
theorem kt_oka {s1 : Nat → Nat → Int32} {p' : Nat} {tk : List Nat} {cd : List Int32} (h : kt_ok s s1 p' nt nc tk cd) (q : Nat) : kt_ok s (kt_at s1 q) q nt nc tk cd := by
  obtain ⟨a1, a2, a3, a4, ⟨a5, a6, a7⟩, a8, a9, a10⟩ := h
  exact ⟨a1.tr (kt_fr.u (by decide) _), ka_uS _ _ _ _, a3, a4, ⟨a5, a6, a7⟩, a8, a9, a10⟩
/-- token and emit, all being well -/
theorem kc_te (hf : kf g h) {s1 : Nat → Nat → Int32} {p' : Nat} (hs : kt_ok s s1 p' nt nc [] []) (ht : nt < 200) (hc : nc < 200) {m z4 : Value} {c : Nat} {z1 z2 : Value} (e : ∀ s', kt_ok s s' p' nt nc [c] [tM c] → R (.inl none) (kms h s')) : kq_ex g (d + 2) 182 R 162 [.ref 72, z1, z2, .int (tM c), z4] [] (kms h s1) := by
  refine kq_seg kp_no 10 ?_
  refine kq_cv (kc_token1 hf hs.2.2.1 (nt := nt) hs.2.2.2.2.1.1 ht) (kms_f hf) ?_
  refine kq_cv (kc_emit1 hf (s := ka_u (ka_u s1 90 nt (tM c)) 72 30 (nI (nt + 1))) hs.2.2.1 (nc := nc) hs.2.2.2.2.2.1 hc) (kms_f hf) ?_
  exact e _ (kt_okc (kt_okt hs c) (tM c))
theorem kc_te0 (hf : kf g h) {s1 : Nat → Nat → Int32} (hb : ¬ s1 72 24 = -1) {z1 z2 z4 : Value} {v : Int32} (e : R (.inl none) (kms h s1)) : kq_ex g (d + 2) 182 R 162 [.ref 72, z1, z2, .int v, z4] [] (kms h s1) := by
  refine kq_seg kp_no 10 ?_
  refine kq_cv (kc_token0 hf hb) (kms_f hf) ?_
  exact kq_cv (kc_emit0 hf hb) (kms_f hf) e
theorem kc_value (hf : kf g h) (hT : kT h n tp) (hp : s 72 23 = nI p) (hpn : p ≤ n) (hb : s 72 24 = -1) (h30 : s 72 30 = nI nt) (h31 : s 72 31 = nI nc) (ht : nt ≤ p) (hc : nc ≤ p)
    (e1 : ∀ k s', kt_tm tp n p = .inl k → kt_fr s s' → s' 72 24 = nI (kt_s tp n p) → s' 72 25 = nI k → R (.inl none) (kms h s')) (e2 : ∀ p' c s', kt_tm tp n p = .inr (p', c) → kt_ok s s' p' nt nc [c] [tM c] → R (.inl none) (kms h s')) : kp_T (d + 4) 182 [.ref 72] (kms h s) R := by
  have hle := kt_s_le tp n p hpn
  have h200 := hT.2.1
  have htp := hT.2.2.1
  have hn := hT.1
  have hlm : ∀ p' c, kt_tm tp n p = .inr (p', c) → nt < 200 ∧ nc < 200 := fun p' c z => by
    have := kt_tm_rg hpn z
    omega
  unfold kt_tm at e1 e2 hlm
  generalize hq : kt_s tp n p = q at e1 e2 hle hlm
  have ok0 : ∀ q', kt_ok s (kt_at s q') q' nt nc [] [] := fun q' => kt_ok1 (kt_fr.u (by decide) _) (ka_uS _ _ _ _) hb rfl h30 h31 (fun _ => rfl) (fun _ => rfl)
  refine kq_in (kms_f hf) rfl rfl rfl (kq_seg (fun p => Nat.beq p 27 || Nat.beq p 162 || Nat.beq p 137) 60 ?_)
  refine kq_ci (kc_fine1 hf hb) (kms_f hf) ⟨fun _ => ?_, fun c => absurd c (by decide)⟩
  refine kc_here hf hT hp hpn ⟨kms_f hf, ?_⟩
  rw [hq]
  refine kq_ci (kc_isDigit (kms_f hf)) (kms_f hf) ?_
  by_cases cd : q < n ∧ kt_dg (tp q) = true
  · rw [if_pos cd.1, if_pos cd.2]
    rw [if_pos cd] at e1 e2 hlm
    refine ⟨fun c => absurd c (by decide), fun _ => ?_⟩
    have j95 : ∀ (L : Nat) (v : Int32) (z : Value), q + L ≤ n → (kt_nn tp q L ≤ 15 ∧ v = nI (kt_nn tp q L)) ∨ (kt_nn tp q L = 16 ∧ 15 < v) → L = kt_r kt_dg tp n q → kq_ex g (d + 3) 182 R 95 [.ref 72, .int (tp q), .int (nI q), .int v, z] [] (kms h (kt_at s (q + L))) := by
      intro L v z hL hv hr
      rw [← hr] at e1 e2 hlm
      refine kq_seg (fun p => Nat.beq p 162) 20 ⟨fun c => ?_, fun c => ?_⟩
      · rcases hv with ⟨h15, rfl⟩ | ⟨_, h15⟩
        · have e2' := fun s' hs' => e2 (q + L) (kt_nn tp q L) s' (by rw [if_pos h15]) hs'
          have := kc_te (d := d + 1) (R := R) (c := kt_nn tp q L) (z1 := .int (tp q)) (z2 := .int (nI q)) (z4 := z) (m := z) hf (ok0 (q + L)) (hlm _ _ (by rw [if_pos h15])).1 (hlm _ _ (by rw [if_pos h15])).2 e2'
          rw [show tM (kt_nn tp q L) = nI (kt_nn tp q L) from if_pos (by omega)] at this
          exact this
        · exact absurd h15 c
      · rcases hv with ⟨h15, rfl⟩ | ⟨h16, _⟩
        · exact absurd c (nI_nlt (a := 15) (b := kt_nn tp q L) h15 (by omega))
        · refine kq_cv (kc_wrong hf (s := kt_at s (q + L)) hb) (kms_f hf) ?_
          refine kc_te0 (d := d + 1) hf (s1 := kt_bad (kt_at s (q + L)) 2 (nI q)) (nI_ne_m1 (by omega)) ?_
          exact e1 2 _ (by rw [if_neg (by omega)]) ((kt_fr.u (by decide) _).tr ((kt_fr.u (by decide) _).tr (kt_fr.u (by decide) _))) rfl rfl
    have main : ∀ k L v, q + L = k → k ≤ n → ((kt_nn tp q L ≤ 15 ∧ v = nI (kt_nn tp q L)) ∨ (kt_nn tp q L = 16 ∧ 15 < v)) → L + kt_r kt_dg tp n k = kt_r kt_dg tp n q → ∀ z, kq_ex g (d + 3) 182 R 27 [.ref 72, .int (tp q), .int (nI q), .int v, z] [] (kms h (kt_at s k)) := by
      refine kt_r_ind (q := kt_dg) (tp := tp) (n := n) (fun k hk L v hL hkn hv hr z => ?_) (fun k hk ne L v hL hkn hv hr z => ?_) (fun k hk eq ih L v hL hkn hv hr z => ?_)
      · rw [kt_r_ge hk, Nat.add_zero] at hr
        refine kq_seg (fun p => Nat.beq p 95) 20 ⟨fun _ => by rw [← hL]; exact j95 L v z (by omega) hv hr, fun c => ?_⟩
        rw [show ka_I (kms h (kt_at s k)) 72 22 = nI n from hn, show ka_I (kms h (kt_at s k)) 72 23 = nI k from rfl] at c
        exact absurd c (nI_nlt hk (by omega))
      · rw [kt_r_no ne, Nat.add_zero] at hr
        refine kq_seg (fun p => Nat.beq p 95) 20 ⟨fun _ => by rw [← hL]; exact j95 L v z (by omega) hv hr, fun c => ⟨nI_in (N := 200) (by omega) (by omega), ?_⟩⟩
        rw [show ka_I (kms h (kt_at s k)) 72 23 = nI k from rfl, nI_clamp (by omega), show ka_I (kms h (kt_at s k)) (kq_p (kms h (kt_at s k)) 72 29) k = tp k from htp k hk]
        refine kq_ci (kc_isDigit (kms_f hf)) (kms_f hf) ?_
        rw [if_neg ne]
        exact ⟨fun _ => by rw [← hL]; exact j95 L v z (by omega) hv hr, fun c => absurd rfl c⟩
      · rw [kt_r_st hk eq, ← Nat.add_assoc, Nat.add_right_comm] at hr
        obtain ⟨ed, d1, d2⟩ := kt_dgn eq
        refine kq_seg (fun p => Nat.beq p 27) 60 ⟨fun c => ?_, fun c => ⟨nI_in (N := 200) (by omega) (by omega), ?_⟩⟩
        · rw [show ka_I (kms h (kt_at s k)) 72 22 = nI n from hn, show ka_I (kms h (kt_at s k)) 72 23 = nI k from rfl] at c
          exact absurd (nI_lt hk (by omega)) c
        · rw [show ka_I (kms h (kt_at s k)) 72 23 = nI k from rfl, nI_clamp (by omega), show ka_I (kms h (kt_at s k)) (kq_p (kms h (kt_at s k)) 72 29) k = tp k from htp k hk]
          refine kq_ci (kc_isDigit (kms_f hf)) (kms_f hf) ?_
          rw [if_pos eq]
          have hnn : kt_nn tp q (L + 1) = min 16 (10 * kt_nn tp q L + ((tp k).toInt.toNat - 48)) := by rw [← hL]; rfl
          refine ⟨fun c => absurd c (by decide), fun _ => ⟨fun c15 => ⟨nI_in (N := 200) (by omega) (by omega), ?_⟩, fun c15 => ?_⟩⟩
          · obtain ⟨h15, rfl⟩ : kt_nn tp q L ≤ 15 ∧ v = nI (kt_nn tp q L) := by
              rcases hv with z | z
              · exact z
              · exact absurd z.2 c15
            rw [show ka_I (kms h (kt_at s k)) 72 23 = nI k from rfl, nI_clamp (by omega), show ka_I (kms h (kt_at s k)) (kq_p (kms h (kt_at s k)) 72 29) k = tp k from htp k hk]
            have hval : Int32.ofInt 10 * nI (kt_nn tp q L) + tp k - Int32.ofInt 48 = nI (10 * kt_nn tp q L + ((tp k).toInt.toNat - 48)) := by
              rw [ed, show Int32.ofInt 10 = nI 10 from rfl, show Int32.ofInt 48 = nI 48 from rfl, nI_mul, nI_add, nI_sub (by omega)]
              congr 1
              rw [nI_toInt (by omega)]
              omega
            have := ih (L + 1) (nI (10 * kt_nn tp q L + ((tp k).toInt.toNat - 48))) (by omega) (by omega) (by
              rw [hnn]
              rcases Nat.lt_or_ge 15 (10 * kt_nn tp q L + ((tp k).toInt.toNat - 48)) with y | y
              · exact Or.inr ⟨by omega, nI_lt (a := 15) y (by omega)⟩
              · exact Or.inl ⟨by omega, by rw [Nat.min_eq_right (by omega)]⟩) hr z
            rw [← kms_nx, ← hval] at this
            exact this
          · have h16 : kt_nn tp q L = 16 := by
              rcases hv with ⟨z1, rfl⟩ | z
              · exact absurd c15 (nI_nlt (a := 15) (b := kt_nn tp q L) z1 (by omega))
              · exact z.1
            have := ih (L + 1) 16 (by omega) (by omega) (Or.inr ⟨by rw [hnn, h16]; omega, by decide⟩) hr z
            rw [← kms_nx] at this
            exact this
    exact main q 0 0 (by omega) (by omega) (Or.inl ⟨Nat.zero_le _, rfl⟩) (by omega) _
  · rw [if_neg (show ¬ kt_dg (if q < n then tp q else 0) = true by
      by_cases z : q < n
      · rw [if_pos z]; exact fun y => cd ⟨z, y⟩
      · rw [if_neg z]; decide)]
    rw [if_neg cd] at e1 e2 hlm
    refine ⟨fun _ => ?_, fun c => absurd rfl c⟩
    refine kc_word (s := kt_at s q) hf hT (ka_uS _ _ _ _) hle.2 (fun w hw => ⟨kms_f hf, ?_⟩)
    rw [show kt_s tp n q = q by rw [← hq]; exact kt_s_id hpn] at hw ⊢
    rw [kt_at_at]
    rw [← hw] at e1 e2 hlm
    have j137 : ∀ v : Nat, v = 16 ∨ v = 17 → (w = 1 ↔ v = 16) → kt_is tp n q [v + 81] → (nt < 200 ∧ nc < 200) → (∀ s', kt_ok s s' (q + 1) nt nc [v] [tM v] → R (.inl none) (kms h s')) → kq_ex g (d + 3) 182 R 137 [.ref 72, .int (if q < n then tp q else 0), .int (nI q), .int 0, .int w] [] (kms h (kt_at s q)) := by
      intro v hv hw1 his hl2 e2
      refine kq_seg (fun p => Nat.beq p 162) 20 ?_
      refine kq_ci (kc_fine1 hf (s := kt_at s q) hb) (kms_f hf) ⟨fun c => absurd c (by decide), fun _ => ?_⟩
      refine kc_pass (s := kt_at s q) hf hT (ka_uS _ _ _ _) hle.2 ⟨kms_f hf, ?_⟩
      rw [kt_at_at, show kt_r kt_sm tp n q = 1 from his.1]
      have hte := kc_te (d := d + 1) (R := R) (c := v) (z1 := .int (if q < n then tp q else 0)) (z2 := .int (nI q)) (z4 := .int w) (m := .int w) hf (ok0 (q + 1)) hl2.1 hl2.2 e2
      refine ⟨fun c => ?_, fun c => ?_⟩
      · have hv17 : v = 17 := hv.resolve_left (fun z => c (hw1.mpr z))
        rw [hv17] at hte
        exact hte
      · have hv16 : v = 16 := hw1.mp c
        rw [hv16] at hte
        exact hte
    refine ⟨fun (c1 : w = 1) => ?_, fun (c1 : ¬ w = 1) => ⟨fun (c2 : w = 2) => ?_, fun (c2 : ¬ w = 2) => ?_⟩⟩
    · exact j137 16 (Or.inl rfl) ⟨fun _ => rfl, fun _ => c1⟩ (kt_w1.mp (hw.symm.trans c1)) (hlm _ _ (by rw [if_pos c1])) (fun s' hs' => e2 _ _ s' (by rw [if_pos c1]) hs')
    · exact j137 17 (Or.inr rfl) ⟨fun z => absurd z c1, fun z => absurd z (by decide)⟩ (kt_w2.mp (hw.symm.trans c2)) (hlm _ _ (by rw [if_neg c1, if_pos c2])) (fun s' hs' => e2 _ _ s' (by rw [if_neg c1, if_pos c2]) hs')
    · refine kq_cv (kc_wrong hf (s := kt_at s q) hb) (kms_f hf) ?_
      refine (kq_seg (fun p => Nat.beq p 162) 20 ?_ : kq_ex g (d + 3) 182 R 137 [.ref 72, .int (if q < n then tp q else 0), .int (nI q), .int 0, .int w] [] (kms h (kt_bad (kt_at s q) 1 (nI q))))
      refine kq_ci (kc_fine0 hf (s := kt_bad (kt_at s q) 1 (nI q)) (nI_ne_m1 (by omega))) (kms_f hf) ⟨fun _ => ?_, fun c => absurd rfl c⟩
      have hfin : ∀ v : Int32, kq_ex g (d + 3) 182 R 162 [.ref 72, .int (if q < n then tp q else 0), .int (nI q), .int v, .int w] [] (kms h (kt_bad (kt_at s q) 1 (nI q))) := fun v => kc_te0 (d := d + 1) hf (s1 := kt_bad (kt_at s q) 1 (nI q)) (nI_ne_m1 (by omega)) (e1 1 _ (by rw [if_neg c1, if_neg c2]) ((kt_fr.u (by decide) _).tr ((kt_fr.u (by decide) _).tr (kt_fr.u (by decide) _))) rfl rfl)
      exact ⟨fun _ => hfin _, fun c => absurd c c1⟩
end L3
