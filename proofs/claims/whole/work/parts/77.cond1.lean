/-! ===== the class reads: terms, relations, the lines of a comparison ===== -/
/-- reading a condition leaves the rest as it was: bases, parts, choices below these levels, what was read of operators -/
def ct_fr (b pp cc : Nat) (s s' : Nat → Nat → Int32) : Prop := (∀ a, a = 11 ∨ (39 ≤ a ∧ a ≤ 62) → s' a = s a) ∧ s' 13 6 = s 13 6 ∧ (∀ l, l < b → s' (23 + l) = s (23 + l)) ∧ (∀ l, l < pp → s' (15 + l) = s (15 + l)) ∧ ∀ l, l < cc → s' (31 + l) = s (31 + l)
def ct_ok (b pp cc : Nat) (s s' : Nat → Nat → Int32) (p' sc : Nat) (tk : List Nat) : Prop := ct_fr b pp cc s s' ∧ s' 9 2 = nI p' ∧ (s' 9 3 = s 9 3 ∧ s' 9 4 = s 9 4) ∧ s' 13 5 = nI (sc + tk.length) ∧ (∀ j, j < sc → s' 38 j = s 38 j) ∧ ∀ j, j < tk.length → s' 38 (sc + j) = nI (tk.getD j 0)
section CF
variable {b pp cc : Nat} {s s1 s2 : Nat → Nat → Int32}
theorem ct_fr.rfl' : ct_fr b pp cc s s := ⟨fun _ _ => rfl, rfl, fun _ _ => rfl, fun _ _ => rfl, fun _ _ => rfl⟩
theorem ct_fr.tr (h1 : ct_fr b pp cc s s1) (h2 : ct_fr b pp cc s1 s2) : ct_fr b pp cc s s2 := ⟨fun a x => (h2.1 a x).trans (h1.1 a x), h2.2.1.trans h1.2.1, fun l x => (h2.2.2.1 l x).trans (h1.2.2.1 l x), fun l x => (h2.2.2.2.1 l x).trans (h1.2.2.2.1 l x), fun l x => (h2.2.2.2.2 l x).trans (h1.2.2.2.2 l x)⟩
theorem ct_fr.le {b' pp' cc' : Nat} (h1 : ct_fr b pp cc s s1) (hb : b' ≤ b) (hp : pp' ≤ pp) (hc : cc' ≤ cc) : ct_fr b' pp' cc' s s1 := ⟨h1.1, h1.2.1, fun l x => h1.2.2.1 l (by omega), fun l x => h1.2.2.2.1 l (by omega), fun l x => h1.2.2.2.2 l (by omega)⟩
theorem ct_fr.u9 {k : Nat} (v : Int32) : ct_fr 7 7 7 s (ka_u s 9 k v) := ⟨fun a x => funext fun j => ka_uN _ _ _ _ (by omega) j, ka_uN _ _ _ _ (by decide) _, fun l x => funext fun j => ka_uN _ _ _ _ (by omega) j, fun l x => funext fun j => ka_uN _ _ _ _ (by omega) j, fun l x => funext fun j => ka_uN _ _ _ _ (by omega) j⟩
theorem ct_fr.u38 {k : Nat} (v : Int32) : ct_fr 7 7 7 s (ka_u s 38 k v) := ⟨fun a x => funext fun j => ka_uN _ _ _ _ (by omega) j, ka_uN _ _ _ _ (by decide) _, fun l x => funext fun j => ka_uN _ _ _ _ (by omega) j, fun l x => funext fun j => ka_uN _ _ _ _ (by omega) j, fun l x => funext fun j => ka_uN _ _ _ _ (by omega) j⟩
theorem ct_fr.u13 (v : Int32) : ct_fr 7 7 7 s (ka_u s 13 5 v) := ⟨fun a x => funext fun j => ka_uN _ _ _ _ (by omega) j, ka_uJ _ _ _ _ _ (by decide), fun l x => funext fun j => ka_uN _ _ _ _ (by omega) j, fun l x => funext fun j => ka_uN _ _ _ _ (by omega) j, fun l x => funext fun j => ka_uN _ _ _ _ (by omega) j⟩
theorem ct_ok.le {b' pp' cc' p' sc : Nat} {tk : List Nat} (h1 : ct_ok b pp cc s s1 p' sc tk) (hb : b' ≤ b) (hp : pp' ≤ pp) (hc : cc' ≤ cc) : ct_ok b' pp' cc' s s1 p' sc tk := ⟨h1.1.le hb hp hc, h1.2⟩
theorem ct_ok.tr {p1 p2 sc : Nat} {tk1 tk2 : List Nat} (h1 : ct_ok b pp cc s s1 p1 sc tk1) (h2 : ct_ok b pp cc s1 s2 p2 (sc + tk1.length) tk2) : ct_ok b pp cc s s2 p2 sc (tk1 ++ tk2) := by
  obtain ⟨a1, -, a3, a4, a5, a6⟩ := h1
  obtain ⟨b1, b2, b3, b4, b5, b6⟩ := h2
  refine ⟨a1.tr b1, b2, ⟨b3.1.trans a3.1, b3.2.trans a3.2⟩, by rw [b4, List.length_append, Nat.add_assoc], fun j hj => (b5 j (by omega)).trans (a5 j hj), fun j hj => ?_⟩
  rcases Nat.lt_or_ge j tk1.length with c | c
  · rw [b5 _ (by omega), a6 j c, kl_ga c]
  · rw [List.length_append] at hj
    have := b6 (j - tk1.length) (by omega)
    rw [show sc + tk1.length + (j - tk1.length) = sc + j by omega] at this
    rw [this, kl_gr c]
theorem ct_ok0 {p sc : Nat} (h1 : s 13 5 = nI sc) : ct_ok 7 7 7 s (ct_at s p) p sc [] := ⟨ct_fr.u9 _, ka_uS _ _ _ _, ⟨rfl, rfl⟩, h1, fun _ _ => rfl, fun j hj => absurd hj (Nat.not_lt_zero j)⟩
/-- one sign more -/
theorem ct_okt {p' sc : Nat} {tk : List Nat} (h1 : ct_ok b pp cc s s1 p' sc tk) (hb : b ≤ 7) (hp : pp ≤ 7) (hc : cc ≤ 7) (c : Nat) : ct_ok b pp cc s (ka_u (ka_u s1 38 (sc + tk.length) (nI c)) 13 5 (nI (sc + tk.length + 1))) p' sc (tk ++ [c]) := by
  obtain ⟨a1, a2, a3, a4, a5, a6⟩ := h1
  refine ⟨a1.tr (((ct_fr.u38 _).tr (ct_fr.u13 _)).le hb hp hc), a2, a3, by rw [ka_uS, List.length_append]; rfl, fun j hj => ?_, fun j hj => ?_⟩
  · rw [ka_uN _ _ _ _ (by decide), ka_uJ _ _ _ _ _ (by omega), a5 j hj]
  · rw [ka_uN _ _ _ _ (by decide)]
    rcases Nat.lt_or_ge j tk.length with z | z
    · rw [ka_uJ _ _ _ _ _ (by omega), a6 j z, kl_ga z]
    · rw [List.length_append] at hj
      have hj' : j = tk.length := by simp at hj; omega
      rw [hj', ka_uS, kl_gr (Nat.le_refl _), Nat.sub_self]
      rfl
theorem ct_oka {p' sc : Nat} {tk : List Nat} (h1 : ct_ok b pp cc s s1 p' sc tk) (hb : b ≤ 7) (hp : pp ≤ 7) (hc : cc ≤ 7) (q : Nat) : ct_ok b pp cc s (ct_at s1 q) q sc tk := by
  obtain ⟨a1, a2, a3, a4, a5, a6⟩ := h1
  exact ⟨a1.tr ((ct_fr.u9 _).le hb hp hc), ka_uS _ _ _ _, a3, a4, a5, a6⟩
end CF
/-- the sign of a relation at q: what it is -/
def kt_rel (tp : Nat → Int32) (n q : Nat) : Option Nat := if q < n then (if tp q = 60 then some 60 else if tp q = 62 then some 62 else if tp q = 61 then some 61 else none) else none
section C6
variable {g : Nat × (Nat → Int32)} {d : Nat} {h : ka_H} {s : Nat → Nat → Int32} {w : Nat → Nat} {R : ka_R → ka_H → Prop} {n p sc : Nat} {tp : Nat → Int32}
theorem kc_readTerm (hf : kf g h) (hU : kU h n tp) (hp : s 9 2 = nI p) (hpn : p ≤ n) (hs : s 13 5 = nI sc) (hsc : sc ≤ p)
    (e1 : ∀ k s', kt_tm tp n p = .inl k → ct_fr 7 7 7 s s' → s' 9 3 = nI k → s' 9 4 = nI (kt_s tp n p) → R (kp_ri (-1)) (kcs h s' w)) (e2 : ∀ p' c s', kt_tm tp n p = .inr (p', c) → ct_ok 7 7 7 s s' p' sc [c] → R (kp_ri (nI c)) (kcs h s' w)) : kp_T (d + 6) 8 [.ref 13] (kcs h s w) R := by
  have hle := kt_s_le tp n p hpn
  have h200 := hU.2.1
  have hid := kt_s_id (tp := tp) hpn
  have hlm : ∀ p' c, kt_tm tp n p = .inr (p', c) → sc < 200 := fun p' c z => by
    have := kt_tm_rg hpn z
    omega
  unfold kt_tm at e1 e2 hlm
  generalize hq : kt_s tp n p = q at e1 e2 hle hid hlm
  have add : ∀ p' c, sc < 200 → (∀ s', ct_ok 7 7 7 s s' p' sc [c] → R (kp_ri (nI c)) (kcs h s' w)) → kp_T (d + 5) 12 [.ref 13, .int (nI c)] (kcs h (ct_at s p') w) (fun r h' => kf g h' ∧ (∃ v, r = kp_ri v ∧ R (kp_ri v) h')) := fun p' c hsc hr =>
    kc_addSign hf (s := ct_at s p') hs hsc ⟨kcs_f hf, nI c, rfl, hr _ (ct_okt (ct_ok0 hs) (Nat.le_refl _) (Nat.le_refl _) (Nat.le_refl _) c)⟩
  refine kq_in (kcs_f hf) rfl rfl rfl (kq_seg kp_no 60 ?_)
  refine kc_skip hf hU hp hpn ?_
  rw [hq]
  refine ⟨kcs_f hf, ?_⟩
  refine kc_digits (s := ct_at s q) hf hU (ka_uS _ _ _ _) hle.2 ⟨kcs_f hf, ?_⟩
  have hrl := kt_r_le kt_dg tp n q hle.2
  have hpos : 0 < kt_r kt_dg tp n q ↔ (q < n ∧ kt_dg (tp q) = true) := by
    rcases Nat.lt_or_ge q n with z | z
    · rw [kt_r_0 z]; exact ⟨fun y => ⟨z, y⟩, fun y => y.2⟩
    · rw [kt_r_ge z]; exact ⟨fun y => by omega, fun y => by omega⟩
  refine ⟨fun c => ?_, fun c => ?_⟩
  · have hno : ¬ (q < n ∧ kt_dg (tp q) = true) := fun z => c (nI_lt (a := 0) (hpos.mpr z) (by omega))
    rw [if_neg hno] at e1 e2 hlm
    refine kc_takeWord (i := 17) (s := ct_at s q) hf hU (ka_uS _ _ _ _) hle.2 (by decide) (fun hw => ⟨kcs_f hf, ?_⟩) (fun hw => ⟨kcs_f hf, ?_⟩)
    · rw [hid] at hw ⊢
      rw [ct_at_at]
      have hw1 := kt_w1.mpr hw
      refine ⟨fun z => absurd z (by decide), fun _ => ?_⟩
      obtain ⟨r, h', hrun, hf', v, rfl, hR⟩ := add (q + 1) 16 (hlm _ _ (by rw [if_pos hw1])) (fun s' hs' => e2 _ _ s' (by rw [if_pos hw1]) hs')
      exact ⟨_, _, hrun, hf', trivial, hR⟩
    · rw [hid] at hw ⊢
      rw [ct_at_at]
      have hw1 : ¬ kt_w tp n q = 1 := fun z => hw (kt_w1.mp z)
      rw [if_neg hw1] at e1 e2 hlm
      refine ⟨fun _ => ?_, fun z => absurd rfl z⟩
      refine kc_takeWord (i := 18) (s := ct_at s q) hf hU (ka_uS _ _ _ _) hle.2 (by decide) (fun hw => ⟨kcs_f hf, ?_⟩) (fun hw => ⟨kcs_f hf, ?_⟩)
      · rw [hid] at hw ⊢
        rw [ct_at_at]
        have hw2 := kt_w2.mpr hw
        refine ⟨fun z => absurd z (by decide), fun _ => ?_⟩
        obtain ⟨r, h', hrun, hf', v, rfl, hR⟩ := add (q + 1) 17 (hlm _ _ (by rw [if_pos hw2])) (fun s' hs' => e2 _ _ s' (by rw [if_pos hw2]) hs')
        exact ⟨_, _, hrun, hf', trivial, hR⟩
      · rw [hid] at hw ⊢
        rw [ct_at_at]
        have hw2 : ¬ kt_w tp n q = 2 := fun z => hw (kt_w2.mp z)
        rw [if_neg hw2] at e1 e2 hlm
        refine ⟨fun _ => ?_, fun z => absurd rfl z⟩
        exact kc_failed hf ⟨kcs_f hf, ⟨trivial, e1 1 _ rfl ((ct_fr.u9 _).tr ((ct_fr.u9 _).tr (ct_fr.u9 _))) rfl rfl⟩⟩
  · have hyes : q < n ∧ kt_dg (tp q) = true := hpos.mp ((nI_ltI (a := 0) (by omega) (by omega)).mp c)
    rw [if_pos hyes] at e1 e2 hlm
    refine kc_takeNumber (s := ct_at s q) hf hU (ka_uS _ _ _ _) hle.2 ⟨kcs_f hf, ?_⟩
    rw [ct_at_at]
    have hnl := kt_nn_le tp q (kt_r kt_dg tp n q)
    refine ⟨fun c2 => ?_, fun c2 => ?_⟩
    · have h16 : ¬ kt_nn tp q (kt_r kt_dg tp n q) ≤ 15 := fun z => c2 (nI_lt (b := 16) (by omega) (by omega))
      rw [if_neg h16] at e1 e2 hlm
      exact kc_failed hf ⟨kcs_f hf, ⟨trivial, e1 2 _ rfl ((ct_fr.u9 _).tr ((ct_fr.u9 _).tr (ct_fr.u9 _))) rfl rfl⟩⟩
    · have h15 : kt_nn tp q (kt_r kt_dg tp n q) ≤ 15 := by
        have := (nI_ltI (b := 16) (by omega) (by omega)).mp c2
        omega
      rw [if_pos h15] at e1 e2 hlm
      obtain ⟨r, h', hrun, hf', v, rfl, hR⟩ := add (q + kt_r kt_dg tp n q) (kt_nn tp q (kt_r kt_dg tp n q)) (hlm _ _ rfl) (fun s' hs' => e2 _ _ s' rfl hs')
      exact ⟨_, _, hrun, hf', trivial, hR⟩
theorem kc_readRelation (hf : kf g h) (hU : kU h n tp) (hp : s 9 2 = nI p) (hpn : p ≤ n) (hs : s 13 5 = nI sc) (hsc : sc ≤ p)
    (e1 : ∀ s', kt_rel tp n (kt_s tp n p) = none → ct_fr 7 7 7 s s' → s' 9 3 = nI 1 → s' 9 4 = nI (kt_s tp n p) → R (kp_ri (-1)) (kcs h s' w)) (e2 : ∀ c s', kt_rel tp n (kt_s tp n p) = some c → ct_ok 7 7 7 s s' (kt_s tp n p + 1) sc [c] → R (kp_ri (nI c)) (kcs h s' w)) : kp_T (d + 3) 9 [.ref 13] (kcs h s w) R := by
  have hle := kt_s_le tp n p hpn
  have h200 := hU.2.1
  have hid := kt_s_id (tp := tp) hpn
  unfold kt_rel at e1 e2
  generalize hq : kt_s tp n p = q at e1 e2 hle hid
  have j36 : ∀ c : Nat, (¬ (q < n ∧ tp q = nI c) → ∀ s', ct_fr 7 7 7 s s' → s' 9 3 = nI 1 → s' 9 4 = nI q → R (kp_ri (-1)) (kcs h s' w)) → (q < n → tp q = nI c → ∀ s', ct_ok 7 7 7 s s' (q + 1) sc [c] → R (kp_ri (nI c)) (kcs h s' w)) → ∀ z, kq_ex g (d + 2) 9 R 36 [.ref 13, z] [.int (nI c)] (kcs h (ct_at s q) w) := by
    intro c f1 f2 z
    refine kq_seg kp_no 20 ?_
    refine kc_takeSign (s := ct_at s q) hf hU (ka_uS _ _ _ _) hle.2 (fun a1 a2 => ⟨kcs_f hf, ?_⟩) (fun a1 => ⟨kcs_f hf, ?_⟩)
    · rw [hid] at a1 a2 ⊢
      rw [ct_at_at]
      refine ⟨fun z => absurd z (by decide), fun _ => ?_⟩
      exact kc_addSign hf (s := ct_at s (q + 1)) hs (by omega) ⟨kcs_f hf, ⟨trivial, f2 a1 a2 _ (ct_okt (ct_ok0 hs) (Nat.le_refl _) (Nat.le_refl _) (Nat.le_refl _) c)⟩⟩
    · rw [hid] at a1 ⊢
      rw [ct_at_at]
      refine ⟨fun _ => ⟨trivial, f1 a1 _ ((ct_fr.u9 _).tr ((ct_fr.u9 _).tr (ct_fr.u9 _))) rfl rfl⟩, fun z => absurd rfl z⟩
  refine kq_in (kcs_f hf) rfl rfl rfl (kq_seg (fun p => Nat.beq p 36) 20 ?_)
  refine kc_isSign hf hU hp hpn (fun a1 => ⟨kcs_f hf, ?_⟩) (fun a1 => ⟨kcs_f hf, ?_⟩)
  · rw [hq] at a1 ⊢
    rw [if_pos a1.1, if_pos (show tp q = 60 from a1.2)] at e1 e2
    refine ⟨fun z => absurd z (by decide), fun _ => j36 60 (fun z => absurd a1 z) (fun _ _ s' hs' => e2 60 s' rfl hs') _⟩
  · rw [hq] at a1 ⊢
    refine ⟨fun _ => ?_, fun z => absurd rfl z⟩
    refine kc_isSign (s := ct_at s q) hf hU (ka_uS _ _ _ _) hle.2 (fun a2 => ⟨kcs_f hf, ?_⟩) (fun a2 => ⟨kcs_f hf, ?_⟩)
    · rw [hid] at a2 ⊢
      rw [ct_at_at]
      rw [if_pos a2.1, if_neg (show ¬ tp q = 60 from fun z => a1 ⟨a2.1, z⟩), if_pos (show tp q = 62 from a2.2)] at e1 e2
      refine ⟨fun z => absurd z (by decide), fun _ => j36 62 (fun z => absurd a2 z) (fun _ _ s' hs' => e2 62 s' rfl hs') _⟩
    · rw [hid] at a2 ⊢
      rw [ct_at_at]
      refine ⟨fun _ => j36 61 (fun z s' y1 y2 y3 => e1 s' ?_ y1 y2 y3) (fun y1 y2 s' hs' => e2 61 s' ?_ hs') _, fun z => absurd rfl z⟩
      · by_cases x : q < n
        · rw [if_pos x, if_neg (show ¬ tp q = 60 from fun y => a1 ⟨x, y⟩), if_neg (show ¬ tp q = 62 from fun y => a2 ⟨x, y⟩), if_neg (show ¬ tp q = 61 from fun y => z ⟨x, y⟩)]
        · rw [if_neg x]
      · rw [if_pos y1, if_neg (show ¬ tp q = 60 from fun y => a1 ⟨y1, y⟩), if_neg (show ¬ tp q = 62 from fun y => a2 ⟨y1, y⟩), if_pos (show tp q = 61 from y2)]
theorem kc_readSign (hf : kf g h) (hU : kU h n tp) (hp : s 9 2 = nI p) (hpn : p ≤ n) (hs : s 13 5 = nI sc) (hsc : sc ≤ p) {c : Nat}
    (e1 : ¬ (kt_s tp n p < n ∧ tp (kt_s tp n p) = nI c) → ∀ s', ct_fr 7 7 7 s s' → s' 9 3 = nI 1 → s' 9 4 = nI (kt_s tp n p) → R (kp_ri 0) (kcs h s' w)) (e2 : kt_s tp n p < n → tp (kt_s tp n p) = nI c → ∀ s', ct_ok 7 7 7 s s' (kt_s tp n p + 1) sc [c] → R (kp_ri 1) (kcs h s' w)) : kp_T (d + 3) 10 [.ref 13, .int (nI c)] (kcs h s w) R := by
  have h200 := hU.2.1
  refine kq_in (kcs_f hf) rfl rfl rfl (kq_seg kp_no 20 ?_)
  refine kc_takeSign hf hU hp hpn (fun a1 a2 => ⟨kcs_f hf, ?_⟩) (fun a1 => ⟨kcs_f hf, ?_⟩)
  · refine ⟨fun _ => ?_, fun z => absurd z (by decide)⟩
    exact kc_addSign hf (s := ct_at s (kt_s tp n p + 1)) hs (by have := kt_s_le tp n p hpn; omega) ⟨kcs_f hf, ⟨Or.inr rfl, e2 a1 a2 _ (ct_okt (ct_ok0 hs) (Nat.le_refl _) (Nat.le_refl _) (Nat.le_refl _) c)⟩⟩
  · exact ⟨fun z => absurd rfl z, fun _ => ⟨Or.inl rfl, e1 a1 _ ((ct_fr.u9 _).tr ((ct_fr.u9 _).tr (ct_fr.u9 _))) rfl rfl⟩⟩
/-- what a term is at (a, b) -/
def kt_tv (c a b : Nat) : Nat := if c = 16 then a else if c = 17 then b else c
def kt_cm (l r c a b : Nat) : Bool := if r = 60 then decide (kt_tv l a b < kt_tv c a b) else if r = 62 then decide (kt_tv c a b < kt_tv l a b) else decide (kt_tv l a b = kt_tv c a b)
theorem kc_valueOf (hf : kf g h) {c a b : Nat} (hc : c ≤ 17) : kp_T (d + 1) 14 [.int (nI c), .int (nI a), .int (nI b)] h (kp_is (.int (nI (kt_tv c a b))) h) := by
  unfold kt_tv
  refine kq_in hf rfl rfl rfl (kq_seg kp_no 14 ⟨fun c1 => ⟨fun c2 => ?_, fun c2 => ?_⟩, fun c1 => ?_⟩)
  · rw [if_neg (fun z => c1 (by rw [z]; rfl)), if_neg (fun z => c2 (by rw [z]; rfl))]; exact ⟨trivial, rfl, rfl⟩
  · rw [if_neg (fun z => c1 (by rw [z]; rfl)), if_pos ((nI_eq (b := 17) (by omega) (by omega)).mp c2)]; exact ⟨trivial, rfl, rfl⟩
  · rw [if_pos ((nI_eq (b := 16) (by omega) (by omega)).mp c1)]; exact ⟨trivial, rfl, rfl⟩
theorem kc_compare (hf : kf g h) {x y : Int32} : kp_T (d + 1) 274 [.int x, .int y] h (kp_is (.int (if x < y then -1 else if x = y then 0 else 1)) h) := by
  refine kq_in hf rfl rfl rfl (kq_seg kp_no 14 ⟨fun c1 => ⟨fun c2 => ?_, fun c2 => ?_⟩, fun c1 => ?_⟩)
  · rw [if_neg c1, if_neg c2]; exact ⟨trivial, rfl, rfl⟩
  · rw [if_neg c1, if_pos c2]; exact ⟨trivial, rfl, rfl⟩
  · rw [if_pos c1]; exact ⟨trivial, rfl, rfl⟩
theorem kc_lineOf (hf : kf g h) {l r c a : Nat} (hl : l ≤ 17) (hc : c ≤ 17) (hr : r = 60 ∨ r = 61 ∨ r = 62) (ha : a < 16) : kp_T (d + 2) 13 [.int (nI l), .int (nI r), .int (nI c), .int (nI a)] h (kp_is (.int (kb_s (kt_cm l r c a) 16)) h) := by
  have hv : ∀ c b, c ≤ 17 → b < 16 → kt_tv c a b < 100 := fun c b hc hb => by unfold kt_tv; split; omega; split <;> omega
  refine kq_in hf rfl rfl rfl (kq_seg (fun p => Nat.beq p 6) 6 ?_)
  refine kq_for (P := fun k => ∀ z6 z7, kq_ex g (d + 1) 13 (kp_is (.int (kb_s (kt_cm l r c a) 16)) h) 6 [.int (nI l), .int (nI r), .int (nI c), .int (nI a), .int (kb_s (kt_cm l r c a) k), .int (nI k), z6, z7] [] h) 16 ?_ (fun k hk ih z6 z7 => ?_) _ _
  · intro z6 z7
    exact kq_seg (fun p => Nat.beq p 6) 20 ⟨fun _ => ⟨trivial, rfl, rfl⟩, fun c => absurd c (nI_nlt (b := 16) (by omega) (by omega))⟩
  · rw [nI_succ] at ih
    have j80 : ∀ (v : Int32) (z6 z7 : Value), v = (if kt_cm l r c a k = true then 1 else 0) → kq_ex g (d + 1) 13 (kp_is (.int (kb_s (kt_cm l r c a) 16)) h) 80 [.int (nI l), .int (nI r), .int (nI c), .int (nI a), .int (kb_s (kt_cm l r c a) k), .int (nI k), z6, z7] [.int v] h := by
      intro v z6 z7 hv
      refine kq_seg (fun p => Nat.beq p 6) 20 ⟨fun c => ?_, fun c => ?_⟩
      · rw [kb_sE (k := k) (fun z => by rw [if_pos z] at hv; exact absurd (hv.symm.trans c) (by decide))] at ih
        exact ih _ _
      · rw [kb_sT (k := k) (Classical.byContradiction fun z => c (by rw [hv, if_neg z]))] at ih
        exact ih _ _
    have h1 := hv l k hl hk
    have h2 := hv c k hc hk
    refine kq_seg (fun p => Nat.beq p 80) 40 ⟨fun c => absurd (nI_lt (b := 16) hk (by omega)) c, fun _ => ?_⟩
    refine kq_ci (kc_valueOf hf hl) hf ?_
    refine kq_ci (kc_valueOf hf hc) hf ?_
    refine kp_opq (kc_compare hf) (fun o ho => ⟨hf, ?_⟩)
    have ho1 : o < 0 ↔ kt_tv l a k < kt_tv c a k := by
      rw [ho]
      rcases Nat.lt_or_ge (kt_tv l a k) (kt_tv c a k) with z | z
      · rw [if_pos (nI_lt z (by omega))]; exact ⟨fun _ => z, fun _ => by decide⟩
      · rw [if_neg (nI_nlt z (by omega))]
        refine ⟨fun y => ?_, fun y => by omega⟩
        split at y <;> exact absurd y (by decide)
    have ho2 : 0 < o ↔ kt_tv c a k < kt_tv l a k := by
      rw [ho]
      rcases Nat.lt_or_ge (kt_tv l a k) (kt_tv c a k) with z | z
      · rw [if_pos (nI_lt z (by omega))]; exact ⟨fun y => absurd y (by decide), fun y => by omega⟩
      · rw [if_neg (nI_nlt z (by omega))]
        by_cases e : kt_tv l a k = kt_tv c a k
        · rw [if_pos (by rw [e])]; exact ⟨fun y => absurd y (by decide), fun y => by omega⟩
        · rw [if_neg (fun y => e ((nI_eq (by omega) (by omega)).mp y))]; exact ⟨fun _ => by omega, fun _ => by decide⟩
    have ho0 : o = 0 ↔ kt_tv l a k = kt_tv c a k := by
      rw [ho]
      rcases Nat.lt_or_ge (kt_tv l a k) (kt_tv c a k) with z | z
      · rw [if_pos (nI_lt z (by omega))]; exact ⟨fun y => absurd y (by decide), fun y => by omega⟩
      · rw [if_neg (nI_nlt z (by omega))]
        by_cases e : kt_tv l a k = kt_tv c a k
        · rw [if_pos (by rw [e])]; exact ⟨fun _ => e, fun _ => rfl⟩
        · rw [if_neg (fun y => e ((nI_eq (by omega) (by omega)).mp y))]; exact ⟨fun y => absurd y (by decide), fun y => absurd y e⟩
    refine ⟨fun c1 => ?_, fun c1 => ?_⟩
    · have r1 : ¬ r = 60 := fun z => c1 (by rw [z]; rfl)
      refine ⟨fun c2 => ?_, fun c2 => ?_⟩
      · have r2 : ¬ r = 62 := fun z => c2 (by rw [z]; rfl)
        have hcm : kt_cm l r c a k = decide (kt_tv l a k = kt_tv c a k) := by unfold kt_cm; rw [if_neg r1, if_neg r2]
        refine ⟨fun c3 => j80 _ _ _ (by rw [hcm, decide_eq_false (fun z => c3 (ho0.mpr z))]; rfl), fun c3 => j80 _ _ _ (by rw [hcm, decide_eq_true (ho0.mp c3)]; rfl)⟩
      · have r2 : r = 62 := (nI_eq (b := 62) (by omega) (by omega)).mp c2
        have hcm : kt_cm l r c a k = decide (kt_tv c a k < kt_tv l a k) := by unfold kt_cm; rw [if_neg r1, if_pos r2]
        refine ⟨fun c3 => j80 _ _ _ (by rw [hcm, decide_eq_false (fun z => c3 (ho2.mpr z))]; rfl), fun c3 => j80 _ _ _ (by rw [hcm, decide_eq_true (ho2.mp c3)]; rfl)⟩
    · have r1 : r = 60 := (nI_eq (b := 60) (by omega) (by omega)).mp c1
      have hcm : kt_cm l r c a k = decide (kt_tv l a k < kt_tv c a k) := by unfold kt_cm; rw [if_pos r1]
      refine ⟨fun c3 => j80 _ _ _ (by rw [hcm, decide_eq_false (fun z => c3 (ho1.mpr z))]; rfl), fun c3 => j80 _ _ _ (by rw [hcm, decide_eq_true (ho1.mp c3)]; rfl)⟩
end C6
