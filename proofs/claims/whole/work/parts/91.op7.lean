/-! ===== operators: the class's words, an operator's end ===== -/
section O7
variable {g : Nat × (Nat → Int32)} {d : Nat} {h : ka_H} {s : Nat → Nat → Int32} {w : Nat → Nat} {R : ka_R → ka_H → Prop} {n p bg en sc i : Nat} {tp : Nat → Int32}
theorem ko_all (hf : kf g h) (hi : i < 14) : ka_K h 1000090 = (38, 14) ∧ ka_P h 1000090 i = 1000000 + i ∧ ka_P h (1000000 + i) 1 = 1000020 + i := by
  have h1 := hf.2.2.2 90
  have h2 := hf.2.2.2 i
  refine ⟨h1.1, ?_, ?_⟩
  · rw [show (1000090 : Nat) = 1000000 + 90 from rfl, (h1.2 i).2]
    rfl
  · rw [(h2.2 1).2]
    unfold ka_sRf
    rw [if_pos hi, if_pos rfl]
theorem kc_readWord (hf : kf g h) (hU : kU h n tp) (hp : s 9 2 = nI p) (hpn : p ≤ n) (hid : kt_s tp n p = p) (e1 : ∀ i, i < 14 → kt_is tp n p (kt_wd i) → R (.inl (some (.ref (1000000 + i)))) (kcs h (ct_at s (p + (kt_wd i).length)) w)) (e2 : (∀ i, i < 14 → ¬ kt_is tp n p (kt_wd i)) → R (.inl (some (.ref 0))) (kcs h s w)) : kp_T (d + 6) 21 [.ref 11] (kcs h s w) R := by
  have hfs : kf g (kcs h s w) := kcs_f hf
  have hall := fun i (hi : i < 14) => ko_all hfs hi
  have hK : (ka_K (kcs h s w) 1000090).1 = 38 := by rw [(hall 0 (by decide)).1]
  have hZ : (ka_K (kcs h s w) 1000090).2 = 14 := by rw [(hall 0 (by decide)).1]
  have main : ∀ j k, k + j = 14 → (∀ i, i < k → ¬ kt_is tp n p (kt_wd i)) → kd_ex g (d + 5) 21 R 2 [.ref 11, .int (nI k)] [] (kcs h s w) := by
    intro j
    induction j with
    | zero =>
      intro k hk hno
      refine kd_seg (fun p => Nat.beq p 2) 20 ⟨by rw [hK]; decide, ?_⟩
      rw [hZ]
      exact ⟨fun _ => e2 (fun i hi => hno i (by omega)), fun c => absurd c (nI_nlt (b := 14) (by omega) (by omega))⟩
    | succ j ih =>
      intro k hk hno
      have hk14 : k < 14 := by omega
      refine kd_seg (fun p => Nat.beq p 2) 30 ⟨by rw [hK]; decide, ?_⟩
      rw [hZ]
      refine ⟨fun c => absurd (nI_lt (b := 14) hk14 (by omega)) c, fun _ => ⟨kK hfs rfl rfl, ⟨⟨by rw [hK]; decide, by rw [hK]; decide, by rw [hZ]; exact nI_in (N := 14) hk14 (by omega)⟩, ?_⟩⟩⟩
      rw [nI_clamp (by omega), (hall k hk14).2.1]
      refine ⟨by rw [(ko_op hfs hk14).1], ?_⟩
      rw [show kq_p (kcs h s w) (1000000 + k) 1 = 1000020 + k from (kq_p_s hfs _ _).trans (hall k hk14).2.2]
      refine ⟨kK hfs (a := 9) rfl rfl, ?_⟩
      refine kc_takeWord (i := k) hf hU hp hpn (by omega) (fun hw => ⟨kcs_f hf, ?_⟩) (fun hw => ⟨kcs_f hf, ?_⟩)
      · rw [hid] at hw ⊢
        refine ⟨fun c => absurd c (by decide), fun _ => ⟨⟨by rw [show (ka_K (kcs h (ct_at s (p + (kt_wd k).length)) w) 1000090).1 = 38 from hK]; decide, by rw [show (ka_K (kcs h (ct_at s (p + (kt_wd k).length)) w) 1000090).1 = 38 from hK]; decide, by rw [show (ka_K (kcs h (ct_at s (p + (kt_wd k).length)) w) 1000090).2 = 14 from hZ]; exact nI_in (N := 14) hk14 (by omega)⟩, ?_⟩⟩
        rw [nI_clamp (by omega), show ka_P (kcs h (ct_at s (p + (kt_wd k).length)) w) 1000090 k = 1000000 + k from (hall k hk14).2.1]
        exact e1 k hk14 hw
      · rw [hid] at hw ⊢
        rw [kcs_at hp]
        refine ⟨fun _ => ?_, fun c => absurd rfl c⟩
        have := ih (k + 1) (by omega) (fun i hi => by
          rcases Nat.lt_or_ge i k with z | z
          · exact hno i z
          · rw [show i = k by omega]; exact hw)
        rw [nI_succ] at this
        exact this
  exact kd_in hfs rfl rfl rfl (kd_seg (fun p => Nat.beq p 2) 4 (main 14 0 (by omega) (fun i hi => absurd hi (Nat.not_lt_zero i))))
theorem kCok.ct {s2 s3 : Nat → Nat → Int32} {w2 : Nat → Nat} {p2 p4 sc2 b pp cc : Nat} {nds : List kN} {tk : List Nat} (h1 : kCok en sc s w s2 w2 p2 bg nds sc2) (h2 : ct_ok b pp cc s2 s3 p4 sc2 tk) (hp : sc2 + tk.length ≤ p4) (hbn : en + nds.length ≤ 12) : kCok en sc s w s3 w2 p4 bg nds (sc2 + tk.length) := by
  obtain ⟨a1, a2, a3, a4, a5, a6, a7, a8⟩ := h1
  obtain ⟨b1, b2, b3, b4, b5, b6⟩ := h2
  have hfr : kCfr (en + nds.length) sc2 s2 w2 s3 w2 := ⟨fun k hk => ⟨rfl, b1.1 _ (by omega), b1.1 _ (by omega)⟩, b5⟩
  refine ⟨a1.tr hfr (by omega) a7.1, b2, ⟨b3.1.trans a3.1, b3.2.trans a3.2⟩, ?_, ?_, b4, ⟨by omega, hp⟩, fun j y hy => ?_⟩
  · rw [b1.1 11 (Or.inl rfl)]; exact a4
  · rw [b1.1 11 (Or.inl rfl)]; exact a5
  · refine (a8 j y hy).cg hfr ?_ (by omega)
    have : j < nds.length := by
      rcases Nat.lt_or_ge j nds.length with z | z
      · exact z
      · rw [List.getElem?_eq_none z] at hy; cases hy
    omega
/-- what a draft's operator is after its end -/
theorem kt_en_f {op : Nat} {tab beg f1 f2 sbv scv : Int32} (he : en < 12) : (∀ c, c ≠ 11 → c ≠ 39 + 2 * en → c ≠ 40 + 2 * en → kt_en s en op tab beg f1 f2 sbv scv c = s c) ∧ kt_en s en op tab beg f1 f2 sbv scv 11 4 = nI (en + 1) ∧ kt_en s en op tab beg f1 f2 sbv scv 11 3 = s 11 3 ∧ (kt_en s en op tab beg f1 f2 sbv scv (39 + 2 * en) 1 = tab ∧ kt_en s en op tab beg f1 f2 sbv scv (39 + 2 * en) 2 = beg ∧ kt_en s en op tab beg f1 f2 sbv scv (39 + 2 * en) 3 = f1 ∧ kt_en s en op tab beg f1 f2 sbv scv (39 + 2 * en) 4 = f2 ∧ kt_en s en op tab beg f1 f2 sbv scv (39 + 2 * en) 5 = (if op = 13 then sbv else scv) ∧ kt_en s en op tab beg f1 f2 sbv scv (39 + 2 * en) 6 = scv) ∧ (op = 13 → ∀ a, a < 16 → kt_en s en op tab beg f1 f2 sbv scv (40 + 2 * en) a = s 31 a) := by
  have key : ∀ v5 : Int32, (∀ c, c ≠ 11 → c ≠ 39 + 2 * en → ka_u (ka_u (ka_u (ka_u (ka_u (ka_u (ka_u s 11 4 (nI (en + 1))) (39 + 2 * en) 1 tab) (39 + 2 * en) 2 beg) (39 + 2 * en) 3 f1) (39 + 2 * en) 4 f2) (39 + 2 * en) 5 v5) (39 + 2 * en) 6 scv c = s c) ∧ (∀ k, ka_u (ka_u (ka_u (ka_u (ka_u (ka_u (ka_u s 11 4 (nI (en + 1))) (39 + 2 * en) 1 tab) (39 + 2 * en) 2 beg) (39 + 2 * en) 3 f1) (39 + 2 * en) 4 f2) (39 + 2 * en) 5 v5) (39 + 2 * en) 6 scv 11 k = ka_u s 11 4 (nI (en + 1)) 11 k) := fun v5 => by
    refine ⟨fun c h1 h2 => funext fun k => ?_, fun k => ?_⟩
    · rw [ka_uN _ _ _ _ h2, ka_uN _ _ _ _ h2, ka_uN _ _ _ _ h2, ka_uN _ _ _ _ h2, ka_uN _ _ _ _ h2, ka_uN _ _ _ _ h2, ka_uN _ _ _ _ h1]
    · have h2 : (11 : Nat) ≠ 39 + 2 * en := by omega
      rw [ka_uN _ _ _ _ h2, ka_uN _ _ _ _ h2, ka_uN _ _ _ _ h2, ka_uN _ _ _ _ h2, ka_uN _ _ _ _ h2, ka_uN _ _ _ _ h2]
  have fld : ∀ v5 : Int32, ∀ t : Nat → Nat → Int32, t = ka_u (ka_u (ka_u (ka_u (ka_u (ka_u (ka_u s 11 4 (nI (en + 1))) (39 + 2 * en) 1 tab) (39 + 2 * en) 2 beg) (39 + 2 * en) 3 f1) (39 + 2 * en) 4 f2) (39 + 2 * en) 5 v5) (39 + 2 * en) 6 scv → t (39 + 2 * en) 1 = tab ∧ t (39 + 2 * en) 2 = beg ∧ t (39 + 2 * en) 3 = f1 ∧ t (39 + 2 * en) 4 = f2 ∧ t (39 + 2 * en) 5 = v5 ∧ t (39 + 2 * en) 6 = scv := fun v5 t ht => by
    subst ht
    refine ⟨?_, ?_, ?_, ?_, ?_, ka_uS _ _ _ _⟩
    · rw [ka_uJ _ _ _ _ _ (by decide), ka_uJ _ _ _ _ _ (by decide), ka_uJ _ _ _ _ _ (by decide), ka_uJ _ _ _ _ _ (by decide), ka_uJ _ _ _ _ _ (by decide), ka_uS]
    · rw [ka_uJ _ _ _ _ _ (by decide), ka_uJ _ _ _ _ _ (by decide), ka_uJ _ _ _ _ _ (by decide), ka_uJ _ _ _ _ _ (by decide), ka_uS]
    · rw [ka_uJ _ _ _ _ _ (by decide), ka_uJ _ _ _ _ _ (by decide), ka_uJ _ _ _ _ _ (by decide), ka_uS]
    · rw [ka_uJ _ _ _ _ _ (by decide), ka_uJ _ _ _ _ _ (by decide), ka_uS]
    · rw [ka_uJ _ _ _ _ _ (by decide), ka_uS]
  unfold kt_en
  by_cases c : op = 13
  · simp only [if_pos c]
    have hk := key sbv
    have hfd := fld sbv _ rfl
    refine ⟨fun c h1 h2 h3 => (ka_uF_N _ _ h3).trans (hk.1 c h1 h2), ?_, ?_, ⟨?_, ?_, ?_, ?_, ?_, ?_⟩, fun _ a ha => ?_⟩
    · rw [ka_uF_N _ _ (by omega), hk.2, ka_uS]
    · rw [ka_uF_N _ _ (by omega), hk.2, ka_uJ _ _ _ _ _ (by decide)]
    · rw [ka_uF_N _ _ (by omega)]; exact hfd.1
    · rw [ka_uF_N _ _ (by omega)]; exact hfd.2.1
    · rw [ka_uF_N _ _ (by omega)]; exact hfd.2.2.1
    · rw [ka_uF_N _ _ (by omega)]; exact hfd.2.2.2.1
    · rw [ka_uF_N _ _ (by omega)]; exact hfd.2.2.2.2.1
    · rw [ka_uF_N _ _ (by omega)]; exact hfd.2.2.2.2.2
    · rw [ka_uF_S, kh_o_T _ _ ha]
  · simp only [if_neg c]
    have hk := key scv
    have hfd := fld scv _ rfl
    refine ⟨fun c h1 h2 h3 => hk.1 c h1 h2, ?_, ?_, hfd, fun z => absurd z c⟩
    · rw [hk.2, ka_uS]
    · rw [hk.2, ka_uJ _ _ _ _ _ (by decide)]
/-- an operator ends: what was read, and it -/
theorem kCok.snoc {s2 : Nat → Nat → Int32} {w2 : Nat → Nat} {p2 sc2 op tab o1 o2 bg1 sb : Nat} {nds : List kN} {tk : List Nat} {cd : List Int32} {H : Nat → Nat → Bool} {tb f1 f2 sbv : Int32} (h1 : kCok en sc s w s2 w2 p2 bg1 nds sc2) (hbg : bg1 = bg + 1) (h12 : en + nds.length < 12)
    (ht : tb = (if op = 0 then nI tab else -1)) (hf1 : f1 = (if op = 0 then -1 else nI o1)) (hf2 : f2 = (if 9 ≤ op ∧ op ≤ 12 then nI o2 else -1)) (h13 : op = 13 → sbv = nI sb ∧ sb + tk.length = sc2 ∧ (∀ j, j < tk.length → s2 38 (sb + j) = nI (tk.getD j 0)) ∧ ∀ a b, a < 16 → b < 16 → bt (s2 31 a) b = H a b) (hn13 : op ≠ 13 → tk = []) {be : Nat} :
    kCok en sc s w (kt_en s2 (en + nds.length) op tb (nI be) f1 f2 sbv (nI sc2)) (kw_u w2 (39 + 2 * (en + nds.length)) (1000000 + op)) p2 bg (nds ++ [(op, tab, o1, o2, be, tk, cd, H)]) sc2 := by
  obtain ⟨a1, a2, a3, a4, a5, a6, a7, a8⟩ := h1
  obtain ⟨k1, k2, k3, ⟨k4, k5, k6, k7, k8, k9⟩, k10⟩ := kt_en_f (s := s2) (en := en + nds.length) (op := op) (tab := tb) (beg := nI be) (f1 := f1) (f2 := f2) (sbv := sbv) (scv := nI sc2) h12
  have hfr : kCfr (en + nds.length) sc2 s2 w2 (kt_en s2 (en + nds.length) op tb (nI be) f1 f2 sbv (nI sc2)) (kw_u w2 (39 + 2 * (en + nds.length)) (1000000 + op)) := ⟨fun k hk => ⟨if_neg (by omega), k1 _ (by omega) (by omega) (by omega), k1 _ (by omega) (by omega) (by omega)⟩, fun j _ => by rw [k1 38 (by omega) (by omega) (by omega)]⟩
  refine ⟨a1.tr hfr (by omega) a7.1, ?_, ⟨?_, ?_⟩, ?_, ?_, ?_, a7, fun j y hy => ?_⟩
  · rw [k1 9 (by omega) (by omega) (by omega)]; exact a2
  · rw [k1 9 (by omega) (by omega) (by omega)]; exact a3.1
  · rw [k1 9 (by omega) (by omega) (by omega)]; exact a3.2
  · rw [k3, a4, hbg, List.length_append]; simp only [List.length_singleton]; congr 1; omega
  · rw [k2, List.length_append]; rfl
  · rw [k1 13 (by omega) (by omega) (by omega)]; exact a6
  · rcases Nat.lt_or_ge j nds.length with c | c
    · rw [List.getElem?_append_left c] at hy
      exact (a8 j y hy).cg hfr (by omega) (Nat.le_refl _)
    · rw [List.getElem?_append_right c] at hy
      have hj : j = nds.length := by
        rcases Nat.eq_or_lt_of_le c with z | z
        · exact z.symm
        · rw [List.getElem?_eq_none (by simp; omega)] at hy
          cases hy
      rw [hj, Nat.sub_self] at hy
      have hx' := Option.some.inj (show some ((op, tab, o1, o2, be, tk, cd, H) : kN) = some y from hy)
      rw [hj, ← hx']
      refine ⟨if_pos rfl, k4.trans ht, k5, k6.trans hf1, k7.trans hf2, ?_, fun z a b ha hb => ?_⟩
      · by_cases z : op = 13
        · obtain ⟨y1, y2, y3, -⟩ := h13 z
          refine ⟨sb, by rw [k8, if_pos z, y1], by rw [k9, y2], by rw [y2]; exact Nat.le_refl _, fun j hj => ?_⟩
          rw [k1 38 (by omega) (by omega) (by omega)]
          exact y3 j hj
        · rw [hn13 z]
          exact ⟨sc2, by rw [k8, if_neg z], by rw [k9]; rfl, Nat.le_refl _, fun j hj => absurd hj (Nat.not_lt_zero j)⟩
      · rw [k10 z a ha]
        exact (h13 z).2.2.2 a b ha hb
end O7
