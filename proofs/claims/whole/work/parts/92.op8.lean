/-! ===== operators: the class's operands ===== -/
theorem kq_cnR {g : Nat × (Nat → Int32)} {d m' : Nat} {as : List Value} {h : ka_H} {P : Option Value → ka_H → Prop} (hT : kp_T d m' as h (fun r h' => ∃ v, r = .inl (some v) ∧ kf g h' ∧ P (some v) h')) : ∃ (v' : Option Value) (h' : ka_H), ka_run d m' as h (.inl v') h' ∧ kf g h' ∧ P v' h' := by
  obtain ⟨r, h', q, v, rfl, h1, h2⟩ := hT
  exact ⟨_, _, q, h1, h2⟩
section O8
variable {g : Nat × (Nat → Int32)} {d : Nat} {h : ka_H} {s : Nat → Nat → Int32} {w : Nat → Nat} {R : ka_R → ka_H → Prop} {n p bg en sc i : Nat} {tp : Nat → Int32}
theorem kc_readOperand {D c : Nat} {X : kX} (hf : kf g h) (hU : kU h n tp) (hp : s 9 2 = nI p) (hpn : p ≤ n) (h113 : s 11 3 = nI bg) (h114 : s 11 4 = nI en) (hs : s 13 5 = nI sc) (hsc : sc ≤ p) (hX : kt_s tp n p < n → kXC D n tp (kt_s tp n p + 1) bg en X ∧ kXP n (kt_s tp n p + 1) bg en X) (hD : 2 ≤ D)
    (e1 : ¬ (kt_s tp n p < n ∧ tp (kt_s tp n p) = nI c) → ∀ s' w', s' 9 3 = nI 1 → s' 9 4 = nI (kt_s tp n p) → R (kp_ri (-1)) (kcs h s' w'))
    (e2 : (kt_s tp n p < n ∧ tp (kt_s tp n p) = nI c) → ∀ kd pl s' w', X = .inl (kd, pl) → s' 9 3 = nI kd → s' 9 4 = nI pl → R (kp_ri (-1)) (kcs h s' w'))
    (e3 : (kt_s tp n p < n ∧ tp (kt_s tp n p) = nI c) → ∀ p' nds s' w' sc', X = .inr (p', nds) → kCok en sc s w s' w' p' bg nds sc' → R (kp_ri (nI (en + nds.length - 1))) (kcs h s' w')) : kp_T (D + 1) 23 [.ref 11, .int (nI c)] (kcs h s w) R := by
  obtain ⟨D', rfl⟩ : ∃ D', D = D' + 2 := ⟨D - 2, by omega⟩
  have hle := kt_s_le tp n p hpn
  refine kq_in (kcs_f hf) rfl rfl rfl (kq_seg kp_no 30 ?_)
  refine kc_takeSign hf hU hp hpn (fun a1 a2 => ⟨kcs_f hf, ⟨fun c => absurd c (by decide), fun _ => ?_⟩⟩) (fun a1 => ⟨kcs_f hf, ⟨fun _ => ⟨trivial, e1 a1 _ _ rfl rfl⟩, fun c => absurd rfl c⟩⟩)
  obtain ⟨hXC, hXP⟩ := hX a1
  refine hXC g h (ct_at s (kt_s tp n p + 1)) w sc _ hf hU (ka_uS _ _ _ _) h113 h114 hs (by omega) (fun kd pl s' w' ho c3 c4 => ⟨kcs_f hf, ⟨fun _ => ⟨trivial, e2 ⟨a1, a2⟩ kd pl s' w' ho c3 c4⟩, fun c => absurd rfl c⟩⟩) (fun p' nds s' w' sc' ho hok => ⟨kcs_f hf, ⟨fun c => absurd c (by decide), fun _ => ⟨trivial, ?_⟩⟩⟩)
  have hpp := hXP.2 p' nds ho
  have hz : ∀ c, c ≠ 9 → ct_at s (kt_s tp n p + 1) c = s c := fun c hc => funext fun k => ka_uN _ _ _ _ hc k
  have hfr : kCfr en sc s w s' w' := ⟨fun k hk => ⟨(hok.1.1 k hk).1, (hok.1.1 k hk).2.1.trans (hz _ (by omega)), (hok.1.1 k hk).2.2.trans (hz _ (by omega))⟩, fun j hj => (hok.1.2 j hj).trans (by rw [hz 38 (by decide)])⟩
  have := e3 ⟨a1, a2⟩ p' nds s' w' sc' ho ⟨hfr, hok.2.1, ⟨hok.2.2.1.1, hok.2.2.1.2⟩, hok.2.2.2.1, hok.2.2.2.2.1, hok.2.2.2.2.2⟩
  rw [← nI_m1 (by omega), ← hok.2.2.2.2.1] at this
  exact this
theorem kXC_ops {D : Nat} {X1 : Nat → kX} {X2 : Nat → Nat → kX} {oc : Nat → kO} (hf : kf g h) (hU : kU h n tp) (hp : s 9 2 = nI p) (hpn : p ≤ n) (h113 : s 11 3 = nI (bg + 1)) (h114 : s 11 4 = nI en) (hs : s 13 5 = nI sc) (hsc : sc ≤ p) (hbe : en ≤ bg) (hb12 : bg < 12) (hi : 1 ≤ i ∧ i ≤ 13) (hD : 49 ≤ D)
    (hX1 : ∀ p', p < p' → p' ≤ n → kXC D n tp p' (bg + 1) en (X1 p') ∧ kXP n p' (bg + 1) en (X1 p'))
    (hX2 : ∀ p' k, p < p' → p' ≤ n → bg + 1 + k ≤ 12 → kXC D n tp p' (bg + 1 + k) (en + k) (X2 p' k) ∧ kXP n p' (bg + 1 + k) (en + k) (X2 p' k))
    (hoc : ∀ p', p < p' → p' ≤ n → kCd (CP 0 + 2) 2 n tp p' 0 0 0 0 31 (oc p') ∧ kPd n p' 16 (oc p'))
    (e1 : ∀ kd pl s' w', kx_ops tp n i en X1 X2 oc p = .inl (kd, pl) → s' 9 3 = nI kd → s' 9 4 = nI pl → R (kp_ri 0) (kcs h s' w')) (e2 : ∀ p' nds s' w' sc', kx_ops tp n i en X1 X2 oc p = .inr (p', nds) → kCok en sc s w s' w' p' bg nds sc' → R (kp_ri 1) (kcs h s' w')) : kp_T (D + 2) 22 [.ref 11, .ref (1000000 + i)] (kcs h s w) R := by
  obtain ⟨D', rfl⟩ : ∃ D', D = D' + 49 := ⟨D - 49, by omega⟩
  have h200 := hU.2.1
  have hle := kt_s_le tp n p hpn
  have hfs : ∀ s' w', kf g (kcs h s' w') := fun s' w' => kcs_f hf
  have hK11 : ∀ s' w', (ka_K (kcs h s' w') 11).1 = 1 := fun s' w' => kK (hfs s' w') rfl rfl
  have hK13 : ∀ s' w', (ka_K (kcs h s' w') 13).1 = 0 := fun s' w' => kK (hfs s' w') rfl rfl
  have hK9 : ∀ s' w', (ka_K (kcs h s' w') 9).1 = 6 := fun s' w' => kK (hfs s' w') rfl rfl
  have hKo : ∀ s' w', (ka_K (kcs h s' w') (1000000 + i)).1 = 20 := fun s' w' => by rw [(ko_op (hfs s' w') (by omega : i < 14)).1]
  have hopn : ∀ s' w', ka_I (kcs h s' w') (1000000 + i) 2 = ka_opnd.getD i 0 := fun s' w' => (ko_op (hfs s' w') (by omega : i < 14)).2.2
  have hop2 : ka_opnd.getD i 0 = Int32.ofInt 2 ↔ (9 ≤ i ∧ i ≤ 12) := (by decide : ∀ i, i < 14 → (ka_opnd.getD i 0 = Int32.ofInt 2 ↔ (9 ≤ i ∧ i ≤ 12))) i (by omega)
  -- the closing sign and the end
  have hend : ∀ (s3 : Nat → Nat → Int32) (w3 : Nat → Nat) (p3 sc3 o1 o2 sb : Nat) (nds : List kN) (v2 : Int32) (tk : List Nat) (cd : List Int32) (H : Nat → Nat → Bool), kCok en sc s w s3 w3 p3 (bg + 1) nds sc3 → p3 ≤ n → en + nds.length < 12 → v2 = (if 9 ≤ i ∧ i ≤ 12 then nI o2 else -1) → (i = 13 → s3 13 6 = nI sb ∧ sb + tk.length = sc3 ∧ (∀ j, j < tk.length → s3 38 (sb + j) = nI (tk.getD j 0)) ∧ ∀ a b, a < 16 → b < 16 → bt (s3 31 a) b = H a b) → (i ≠ 13 → tk = []) →
      (kx_ops tp n i en X1 X2 oc p = if kt_s tp n p3 < n ∧ tp (kt_s tp n p3) = 41 then .inr (kt_s tp n p3 + 1, nds ++ [(i, 0, o1, o2, en, tk, cd, H)]) else .inl (1, kt_s tp n p3)) → kd_ex g (D' + 50) 22 R 101 [.ref 11, .ref (1000000 + i), .int (nI en), .int (nI o1), .int v2] [] (kcs h s3 w3) := by
    intro s3 w3 p3 sc3 o1 o2 sb nds v2 tk cd H hok hp3 h12 hv2 h13 hn13 hko
    refine kd_seg kp_no 30 ⟨hK11 s3 w3, ⟨hK9 s3 w3, ?_⟩⟩
    refine kc_takeSign hf hU hok.2.1 hp3 (fun a1 a2 => ⟨kcs_f hf, ⟨fun c => absurd c (by decide), fun _ => ⟨hK11 _ _, ?_⟩⟩⟩) (fun a1 => ⟨kcs_f hf, ⟨fun _ => ⟨Or.inl rfl, ?_⟩, fun c => absurd rfl c⟩⟩)
    · rw [if_pos (show kt_s tp n p3 < n ∧ tp (kt_s tp n p3) = 41 from ⟨a1, a2⟩)] at hko
      have hle3 := kt_s_le tp n p3 hp3
      have hok' : kCok en sc s w (ct_at s3 (kt_s tp n p3 + 1)) w3 (kt_s tp n p3 + 1) (bg + 1) nds sc3 := by
        have := hok.ct (ct_ok0 (p := kt_s tp n p3 + 1) hok.2.2.2.2.2.1) (by have := hok.2.2.2.2.2.2.1; simp only [List.length_nil]; omega) (by omega)
        exact this
      refine kc_end (op := i) (tab := -1) (beg := nI en) (f1 := nI o1) (f2 := v2) hf (en := en + nds.length) hok'.2.2.2.2.1 h12 hi.2 ⟨kcs_f hf, ⟨fun c => absurd c (by decide), fun _ => ⟨Or.inr rfl, ?_⟩⟩⟩
      have hfin := hok'.snoc (bg := bg) (op := i) (tab := 0) (o1 := o1) (o2 := o2) (sb := sb) (tk := tk) (cd := cd) (H := H) (tb := -1) (f1 := nI o1) (f2 := v2) (sbv := s3 13 6) (be := en) rfl h12 (by rw [if_neg (by omega)]) (by rw [if_neg (by omega)]) hv2 h13 hn13
      rw [← hok.2.2.2.2.2.1] at hfin
      exact e2 _ _ _ _ sc3 hko hfin
    · rw [if_neg (show ¬ (kt_s tp n p3 < n ∧ tp (kt_s tp n p3) = 41) from a1)] at hko
      exact e1 1 _ _ _ hko rfl rfl
  -- behind the operands
  have j55 : ∀ (s2 : Nat → Nat → Int32) (w2 : Nat → Nat) (p2 sc2 o1 o2 : Nat) (nds : List kN) (v2 : Int32), kCok en sc s w s2 w2 p2 (bg + 1) nds sc2 → p2 ≤ n → p < p2 → en + nds.length < 12 → v2 = (if 9 ≤ i ∧ i ≤ 12 then nI o2 else -1) →
      (i ≠ 13 → kx_ops tp n i en X1 X2 oc p = if kt_s tp n p2 < n ∧ tp (kt_s tp n p2) = 41 then .inr (kt_s tp n p2 + 1, nds ++ [(i, 0, o1, o2, en, [], [], kx_hf)]) else .inl (1, kt_s tp n p2)) →
      (i = 13 → o2 = 0 ∧ kx_ops tp n i en X1 X2 oc p = match kw_o tp n oc p2 with
        | .inl x => .inl x
        | .inr (p', tk, cd, H) => .inr (p', nds ++ [(13, 0, o1, 0, en, tk, cd, H)])) → kd_ex g (D' + 50) 22 R 55 [.ref 11, .ref (1000000 + i), .int (nI en), .int (nI o1), .int v2] [] (kcs h s2 w2) := by
    intro s2 w2 p2 sc2 o1 o2 nds v2 hok hp2 hpp2 h12 hv2 hk1 hk2
    have hle2 := kt_s_le tp n p2 hp2
    refine kd_seg (fun p => Nat.beq p 101) 40 ⟨hK11 s2 w2, ⟨hK11 s2 w2, ⟨hK13 s2 w2, ⟨hK13 s2 w2, ?_⟩⟩⟩⟩
    rw [show ka_I (kcs h s2 w2) (kq_p (kcs h s2 w2) 11 1) 5 = nI sc2 from hok.2.2.2.2.2.1]
    rw [show ka_sI (kcs h s2 w2) (kq_p (kcs h s2 w2) 11 1) 6 (nI sc2) = kcs h (ka_u s2 13 6 (nI sc2)) w2 from kcs_sI (a := 13) _ rfl]
    have hok' : kCok en sc s w (ka_u s2 13 6 (nI sc2)) w2 p2 (bg + 1) nds sc2 := by
      obtain ⟨a1, a2, a3, a4, a5, a6, a7, a8⟩ := hok
      have hz : ∀ c, c ≠ 13 → ka_u s2 13 6 (nI sc2) c = s2 c := fun c hc => funext fun k => ka_uN _ _ _ _ hc k
      have hfr : kCfr (en + nds.length) sc2 s2 w2 (ka_u s2 13 6 (nI sc2)) w2 := ⟨fun k hk => ⟨rfl, hz _ (by omega), hz _ (by omega)⟩, fun j _ => by rw [hz 38 (by decide)]⟩
      refine ⟨a1.tr hfr (by omega) a7.1, by rw [hz 9 (by decide)]; exact a2, ⟨by rw [hz 9 (by decide)]; exact a3.1, by rw [hz 9 (by decide)]; exact a3.2⟩, by rw [hz 11 (by decide)]; exact a4, by rw [hz 11 (by decide)]; exact a5, (ka_uJ _ _ _ _ _ (by decide)).trans a6, a7, fun j y hy => (a8 j y hy).cg hfr ?_ (Nat.le_refl _)⟩
      have : j < nds.length := by
        rcases Nat.lt_or_ge j nds.length with z | z
        · exact z
        · rw [List.getElem?_eq_none z] at hy; cases hy
      omega
    have h136 : (ka_u s2 13 6 (nI sc2)) 13 6 = nI sc2 := ka_uS _ _ _ _
    generalize hs3 : ka_u s2 13 6 (nI sc2) = s3 at hok' h136
    refine ⟨⟨(show 1000000 + i < 1000014 by omega), by decide⟩, fun c => ?_, fun c => ⟨hK11 _ _, ⟨hK9 _ _, ?_⟩⟩⟩
    · have hi13 : i ≠ 13 := fun z => c (by show 1000000 + i = 1000013; omega)
      exact hend s3 w2 p2 sc2 o1 o2 0 nds v2 [] [] kx_hf hok' hp2 h12 hv2 (fun z => absurd z hi13) (fun _ => rfl) (hk1 hi13)
    · have hi13 : i = 13 := by
        have : 1000000 + i = 1000013 := c
        omega
      obtain ⟨ho20, hko⟩ := hk2 hi13
      unfold kw_o at hko
      refine kc_takeSign hf hU hok'.2.1 hp2 (fun a1 a2 => ⟨kcs_f hf, ⟨fun c => absurd c (by decide), fun _ => ⟨hK11 _ _, ⟨hK13 _ _, ?_⟩⟩⟩⟩) (fun a1 => ⟨kcs_f hf, ⟨fun _ => ⟨Or.inl rfl, ?_⟩, fun c => absurd rfl c⟩⟩)
      · rw [if_pos (show kt_s tp n p2 < n ∧ tp (kt_s tp n p2) = 58 from ⟨a1, a2⟩)] at hko
        obtain ⟨hCc, hPc⟩ := hoc (kt_s tp n p2 + 1) (by omega) (by omega)
        have hCd := hCc.le (D' := D' + 50) (by unfold CP; omega)
        have hscb := hok'.2.2.2.2.2.2.1
        refine kq_cnR (hCd g h (ct_at s3 (kt_s tp n p2 + 1)) w2 sc2 _ hf hU (ka_uS _ _ _ _) hok'.2.2.2.2.2.1 (by omega) (fun kd pl s' ho hfr c3 c4 => ⟨.int 0, rfl, kcs_f hf, ⟨fun c => absurd rfl c, fun _ => ⟨Or.inl rfl, ?_⟩⟩⟩) (fun p4 tk cd H s4 ho hok4 hH => ⟨.int 1, rfl, kcs_f hf, ⟨fun _ => ?_, fun c => absurd c (by decide)⟩⟩))
        · rw [ho] at hko
          exact e1 kd pl _ _ hko c3 c4
        · have hpp4 := hPc.2 p4 tk cd H ho
          rw [ho] at hko
          have hokA : kCok en sc s w (ct_at s3 (kt_s tp n p2 + 1)) w2 (kt_s tp n p2 + 1) (bg + 1) nds sc2 := hok'.ct (ct_ok0 (p := kt_s tp n p2 + 1) hok'.2.2.2.2.2.1) (by simp only [List.length_nil]; omega) (by omega)
          have hokB : kCok en sc s w s4 w2 p4 (bg + 1) nds (sc2 + tk.length) := hokA.ct hok4 (by omega) (by omega)
          refine hend s4 w2 p4 (sc2 + tk.length) o1 o2 sc2 nds v2 tk cd H hokB hpp4.2.1 h12 hv2 (fun _ => ⟨hok4.1.2.1.trans h136, rfl, hok4.2.2.2.2.2, hH⟩) (fun z => absurd hi13 z) ?_
          rw [hko, hi13, ho20]
          show (match (if kt_s tp n p4 < n ∧ tp (kt_s tp n p4) = 41 then _ else _ : kO) with | .inl x => _ | .inr (p', tk, cd, H) => _) = _
          by_cases z : kt_s tp n p4 < n ∧ tp (kt_s tp n p4) = 41
          · rw [if_pos z, if_pos z]
          · rw [if_neg z, if_neg z]
      · rw [if_neg (show ¬ (kt_s tp n p2 < n ∧ tp (kt_s tp n p2) = 58) from a1)] at hko
        exact e1 1 _ _ _ hko rfl rfl
  refine kd_in (kcs_f hf) rfl rfl rfl (kd_seg (fun p => Nat.beq p 55) 40 ⟨hK11 s w, ⟨hK11 s w, ?_⟩⟩)
  rw [show ka_I (kcs h s w) 11 4 = nI en from h114]
  refine kc_readOperand (c := 40) (X := X1 (kt_s tp n p + 1)) hf hU hp hpn h113 h114 hs hsc (fun z => hX1 _ (by omega) (by omega)) (by omega) (fun a1 s' w' c3 c4 => ⟨kcs_f hf, ⟨fun c => absurd rfl c, fun _ => ⟨Or.inl rfl, ?_⟩⟩⟩) (fun hop kd pl s' w' ho c3 c4 => ⟨kcs_f hf, ⟨fun c => absurd rfl c, fun _ => ⟨Or.inl rfl, ?_⟩⟩⟩) (fun hop p2 nds1 s2 w2 sc2 ho hok => ⟨kcs_f hf, ?_⟩)
  · refine e1 1 _ _ _ ?_ c3 c4
    unfold kx_ops
    rw [if_neg (show ¬ (kt_s tp n p < n ∧ tp (kt_s tp n p) = 40) from a1)]
  · refine e1 kd pl _ _ ?_ c3 c4
    unfold kx_ops
    rw [if_pos (show kt_s tp n p < n ∧ tp (kt_s tp n p) = 40 from hop), ho]
  · have hP1 := (hX1 (kt_s tp n p + 1) (by omega) (by omega)).2.2 p2 nds1 ho
    have hcut : kx_ops tp n i en X1 X2 oc p = if i = 13 then kx_wh tp n en oc p2 nds1 else if 9 ≤ i then kx_bi tp n i en X2 p2 nds1 else kx_un tp n i en p2 nds1 := by
      unfold kx_ops
      rw [if_pos (show kt_s tp n p < n ∧ tp (kt_s tp n p) = 40 from hop), ho]
    have hle2 := kt_s_le tp n p2 hP1.2.1
    have hsc2 := hok.2.2.2.2.2.2.1
    refine ⟨fun _ => ⟨hKo s2 w2, ?_⟩, fun c => absurd c (nI_ne_m1 (by omega))⟩
    rw [hopn s2 w2]
    refine ⟨fun c => ⟨fun c2 => absurd rfl c2, fun _ => ⟨hKo s2 w2, ?_⟩⟩, fun c => ⟨hK11 s2 w2, ?_⟩⟩
    · have hnb : ¬ (9 ≤ i ∧ i ≤ 12) := fun z => c (hop2.mpr z)
      rw [hopn s2 w2]
      refine ⟨fun _ => ?_, fun c2 => absurd c2 c⟩
      refine j55 s2 w2 p2 sc2 (en + nds1.length - 1) 0 nds1 _ hok hP1.2.1 (by omega) (by omega) (by rw [if_neg hnb]; rfl) (fun z => ?_) (fun z => ⟨rfl, ?_⟩)
      · rw [hcut, if_neg z, if_neg (by omega)]
        rfl
      · rw [hcut, if_pos z]
        rfl
    · have hb2 : 9 ≤ i ∧ i ≤ 12 := hop2.mp c
      have hcut2 : kx_ops tp n i en X1 X2 oc p = kx_bi tp n i en X2 p2 nds1 := by rw [hcut, if_neg (by omega), if_pos hb2.1]
      unfold kx_bi at hcut2
      refine kc_readOperand (c := 44) (X := X2 (kt_s tp n p2 + 1) nds1.length) (bg := bg + 1 + nds1.length) (en := en + nds1.length) hf hU hok.2.1 hP1.2.1 hok.2.2.2.1 hok.2.2.2.2.1 hok.2.2.2.2.2.1 hsc2.2 (fun z => hX2 _ _ (by omega) (by omega) hP1.2.2.2.1) (by omega) (fun a1 s' w' c3 c4 => ⟨kcs_f hf, ⟨fun c => absurd rfl c, fun _ => ⟨hKo s' w', ?_⟩⟩⟩) (fun hop9 kd pl s' w' ho2 c3 c4 => ⟨kcs_f hf, ⟨fun c => absurd rfl c, fun _ => ⟨hKo s' w', ?_⟩⟩⟩) (fun hop9 p4 nds2 s4 w4 sc4 ho2 hok4 => ⟨kcs_f hf, ?_⟩)
      · rw [hopn s' w']
        refine ⟨fun c2 => absurd c c2, fun _ => ⟨Or.inl rfl, ?_⟩⟩
        rw [if_neg (show ¬ (kt_s tp n p2 < n ∧ tp (kt_s tp n p2) = 44) from a1)] at hcut2
        exact e1 1 _ _ _ hcut2 c3 c4
      · rw [hopn s' w']
        refine ⟨fun c2 => absurd c c2, fun _ => ⟨Or.inl rfl, ?_⟩⟩
        rw [if_pos (show kt_s tp n p2 < n ∧ tp (kt_s tp n p2) = 44 from hop9), ho2] at hcut2
        exact e1 kd pl _ _ hcut2 c3 c4
      · have hP4 := (hX2 (kt_s tp n p2 + 1) nds1.length (by omega) (by omega) hP1.2.2.2.1).2.2 p4 nds2 ho2
        refine ⟨fun _ => ?_, fun c => absurd c (nI_ne_m1 (by omega))⟩
        rw [if_pos (show kt_s tp n p2 < n ∧ tp (kt_s tp n p2) = 44 from hop9), ho2] at hcut2
        have hokA : kCok en sc s w s4 w4 p4 (bg + 1) (nds1 ++ nds2) sc4 := hok.tr hok4
        refine j55 s4 w4 p4 sc4 (en + nds1.length - 1) (en + (nds1 ++ nds2).length - 1) (nds1 ++ nds2) _ hokA hP4.2.1 (by omega) (by rw [List.length_append]; omega) (by rw [if_pos hb2, List.length_append, Nat.add_assoc]) (fun _ => hcut2) (fun z => by omega)
end O8
