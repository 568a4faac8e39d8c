/-! ===== the class: a shelf, and a node, brought to an edition ===== -/
/-- what working leaves as it was -/
def kBf (h h' : ka_H) : Prop := h'.1 = h.1 ∧ h'.2.1 = h.2.1 ∧ (∀ a, ka_K h' a = ka_K h a) ∧ (∀ a, ka_P h' a = ka_P h a) ∧ ∀ a, a < 103 → a ≠ 65 → a ≠ 66 → ka_I h' a = ka_I h a
theorem kBf.rfl' {h : ka_H} : kBf h h := ⟨rfl, rfl, fun _ => rfl, fun _ => rfl, fun _ _ _ _ => rfl⟩
theorem kBf.tr {h h' h'' : ka_H} (a : kBf h h') (b : kBf h' h'') : kBf h h'' := ⟨b.1.trans a.1, b.2.1.trans a.2.1, fun x => (b.2.2.1 x).trans (a.2.2.1 x), fun x => (b.2.2.2.1 x).trans (a.2.2.2.1 x), fun x h1 h2 h3 => (b.2.2.2.2 x h1 h2 h3).trans (a.2.2.2.2 x h1 h2 h3)⟩
theorem kBf.fc {h h' : ka_H} (b : kBf h h') : kFc h h' := ⟨by rw [b.1]; omega, by rw [b.2.1]; omega, fun a a1 a2 => b.2.2.2.2 a (by omega) (by omega) (by omega)⟩
theorem kBf.cl {L : kAl} {h h' : ka_H} (b : kBf h h') (q : kcl L h) : kcl L h' := q.st (fun a a1 a2 => b.2.2.2.2 a (by omega) (by omega) (by omega))
theorem kBf.ct {T : kAt} {h h' : ka_H} (b : kBf h h') (q : kct T h) : kct T h' := q.st (fun a a1 a2 => b.2.2.2.2 a (by omega) (by omega) (by omega))
theorem kBf.cr {r : kAr} {h h' : ka_H} (b : kBf h h') (q : kcr r h) : kcr r h' := q.st (by rw [b.2.2.2.2 1 (by omega) (by omega) (by omega)]) (b.2.2.2.2 70 (by omega) (by omega) (by omega))
theorem kBf.end {h h' : ka_H} (b : kBf h h') (n c : Nat) (ed : Int32) : kl_end h' n c ed = kl_end h n c ed := by
  unfold kl_end
  rw [b.2.2.2.2 8 (by omega) (by omega) (by omega)]
/-- a shelf's counts are those after m changes -/
abbrev kAt1 (L : kAl) (Q : kAq) (sb : Nat → Nat) (m : Nat) (h : ka_H) (s : Nat) : Prop := ∀ r, r < 256 → ka_I h (sb s + 2) r = kSV (qKy Q) (lT L m) s r
/-- the trials stand -/
abbrev kTr (Q : kAq) (sb : Nat → Nat) (h h' : ka_H) : Prop := ∀ s, s < qN Q → ka_I h' (sb s + 3) = ka_I h (sb s + 3)
section BR
variable {g : Nat × (Nat → Int32)} {d : Nat} {h : ka_H} {R : ka_R → ka_H → Prop} {L : kAl} {Q : kAq} {sb qb st : Nat → Nat} {s m : Nat} {ed : Int32}
theorem kcq.up (w : kcq L Q sb qb st h) (hs : s < qN Q) {F K C : Nat → Int32} {m1 : Nat} (hz : m1 ≤ lZ L) (hC : ∀ r, r < 256 → C r = kSV (qKy Q) (lT L m1) s r) : kcq L Q sb qb (fun j => if j = s then m1 else st j) (ka_sI (kW h (sb s + 2) F K C) (sb s) 12 (nI m1 - 1)) := by
  obtain ⟨w1, w2, w3, w4, w5, w6, w7, w8⟩ := w
  have hb := (w3.1 s hs).1
  have oth : ∀ a, a ≠ sb s → a ≠ sb s + 2 → a ≠ 65 → a ≠ 66 → ka_I (ka_sI (kW h (sb s + 2) F K C) (sb s) 12 (nI m1 - 1)) a = ka_I h a := fun a a1 a2 a3 a4 => by
    rw [kI_o _ _ _ a1, kW_In a3 a4 a2]
  have own : ∀ k, k ≠ 12 → ka_I (ka_sI (kW h (sb s + 2) F K C) (sb s) 12 (nI m1 - 1)) (sb s) k = ka_I h (sb s) k := fun k hk => by
    rw [ka_IJ _ _ _ _ hk, kW_In (by omega) (by omega) (by omega)]
  refine ⟨?_, ?_, w3, w4, fun s' hs' => ?_, w6, fun q hq => ?_, w8⟩
  · rw [oth 1 (by omega) (by omega) (by omega) (by omega)]; exact w1
  · rw [oth 64 (by omega) (by omega) (by omega) (by omega)]; exact w2
  · have hb' := (w3.1 s' hs').1
    obtain ⟨y1, y2, y3, y4, y5, y6⟩ := w5 s' hs'
    by_cases z : s' = s
    · subst z
      refine ⟨y1.st (Nat.le_refl _) (fun _ _ => rfl) rfl (fun k hk' => own k (by omega)) (oth _ (by omega) (by omega) (by omega) (by omega)) (oth _ (by omega) (by omega) (by omega) (by omega)) rfl rfl, fun z => (own 10 (by omega)).trans (y2 z), (own 11 (by omega)).trans y3, ?_, ?_, fun r hr => ?_⟩
      · show _ = nI (if s' = s' then m1 else st s') - 1
        rw [if_pos rfl]
        exact ka_IS _ _ _ _
      · show (if s' = s' then m1 else st s') ≤ _
        rw [if_pos rfl]
        exact hz
      · show _ = kSV (qKy Q) (lT L (if s' = s' then m1 else st s')) s' r
        rw [if_pos rfl, kI_o _ _ _ (by omega), kW_Ic]
        exact hC r hr
    · have hd := w3.ne hs hs' z
      have ha : ∀ j, j < 5 → ka_I (ka_sI (kW h (sb s + 2) F K C) (sb s) 12 (nI m1 - 1)) (sb s' + j) = ka_I h (sb s' + j) := fun j j1 => oth _ (by omega) (by omega) (by omega) (by omega)
      have h0 : ka_I (ka_sI (kW h (sb s + 2) F K C) (sb s) 12 (nI m1 - 1)) (sb s') = ka_I h (sb s') := oth _ (by omega) (by omega) (by omega) (by omega)
      refine ⟨y1.st (Nat.le_refl _) (fun _ _ => rfl) rfl (fun k hk' => by rw [h0]) (ha 1 (by omega)) (ha 4 (by omega)) rfl rfl, fun z => by rw [h0]; exact y2 z, by rw [h0]; exact y3, ?_, ?_, fun r hr => ?_⟩
      · show _ = nI (if s' = s then m1 else st s') - 1
        rw [if_neg z, h0]; exact y4
      · show (if s' = s then m1 else st s') ≤ _
        rw [if_neg z]; exact y5
      · show _ = kSV (qKy Q) (lT L (if s' = s then m1 else st s')) s' r
        rw [if_neg z, ha 2 (by omega)]; exact y6 r hr
  · have hq' := (w7 q hq).2.2.1 s hs
    have hq1 := (w7 q hq).1.1
    exact (w7 q hq).st2 rfl (fun _ => rfl) (fun _ _ _ => rfl) (fun a a1 a2 => oth a (by omega) (by omega) (by omega) (by omega))
/-- what an operator has, out of one kind of counts (2), or of tried ones (3) -/
def kVo (Q : kAq) (sb : Nat → Nat) (h : ka_H) (s j : Nat) : Nat → Nat → Int32 := kv_op (qKy Q s).1 (ka_I h (sb s + 4)) (ka_I h (sb ((qKy Q s).2.2.1 - 1) + j)) (ka_I h (if (qKy Q s).2.2.2.1 = 0 then 64 else sb ((qKy Q s).2.2.2.1 - 1) + j))
theorem kVo_V {j : Nat} {T : Nat → Nat → Int32} (w : kcq L Q sb qb st h) (wk : ∀ s, s < qN Q → kKw s (qKy Q s)) (hs : s < qN Q) (h0 : (qKy Q s).1 ≠ 0) (o1 : ∀ r, r < 256 → ka_I h (sb ((qKy Q s).2.2.1 - 1) + j) r = kSV (qKy Q) T ((qKy Q s).2.2.1 - 1) r) (o2 : 9 ≤ (qKy Q s).1 → (qKy Q s).1 ≤ 12 → ∀ r, r < 256 → ka_I h (sb ((qKy Q s).2.2.2.1 - 1) + j) r = kSV (qKy Q) T ((qKy Q s).2.2.2.1 - 1) r) {r : Nat} (hr : r < 256) : kVo Q sb h s j (r / 16) (r % 16) = kSV (qKy Q) T s r := by
  have c := (w.2.2.2.2.1 s hs).1
  rw [kSV_1 (wk s hs) h0]
  unfold kVo
  refine kv_op_cg _ r (fun z a b ha hb => ?_) o1 (fun z => ?_) hr
  · rw [kHb_bt _ hb]
    exact c.2.2.2.2.2 z a b ha hb
  · have := (wk s hs).2.2.1 z.1 z.2
    rw [if_neg (by omega)]
    exact o2 z.1 z.2
/-- a shelf's counts are worked out -/
theorem kc_refreshS {j : Nat} {t ls : Int32} (hj : (t = 0 ∧ j = 2) ∨ (t = 1 ∧ j = 3)) (hf : kf g h) (w : kcq L Q sb qb st h) (wk : ∀ s, s < qN Q → kKw s (qKy Q s)) (hs : s < qN Q) (h0 : (qKy Q s).1 ≠ 0)
    (e : ∀ F K, R (kp_ri (kv_am ls (ka_I h (sb s + j)) (kVo Q sb h s j) 16)) (kW h (sb s + j) F K (kh_m ls (ka_I h (sb s + j)) (kVo Q sb h s j) 16))) : kp_T (d + 4) 59 [.ref 63, .ref (sb s), .int t, .int ls] h R := by
  have c := w.2.2.2.2.1 s hs
  have ht : (if t = 0 then 8 else 9) = j + 6 := by
    rcases hj with ⟨z1, z2⟩ | ⟨z1, z2⟩
    · rw [z1, z2]; rfl
    · rw [z1, z2]; rfl
  have hj5 : 2 ≤ j ∧ j ≤ 3 := by omega
  obtain ⟨⟨k1, k2, k3, k4, k5, k6⟩, k7, k8, k9, k10⟩ := wk s hs
  have h1 := k7 h0
  obtain ⟨cb, ⟨q1, q2, q3, q4, q5⟩, ⟨p1, p2, p3, p4, p5, p6, p7⟩, -, -, -⟩ := c.1
  have e5 : ka_P h (sb s) 5 = sb ((qKy Q s).2.2.1 - 1) := p4.trans (if_neg (by omega))
  have c1 := w.2.2.2.2.1 ((qKy Q s).2.2.1 - 1) (by omega)
  obtain ⟨cb1, ⟨r1, r2, r3, r4, r5⟩, ⟨-, -, -, -, -, u6, u7⟩, -, -, -⟩ := c1.1
  have nd1 := w.2.2.1.ne (s := s) (s' := (qKy Q s).2.2.1 - 1) hs (by omega) (by omega)
  have cr1 : kv_cr h (ka_P h (sb s) 5) t = sb ((qKy Q s).2.2.1 - 1) + j := by
    unfold kv_cr
    rw [e5, if_neg c1.ne]
    rcases hj with ⟨z1, z2⟩ | ⟨z1, z2⟩
    · rw [z1, z2, if_pos rfl]; exact u6
    · rw [z1, z2, if_neg (by decide)]; exact u7
  have kr1 : kr h (sb ((qKy Q s).2.2.1 - 1) + j) 256 := by
    rcases hj with ⟨z1, z2⟩ | ⟨z1, z2⟩
    · rw [z2]; unfold kr; rw [r3]; exact ⟨rfl, rfl⟩
    · rw [z2]; unfold kr; rw [r4]; exact ⟨rfl, rfl⟩
  have krc : kr h (sb s + j) 256 := by
    rcases hj with ⟨z1, z2⟩ | ⟨z1, z2⟩
    · rw [z2]; unfold kr; rw [q3]; exact ⟨rfl, rfl⟩
    · rw [z2]; unfold kr; rw [q4]; exact ⟨rfl, rfl⟩
  have crc : kv_cr h (sb s) t = sb s + j := by
    unfold kv_cr
    rw [if_neg c.ne]
    rcases hj with ⟨z1, z2⟩ | ⟨z1, z2⟩
    · rw [z1, z2, if_pos rfl]; exact p6
    · rw [z1, z2, if_neg (by decide)]; exact p7
  have two : (ka_P h (sb s) 6 = 0 ∨ (ka_K h (ka_P h (sb s) 6)).1 = 5) ∧ kv_cr h (ka_P h (sb s) 6) t = (if (qKy Q s).2.2.2.1 = 0 then 64 else sb ((qKy Q s).2.2.2.1 - 1) + j) ∧ kr h (if (qKy Q s).2.2.2.1 = 0 then 64 else sb ((qKy Q s).2.2.2.1 - 1) + j) 256 ∧ ((if (qKy Q s).2.2.2.1 = 0 then 64 else sb ((qKy Q s).2.2.2.1 - 1) + j) ≠ 65 ∧ (if (qKy Q s).2.2.2.1 = 0 then 64 else sb ((qKy Q s).2.2.2.1 - 1) + j) ≠ 66 ∧ (if (qKy Q s).2.2.2.1 = 0 then 64 else sb ((qKy Q s).2.2.2.1 - 1) + j) ≠ sb s + j) := by
    by_cases z : (qKy Q s).2.2.2.1 = 0
    · rw [if_pos z]
      have e6 : ka_P h (sb s) 6 = 0 := p5.trans (if_pos z)
      rw [e6]
      exact ⟨Or.inl rfl, rfl, ⟨kK hf rfl rfl, kZ hf rfl rfl⟩, by decide, by decide, by omega⟩
    · rw [if_neg z]
      have e6 : ka_P h (sb s) 6 = sb ((qKy Q s).2.2.2.1 - 1) := p5.trans (if_neg z)
      have c2 := w.2.2.2.2.1 ((qKy Q s).2.2.2.1 - 1) (by omega)
      obtain ⟨cb2, ⟨v1, v2, v3, v4, v5⟩, ⟨-, -, -, -, -, x6, x7⟩, -, -, -⟩ := c2.1
      have nd2 := w.2.2.1.ne (s := s) (s' := (qKy Q s).2.2.2.1 - 1) hs (by omega) (by omega)
      rw [e6]
      refine ⟨Or.inr c2.K, ?_, ?_, by omega, by omega, by omega⟩
      · unfold kv_cr
        rw [if_neg c2.ne]
        rcases hj with ⟨z1, z2⟩ | ⟨z1, z2⟩
        · rw [z1, z2, if_pos rfl]; exact x6
        · rw [z1, z2, if_neg (by decide)]; exact x7
      · rcases hj with ⟨z1, z2⟩ | ⟨z1, z2⟩
        · rw [z2]; unfold kr; rw [v3]; exact ⟨rfl, rfl⟩
        · rw [z2]; unfold kr; rw [v4]; exact ⟨rfl, rfl⟩
  refine kc_refresh (d := d) hf c.K c.ne p1 (by omega) k1 p3 ⟨by rw [q5], by rw [q5]⟩ (Or.inr (by rw [e5]; exact c1.K)) two.1 cr1 two.2.1 crc kr1 two.2.2.1 krc ⟨by omega, by omega, by omega⟩ two.2.2.2 ⟨by omega, by omega⟩ ⟨by omega, by omega, by omega⟩ e
theorem kc_bringTo (hf : kf g h) (hl : kcl L h) (wl : kWl L) (w : kcq L Q sb qb st h) (wk : ∀ s, s < qN Q → kKw s (qKy Q s)) (hs : s < qN Q) (hm : kl_end h (lNn L) (lC L) ed = nI m) (hmz : m ≤ lZ L) (o1 : (qKy Q s).1 ≠ 0 → kAt1 L Q sb m h ((qKy Q s).2.2.1 - 1)) (o2 : 9 ≤ (qKy Q s).1 → (qKy Q s).1 ≤ 12 → kAt1 L Q sb m h ((qKy Q s).2.2.2.1 - 1))
    (e : ∀ h' st', kf g h' → kBf h h' → kTr Q sb h h' → kcq L Q sb qb st' h' → kAt1 L Q sb m h' s → (∀ s', s' < qN Q → kAt1 L Q sb m h s' → kAt1 L Q sb m h' s') → R (.inl none) h') : kp_T (d + 5) 137 [.ref 1, .ref (sb s), .int ed] h R := by
  have c := w.2.2.2.2.1 s hs
  have hb := (w.2.2.1.1 s hs).1
  have hK1 : (ka_K h 1).1 = 8 := kK hf rfl rfl
  have hK2 : (ka_K h 2).1 = 2 := kK hf rfl rfl
  have hn := wl.1
  have hzn := lZ_le wl
  have k13 := (wk s hs).1.1
  have wk' : ∀ s', s' ≤ s → kKw s' (qKy Q s') := fun s' h' => wk s' (by omega)
  obtain ⟨cb, ⟨q1, q2, q3, q4, q5⟩, ⟨p1, p2, p3, p4, p5, p6, p7⟩, ⟨i0, i2, i7⟩, -, -⟩ := c.1
  have hle := lS_le (fun k => bt (kMs (qKy Q) s) (lTk L k)) m
  have hsv := kSV_st wl (ky := qKy Q) (s := s) (m := m) wk' (by omega)
  generalize hm1 : lS (fun k => bt (kMs (qKy Q) s) (lTk L k)) m = m1 at hle hsv
  have fin : ∀ F K C, (∀ r, r < 256 → C r = kSV (qKy Q) (lT L m) s r) → kd_ex g (d + 4) 137 R 69 [.ref 1, .ref (sb s), .int ed, .int (nI m1 - 1)] [] (kW h (sb s + 2) F K C) := fun F K C hC => by
    have hfW : kf g (kW h (sb s + 2) F K C) := kW_f hf (by rw [q3])
    refine kd_seg kp_no 10 ⟨c.K, ?_⟩
    refine e _ _ (kf_sI hfW (by rw [show ka_K (kW h (sb s + 2) F K C) (sb s) = ka_K h (sb s) from rfl, c.K]; decide)) ?_ ?_ (w.up hs (F := F) (K := K) (C := C) (m1 := m1) (by omega) (fun r hr => (hC r hr).trans (hsv r hr).symm)) ?_ ?_
    · exact ⟨rfl, rfl, fun _ => rfl, fun _ => rfl, fun a a1 a2 a3 => by rw [kI_o _ _ _ (by omega), kW_In a2 a3 (by omega)]⟩
    · intro s' hs'
      have hb' := (w.2.2.1.1 s' hs').1
      by_cases z : s' = s
      · subst z
        rw [kI_o _ _ _ (by omega), kW_In (by omega) (by omega) (by omega)]
      · have := w.2.2.1.ne hs hs' z
        rw [kI_o _ _ _ (by omega), kW_In (by omega) (by omega) (by omega)]
    · intro r hr
      rw [kI_o _ _ _ (by omega), kW_Ic]
      exact hC r hr
    · intro s' hs' y r hr
      have hb' := (w.2.2.1.1 s' hs').1
      by_cases z : s' = s
      · subst z
        rw [kI_o _ _ _ (by omega), kW_Ic]
        exact hC r hr
      · have := w.2.2.1.ne hs hs' z
        rw [kI_o _ _ _ (by omega), kW_In (by omega) (by omega) (by omega)]
        exact y r hr
  refine kd_in hf rfl rfl rfl (kd_seg (fun p => Nat.beq p 69) 60 ⟨fun _ => ⟨hK1, ⟨c.K, ⟨hK2, ?_⟩⟩⟩, fun z => absurd z c.ne⟩)
  rw [i7]
  refine kq_ci (kc_stateOf hf hl wl hm (by omega)) hf ⟨c.K, ?_⟩
  rw [c.2.2.2.1, hm1]
  refine ⟨fun z => ⟨c.K, ?_⟩, fun z => ?_⟩
  · rw [c.p1 hf]
    refine ⟨⟨(show 1000000 + (qKy Q s).1 < 1000014 by omega), by decide⟩, fun y => ⟨hK1, ?_⟩, fun y => ⟨hK1, ⟨c.K, ⟨c.K, ⟨hK2, ?_⟩⟩⟩⟩⟩
    · have y' : (qKy Q s).1 ≠ 0 := fun u => y (by rw [u])
      refine ⟨kK hf (a := 63) rfl rfl, ?_⟩
      refine kc_refreshS (j := 2) (t := 0) (Or.inl ⟨rfl, rfl⟩) hf w wk hs y' (fun F K => ⟨kW_f hf (by rw [q3]), ?_⟩)
      refine fin F K _ (fun r hr => ?_)
      have hbt : bt (Int32.ofInt 65535) (r / 16) = true := (b_65535 (r / 16)).trans (decide_eq_true (by omega))
      show (if r < 16 * 16 ∧ bt (Int32.ofInt 65535) (r / 16) = true then _ else _) = _
      rw [if_pos ⟨by omega, hbt⟩]
      exact kVo_V w wk hs y' (o1 y') o2 hr
    · have y' : (qKy Q s).1 = 0 := by
        have : 1000000 + (qKy Q s).1 = 1000000 := y
        omega
      rw [i2, if_pos y', show kq_p h (sb s) 8 = sb s + 2 from (kq_p_s hf _ _).trans p6]
      refine kc_ledfill hf hl wl hm (by omega) (wk s hs).1.2.1.1 ⟨by rw [q3], by rw [q3]⟩ (by omega) (fun F hF => ⟨kf_sF hf (by rw [q3]), ?_⟩)
      have := fin (ka_I h 65) (ka_I h 66) F (fun r hr => (hF r hr).trans (kSV_0 y' r).symm)
      rw [show kW h (sb s + 2) (ka_I h 65) (ka_I h 66) F = ka_sF h (sb s + 2) F by unfold kW; rw [ka_sF_eta, ka_sF_eta]] at this
      exact this
  · have hst : st s = m1 := by
      have h5 := c.2.2.2.2.1
      have z' : nI (st s) - 1 = nI m1 - 1 := z
      have z2 : nI (st s) = nI m1 := by
        have := congrArg (· + 1) z'
        simpa only [Int32.sub_add_cancel] using this
      exact (nI_eq (by omega) (by omega)).mp z2
    refine e h st hf kBf.rfl' (fun _ _ => rfl) w (fun r hr => ?_) (fun _ _ y => y)
    rw [c.2.2.2.2.2 r hr, hst]
    exact hsv r hr
/-- a node's counts as of an edition -/
theorem kc_countsAsOf {c q k : Nat} (hf : kf g h) (hl : kcl L h) (wl : kWl L) (w : kcq L Q sb qb st h) (wq : kWq c Q) (hq : q < qQ Q) (hk : k < (qNd Q q).length) (hm : kl_end h (lNn L) (lC L) ed = nI m) (hmz : m ≤ lZ L)
    (e : ∀ h' st', kf g h' → kBf h h' → kTr Q sb h h' → kcq L Q sb qb st' h' → kAt1 L Q sb m h' (qSh Q q k) → (∀ s', s' < qN Q → kAt1 L Q sb m h s' → kAt1 L Q sb m h' s') → R (.inl (some (.ref (sb (qSh Q q k) + 2)))) h') : kp_T (d + 6) 135 [.ref 1, .ref (qb q), .int (nI k), .int ed] h R := by
  have wk := fun s hs => (wq.2.2.2.1 s hs).1
  have h12 := (wq.2.2.2.2 q hq).1.2
  have hNl := (wq.2.2.2.2 q hq).2.1
  obtain ⟨x, hx⟩ := kls_at hk
  obtain ⟨hP, hs, cs, h13⟩ := w.nd wq hq hk
  have hQ := (w.2.2.2.2.2.2.1 q hq).1
  have hKb : (ka_K h (qb q)).1 = 4 := by rw [hQ.2.2.1]
  have hK1 : (ka_K h 1).1 = 8 := kK hf rfl rfl
  have hK2 : (ka_K h 2).1 = 2 := kK hf rfl rfl
  have hzn := lZ_le wl
  have hn := wl.1
  obtain ⟨⟨n1, n2, n3, n4, n5, n6, n7, -⟩, -, -, nn⟩ := hNl k x hx
  rw [Nat.zero_add] at n5
  have fin : ∀ h' st' z, kf g h' → kBf h h' → kTr Q sb h h' → kcq L Q sb qb st' h' → kAt1 L Q sb m h' (qSh Q q k) → (∀ s', s' < qN Q → kAt1 L Q sb m h s' → kAt1 L Q sb m h' s') → kd_ex g (d + 5) 135 R 71 [.ref 1, .ref (qb q), .int (nI k), .int ed, .ref (sb (qSh Q q k)), z] [] h' := fun h' st' z f1 f2 f3 f4 f5 f6 => by
    have cs' := f4.2.2.2.2.1 _ hs
    refine kd_seg kp_no 10 ⟨cs'.K, ?_⟩
    rw [show kq_p h' (sb (qSh Q q k)) 8 = sb (qSh Q q k) + 2 from (kq_p_s f1 _ _).trans cs'.1.2.2.1.2.2.2.2.2.1]
    exact e h' st' f1 f2 f3 f4 f5 f6
  have main : ∀ j i, i + j = k + 1 → x.2.2.2.2.1 ≤ i → ∀ h' st', kf g h' → kBf h h' → kTr Q sb h h' → kcq L Q sb qb st' h' → (∀ i', x.2.2.2.2.1 ≤ i' → i' < i → kAt1 L Q sb m h' (qSh Q q i')) → (∀ s', s' < qN Q → kAt1 L Q sb m h s' → kAt1 L Q sb m h' s') → kd_ex g (d + 5) 135 R 48 [.ref 1, .ref (qb q), .int (nI k), .int ed, .ref (sb (qSh Q q k)), .int (nI i)] [] h' := by
    intro j
    induction j with
    | zero =>
      intro i hi hbi h' st' f1 f2 f3 f4 f5 f6
      refine kd_seg (fun p => Nat.beq p 48 || Nat.beq p 71) 20 ⟨fun _ => ?_, fun y => absurd (nI_lt (a := k) (b := i) (by omega) (by omega)) y⟩
      exact fin h' st' _ f1 f2 f3 f4 (f5 k (by omega) (by omega)) f6
    | succ j ih =>
      intro i hi hbi h' st' f1 f2 f3 f4 f5 f6
      have hQ' := (f4.2.2.2.2.2.2.1 q hq).1
      have hKb' : (ka_K h' (qb q)).1 = 4 := by rw [hQ'.2.2.1]
      obtain ⟨y, hy⟩ := kls_at (l := qNd Q q) (k := i) (by omega)
      obtain ⟨hP', hs', -, -⟩ := f4.nd wq hq (k := i) (by omega)
      have hky := ((wq.2.2.2.2 q hq).2.2 i y hy).2
      obtain ⟨⟨b1, b2, b3, b4, b5, b6, b7, -⟩, -, -, -⟩ := hNl i y hy
      rw [Nat.zero_add] at b3 b4
      have hbb := nn i y hy (by omega) (by omega)
      refine kd_seg (fun p => Nat.beq p 48) 20 ⟨fun u => absurd u (nI_nlt (a := k) (b := i) (by omega) (by omega)), fun _ => ⟨hKb', ?_⟩⟩
      refine kc_qat1 f1 hQ' (by omega) ⟨f1, ⟨kK f1 rfl rfl, ?_⟩⟩
      rw [hP']
      refine kc_bringTo f1 (f2.cl hl) wl f4 wk hs' (by rw [f2.end]; exact hm) hmz (fun u => ?_) (fun u1 u2 => ?_) (fun h2 st2 g1 g2 g3 g4 g5 g6 => ⟨g1, ?_⟩)
      · have u' : y.1 ≠ 0 := fun z => u (by rw [hky]; exact z)
        have : (qKy Q (qSh Q q i)).2.2.1 = qSh Q q y.2.2.1 + 1 := by rw [hky]; exact if_neg u'
        rw [this, Nat.add_sub_cancel]
        have := b3 (by omega)
        have := b6 (by omega)
        exact f5 _ (by omega) (by omega)
      · have e1 : (qKy Q (qSh Q q i)).1 = y.1 := by rw [hky]; rfl
        rw [e1] at u1 u2
        have : (qKy Q (qSh Q q i)).2.2.2.1 = qSh Q q y.2.2.2.1 + 1 := by rw [hky]; exact if_pos ⟨u1, u2⟩
        rw [this, Nat.add_sub_cancel]
        have := b4 u1 u2
        have := b7 u1 u2
        exact f5 _ (by omega) (by omega)
      · have := ih (i + 1) (by omega) (by omega) h2 st2 g1 (f2.tr g2) (fun s' hs' => (g3 s' hs').trans (f3 s' hs')) g4 (fun i' z1 z2 => by
          rcases Nat.lt_or_ge i' i with z | z
          · obtain ⟨-, hs2, -, -⟩ := f4.nd wq hq (k := i') (by omega)
            exact g6 _ hs2 (f5 i' z1 z)
          · rw [show i' = i by omega]; exact g5) (fun s' hs' z => g6 s' hs' (f6 s' hs' z))
        rw [nI_succ] at this
        exact this
  refine kd_in hf rfl rfl rfl (kd_seg (fun p => Nat.beq p 48 || Nat.beq p 71) 60 ⟨hKb, ?_⟩)
  refine kc_qat1 hf hQ (by omega) ⟨hf, ⟨fun _ => ?_, fun z => absurd z (by rw [hP]; exact cs.ne)⟩⟩
  rw [hP]
  refine ⟨cs.K, ⟨hK1, ⟨cs.K, ⟨hK2, ?_⟩⟩⟩⟩
  rw [cs.1.2.2.2.1.2.2]
  refine kq_ci (kc_stateOf hf hl wl hm (by omega)) hf ?_
  rw [cs.2.2.2.1]
  have hle := lS_le (fun k => bt (kMs (qKy Q) (qSh Q q k)) (lTk L k)) m
  refine ⟨fun z => ?_, fun z => ⟨hKb, ?_⟩⟩
  · have hle := lS_le (fun j => bt (kMs (qKy Q) (qSh Q q k)) (lTk L j)) m
    have hst : st (qSh Q q k) = lS (fun j => bt (kMs (qKy Q) (qSh Q q k)) (lTk L j)) m := by
      have h5 := cs.2.2.2.2.1
      have z' : nI (st (qSh Q q k)) - 1 = nI (lS (fun j => bt (kMs (qKy Q) (qSh Q q k)) (lTk L j)) m) - 1 := z
      have z2 : nI (st (qSh Q q k)) = nI (lS (fun j => bt (kMs (qKy Q) (qSh Q q k)) (lTk L j)) m) := by
        have := congrArg (· + 1) z'
        simpa only [Int32.sub_add_cancel] using this
      exact (nI_eq (by omega) (by omega)).mp z2
    refine fin h st _ hf kBf.rfl' (fun _ _ => rfl) w (fun r hr => ?_) (fun _ _ y => y)
    rw [cs.2.2.2.2.2 r hr, hst]
    exact kSV_st wl (ky := qKy Q) (s := qSh Q q k) (m := m) (fun s' h' => wk s' (by omega)) (by omega) r hr
  · refine kq_ci (kc_beginOf hf hQ hk ((w.2.2.2.2.2.2.1 q hq).2.2.2 k x hx).2.1) hf ?_
    exact main (k + 1 - x.2.2.2.2.1) x.2.2.2.2.1 (by omega) (Nat.le_refl _) h st hf kBf.rfl' (fun _ _ => rfl) w (fun i' z1 z2 => by omega) (fun _ _ y => y)
end BR
