/-! ===== trials: what shelves would have ===== -/
def tU (T : Nat → Nat → Int32) (t c : Nat) (v : Int32) : Nat → Nat → Int32 := fun t' c' => if t' = t ∧ c' = c then v else T t' c'
theorem tU_S (T : Nat → Nat → Int32) (t c : Nat) (v : Int32) : tU T t c v t c = v := if_pos ⟨rfl, rfl⟩
theorem tU_N (T : Nat → Nat → Int32) {t c t' c' : Nat} (v : Int32) (h : ¬ (t' = t ∧ c' = c)) : tU T t c v t' c' = T t' c' := if_neg h
/-- does a question hang on a table -/
def kUse (Q : kAq) (q t : Nat) : Prop := ∃ j, j < (qNd Q q).length ∧ (kNx Q q j).1 = 0 ∧ (kNx Q q j).2.1 = t
theorem kSV_use {Q : kAq} {c q : Nat} (wq : kWq c Q) (hq : q < qQ Q) {T T' : Nat → Nat → Int32} (hT : ∀ t r, kUse Q q t → r < 256 → T t r = T' t r) : ∀ k, k < (qNd Q q).length → ∀ r, r < 256 → kSV (qKy Q) T (qSh Q q k) r = kSV (qKy Q) T' (qSh Q q k) r := by
  intro k
  induction k using Nat.strongRecOn with
  | ind k ih =>
    intro hk r hr
    rw [kSV_nd wq hq hk hr, kSV_nd wq hq hk hr]
    obtain ⟨x, hx⟩ := kls_at hk
    have ex := kNx_some hx
    obtain ⟨⟨n1, n2, n3, n4, -⟩, -⟩ := (wq.2.2.2.2 q hq).2.1 k x hx
    rw [Nat.zero_add] at n3 n4
    by_cases z : (kNx Q q k).1 = 0
    · rw [if_pos z, if_pos z]
      exact hT _ r ⟨k, hk, z, rfl⟩ hr
    · rw [if_neg z, if_neg z]
      rw [ex] at z ⊢
      refine kv_op_cg _ r (fun _ _ _ _ _ => rfl) (fun y hy => ih _ (n3 (by omega)) (by have := n3 (by omega); omega) y hy) (fun z9 y hy => ih _ (n4 z9.1 z9.2) (by have := n4 z9.1 z9.2; omega) y hy) hr
theorem kv_mark_cg (op : Nat) {l l' : Nat → Int32} (hl : ∀ y, y < 16 → l y = l' y) : kv_mark op l = kv_mark op l' := by
  unfold kv_mark
  rw [kp_sum_cg (f := l) (f' := l') 16 hl, kp_sum_cg (f := fun b => kp_b (0 < l b)) (f' := fun b => kp_b (0 < l' b)) 16 (fun b hb => by show kp_b (0 < l b) = kp_b (0 < l' b); rw [hl b hb]), kp_sum_cg (f := fun b => nI b * l b) (f' := fun b => nI b * l' b) 16 (fun b hb => by show nI b * l b = nI b * l' b; rw [hl b hb])]
  have hq : ∀ z, kv_nth (fun b => decide (0 < l b)) z 16 0 0 = kv_nth (fun b => decide (0 < l' b)) z 16 0 0 := fun z => kv_nth_cg z 16 0 0 (fun b _ hb => by show decide (0 < l b) = decide (0 < l' b); rw [hl b (by omega)])
  rw [hq, hq, hq]
theorem kv_meet_bt {A : Nat → Int32} {s : Int32} : ∀ n, n ≤ 256 → ∀ k, k < n → bt (kv_meet A s n) (k / 16) = false → ¬ A k = 0 → bt s (k % 16) = false
  | 0, _, k, hk, _, _ => absurd hk (Nat.not_lt_zero k)
  | n + 1, hn, k, hk, h, hA => by
    have h' : bt (kv_meet A s n ||| (if ¬ A n = 0 ∧ bt s (n % 16) = true then (1 : Int32) <<< (nI (n / 16) &&& 31) else 0)) (k / 16) = false := h
    rw [b_or, Bool.or_eq_false_iff] at h'
    rcases Nat.lt_or_ge k n with c | c
    · exact kv_meet_bt n (by omega) k c h'.1 hA
    · have e : k = n := by omega
      subst e
      cases hb : bt s (k % 16) with
      | false => rfl
      | true =>
        have h2 := h'.2
        rw [if_pos ⟨hA, hb⟩, b_one (by omega) (by omega), decide_eq_true rfl] at h2
        cases h2
theorem kv_am_bt {ls : Int32} {old : Nat → Int32} {V : Nat → Nat → Int32} : ∀ n, n ≤ 16 → ∀ a, a < n → bt (kv_am ls old V n) a = false → bt ls a = true → ∀ b, b < 16 → old (16 * a + b) = V a b
  | 0, _, a, ha, _, _ => absurd ha (Nat.not_lt_zero a)
  | n + 1, hn, a, ha, h, hl => by
    have h' : bt (kv_am ls old V n ||| (if bt ls n = true ∧ ¬ kv_alt (fun b => old (16 * n + b)) (V n) 16 = 0 then (1 : Int32) <<< (nI n &&& 31) else 0)) a = false := h
    rw [b_or, Bool.or_eq_false_iff] at h'
    rcases Nat.lt_or_ge a n with c | c
    · exact kv_am_bt n (by omega) a c h'.1 hl
    · have e : a = n := by omega
      subst e
      have hz : kv_alt (fun b => old (16 * a + b)) (V a) 16 = 0 := by
        refine Classical.byContradiction fun z => ?_
        have h2 := h'.2
        rw [if_pos ⟨hl, z⟩, b_one (by omega) (by omega), decide_eq_true rfl] at h2
        cases h2
      exact (kv_alt_0 _ _ 16).mp hz
/-- lines that aren't tried are as they were -/
theorem kv_op_ln {op : Nat} (h1 : 1 ≤ op) (h13 : op ≤ 13) {H A B A' B' : Nat → Int32} {f s ls : Int32} (hf : ∀ a, a < 16 → bt f a = false → ∀ b, b < 16 → A (16 * a + b) = A' (16 * a + b)) (hs : (9 ≤ op ∧ op ≤ 12) → ∀ a, a < 16 → bt s a = false → ∀ b, b < 16 → B (16 * a + b) = B' (16 * a + b)) (hls : ls = if op = 1 ∨ op = 8 then (if f = 0 then 0 else 65535) else if op = 9 then f ||| kv_meet A' s 256 else f ||| s) {r : Nat} (hr : r < 256) (hl : bt ls (r / 16) = false) : kv_op op H A B (r / 16) (r % 16) = kv_op op H A' B' (r / 16) (r % 16) := by
  by_cases c1 : op = 1 ∨ op = 8
  · rw [if_pos c1] at hls
    have hf0 : f = 0 := by
      refine Classical.byContradiction fun z => ?_
      rw [if_neg z] at hls
      rw [hls, b_65535, decide_eq_true (by omega)] at hl
      cases hl
    refine kv_op_cg op r (fun _ _ _ _ _ => rfl) (fun x hx => ?_) (fun z => by omega) hr
    have := hf (x / 16) (by omega) (by rw [hf0]; exact b_0 _) (x % 16) (by omega)
    rw [kn_16] at this
    exact this
  · rw [if_neg c1] at hls
    by_cases c2 : op = 9
    · rw [if_pos c2] at hls
      rw [hls, b_or, Bool.or_eq_false_iff] at hl
      rw [kv_opJ c2, kv_opJ c2]
      unfold kv_join kv_jn
      refine kp_sum_cg 16 (fun y hy => ?_)
      rw [hf (r / 16) (by omega) hl.1 y hy]
      by_cases z : A' (16 * (r / 16) + y) = 0
      · rw [z, Int32.zero_mul, Int32.zero_mul]
      · have := kv_meet_bt (A := A') (s := s) 256 (Nat.le_refl _) (16 * (r / 16) + y) (by omega) (by rw [show (16 * (r / 16) + y) / 16 = r / 16 by omega]; exact hl.2) z
        rw [show (16 * (r / 16) + y) % 16 = y by omega] at this
        rw [hs (by omega) y hy this (r % 16) (by omega)]
    · rw [if_neg c2] at hls
      rw [hls, b_or, Bool.or_eq_false_iff] at hl
      have hA := hf (r / 16) (by omega) hl.1
      by_cases c3 : op = 10 ∨ op = 11 ∨ op = 12
      · rw [kv_opP c3, kv_opP c3]
        unfold kv_put
        rw [hA _ (by omega), hs (by omega) (r / 16) (by omega) hl.2 _ (by omega)]
      · by_cases c4 : 3 ≤ op ∧ op ≤ 7
        · rw [kv_opM c4, kv_opM c4, kv_mark_cg op hA]
        · rcases (by omega : op = 2 ∨ op = 13) with z | z
          · rw [kv_opT (Or.inr (Or.inl z)), kv_opT (Or.inr (Or.inl z)), kv_take2 z, kv_take2 z, hA _ (by omega)]
          · rw [kv_opT (Or.inr (Or.inr z)), kv_opT (Or.inr (Or.inr z)), kv_take3 z, kv_take3 z, hA _ (by omega)]
/-- what a trial leaves as it was -/
def kTf (Q : kAq) (sb qb : Nat → Nat) (h h' : ka_H) : Prop := h'.1 = h.1 ∧ h'.2.1 = h.2.1 ∧ (∀ a, ka_K h' a = ka_K h a) ∧ (∀ a, ka_P h' a = ka_P h a) ∧ (∀ a, a < 103 → a ≠ 65 → a ≠ 66 → ka_I h' a = ka_I h a) ∧ (∀ s, s < qN Q → (∀ k, k ≠ 13 → ka_I h' (sb s) k = ka_I h (sb s) k) ∧ ka_I h' (sb s + 1) = ka_I h (sb s + 1) ∧ ka_I h' (sb s + 2) = ka_I h (sb s + 2) ∧ ka_I h' (sb s + 4) = ka_I h (sb s + 4)) ∧ ∀ q, q < qQ Q → ∀ a, qb q ≤ a → a < qb q + 4 → ka_I h' a = ka_I h a
section TF
variable {g : Nat × (Nat → Int32)} {d : Nat} {h h' h'' : ka_H} {R : ka_R → ka_H → Prop} {L : kAl} {Q : kAq} {sb qb st : Nat → Nat} {s q : Nat}
theorem kTf.rfl' : kTf Q sb qb h h := ⟨rfl, rfl, fun _ => rfl, fun _ => rfl, fun _ _ _ _ => rfl, fun _ _ => ⟨fun _ _ => rfl, rfl, rfl, rfl⟩, fun _ _ _ _ _ => rfl⟩
theorem kTf.tr (a : kTf Q sb qb h h') (b : kTf Q sb qb h' h'') : kTf Q sb qb h h'' := ⟨b.1.trans a.1, b.2.1.trans a.2.1, fun x => (b.2.2.1 x).trans (a.2.2.1 x), fun x => (b.2.2.2.1 x).trans (a.2.2.2.1 x), fun x h1 h2 h3 => (b.2.2.2.2.1 x h1 h2 h3).trans (a.2.2.2.2.1 x h1 h2 h3), fun s hs => ⟨fun k hk => ((b.2.2.2.2.2.1 s hs).1 k hk).trans ((a.2.2.2.2.2.1 s hs).1 k hk), (b.2.2.2.2.2.1 s hs).2.1.trans (a.2.2.2.2.2.1 s hs).2.1, (b.2.2.2.2.2.1 s hs).2.2.1.trans (a.2.2.2.2.2.1 s hs).2.2.1, (b.2.2.2.2.2.1 s hs).2.2.2.trans (a.2.2.2.2.2.1 s hs).2.2.2⟩, fun q hq x h1 h2 => (b.2.2.2.2.2.2 q hq x h1 h2).trans (a.2.2.2.2.2.2 q hq x h1 h2)⟩
theorem kTf.bf (a : kTf Q sb qb h h') : kBf h h' := ⟨a.1, a.2.1, a.2.2.1, a.2.2.2.1, a.2.2.2.2.1⟩
theorem kTf.cq (a : kTf Q sb qb h h') (w : kcq L Q sb qb st h) : kcq L Q sb qb st h' := by
  obtain ⟨w1, w2, w3, w4, w5, w6, w7, w8⟩ := w
  obtain ⟨a1, a2, a3, a4, a5, a6, a7⟩ := a
  refine ⟨?_, ?_, w3, ?_, fun s hs => ?_, ?_, fun q hq => ?_, w8⟩
  · rw [a5 1 (by omega) (by omega) (by omega)]; exact w1
  · rw [a5 64 (by omega) (by omega) (by omega)]; exact w2
  · rw [a4 68]; exact w4
  · obtain ⟨y1, y2, y3, y4, y5, y6⟩ := w5 s hs
    obtain ⟨b1, b2, b3, b4⟩ := a6 s hs
    refine ⟨y1.st (by omega) (fun x _ => a3 x) (a4 _) (fun k hk => b1 k (by omega)) b2 b4 rfl rfl, fun z => (b1 10 (by omega)).trans (y2 z), (b1 11 (by omega)).trans y3, (b1 12 (by omega)).trans y4, y5, fun r hr => by rw [b3]; exact y6 r hr⟩
  · rw [a4 69]; exact w6
  · exact (w7 q hq).st2 a1 a3 (fun x _ _ => a4 x) (fun x h1 h2 => a7 q hq x h1 h2)
/-- a step of a trial changes one shelf alone -/
def kTs (Q : kAq) (sb qb : Nat → Nat) (s : Nat) (h h' : ka_H) : Prop := kTf Q sb qb h h' ∧ ∀ s', s' < qN Q → s' ≠ s → ka_I h' (sb s' + 3) = ka_I h (sb s' + 3) ∧ ka_I h' (sb s') 13 = ka_I h (sb s') 13
theorem kTs.tr (a : kTs Q sb qb s h h') (b : kTs Q sb qb s h' h'') : kTs Q sb qb s h h'' := ⟨a.1.tr b.1, fun s' h1 h2 => ⟨(b.2 s' h1 h2).1.trans (a.2 s' h1 h2).1, (b.2 s' h1 h2).2.trans (a.2 s' h1 h2).2⟩⟩
theorem kTs.of (w : kcq L Q sb qb st h) (hs : s < qN Q) (e1 : h'.1 = h.1) (e2 : h'.2.1 = h.2.1) (eK : ∀ a, ka_K h' a = ka_K h a) (eP : ∀ a, ka_P h' a = ka_P h a) (eI : ∀ a, a ≠ 65 → a ≠ 66 → a ≠ sb s → a ≠ sb s + 3 → ka_I h' a = ka_I h a) (eO : ∀ k, k ≠ 13 → ka_I h' (sb s) k = ka_I h (sb s) k) : kTs Q sb qb s h h' := by
  have hb := (w.2.2.1.1 s hs).1
  refine ⟨⟨e1, e2, eK, eP, fun a a1 a2 a3 => eI a a2 a3 (by omega) (by omega), fun s' hs' => ?_, fun q hq a a1 a2 => ?_⟩, fun s' hs' hne => ?_⟩
  · have hb' := (w.2.2.1.1 s' hs').1
    by_cases z : s' = s
    · subst z
      exact ⟨eO, eI _ (by omega) (by omega) (by omega) (by omega), eI _ (by omega) (by omega) (by omega) (by omega), eI _ (by omega) (by omega) (by omega) (by omega)⟩
    · have := w.2.2.1.ne hs hs' z
      exact ⟨fun k _ => by rw [eI (sb s') (by omega) (by omega) (by omega) (by omega)], eI _ (by omega) (by omega) (by omega) (by omega), eI _ (by omega) (by omega) (by omega) (by omega), eI _ (by omega) (by omega) (by omega) (by omega)⟩
  · have := (w.2.2.2.2.2.2.1 q hq).2.2.1 s hs
    have := (w.2.2.2.2.2.2.1 q hq).1.1
    exact eI a (by omega) (by omega) (by omega) (by omega)
  · have hb' := (w.2.2.1.1 s' hs').1
    have := w.2.2.1.ne hs hs' hne
    exact ⟨eI _ (by omega) (by omega) (by omega) (by omega), by rw [eI (sb s') (by omega) (by omega) (by omega) (by omega)]⟩
/-- the tried counts of a question's nodes are those that the tables T give -/
def kTI (Q : kAq) (sb : Nat → Nat) (q : Nat) (T : Nat → Nat → Int32) (h : ka_H) : Prop := ∀ j, j < (qNd Q q).length → ∀ r, r < 256 → ka_I h (sb (qSh Q q j) + 3) r = kSV (qKy Q) T (qSh Q q j) r
theorem kTI.use {c : Nat} {T T' : Nat → Nat → Int32} (wq : kWq c Q) (hq : q < qQ Q) (i : kTI Q sb q T h) (hT : ∀ t r, kUse Q q t → r < 256 → T t r = T' t r) : kTI Q sb q T' h := fun j hj r hr => (i j hj r hr).trans (kSV_use wq hq hT j hj r hr)
theorem kc_beginTrial {c m : Nat} {ed : Int32} (hf : kf g h) (hl : kcl L h) (wl : kWl L) (w : kcq L Q sb qb st h) (wq : kWq c Q) (hq : q < qQ Q) (hm : kl_end h (lNn L) (lC L) ed = nI m) (hmz : m ≤ lZ L)
    (e : ∀ h' st', kf g h' → kBf h h' → kcq L Q sb qb st' h' → (∀ j, j < (qNd Q q).length → kAt1 L Q sb m h' (qSh Q q j)) → kTI Q sb q (lT L m) h' → R (.inl none) h') : kp_T (d + 6) 139 [.ref 1, .ref (qb q), .int ed] h R := by
  have wk := fun s hs => (wq.2.2.2.1 s hs).1
  have h12 := (wq.2.2.2.2 q hq).1.2
  have main : ∀ p i, i + p = (qNd Q q).length → ∀ h' st' z, kf g h' → kBf h h' → kcq L Q sb qb st' h' → (∀ j, j < i → kAt1 L Q sb m h' (qSh Q q j) ∧ ∀ r, r < 256 → ka_I h' (sb (qSh Q q j) + 3) r = kSV (qKy Q) (lT L m) (qSh Q q j) r) → kd_ex g (d + 5) 139 R 2 [.ref 1, .ref (qb q), .int ed, .int (nI i), z] [] h' := by
    intro p
    induction p with
    | zero =>
      intro i hi h' st' z f1 f2 f3 f4
      have hQ := (f3.2.2.2.2.2.2.1 q hq).1
      have hKb : (ka_K h' (qb q)).1 = 4 := by rw [hQ.2.2.1]
      refine kd_seg (fun p => Nat.beq p 2) 20 ⟨hKb, ?_⟩
      rw [hQ.2.2.2.2.2.2.2.2.2.1]
      exact ⟨fun _ => e h' st' f1 f2 f3 (fun j hj => (f4 j (by omega)).1) (fun j hj => (f4 j (by omega)).2), fun y => absurd y (nI_nlt (by omega) (by omega))⟩
    | succ p ih =>
      intro i hi h' st' z f1 f2 f3 f4
      have hQ := (f3.2.2.2.2.2.2.1 q hq).1
      have hKb : (ka_K h' (qb q)).1 = 4 := by rw [hQ.2.2.1]
      obtain ⟨y, hy⟩ := kls_at (l := qNd Q q) (k := i) (by omega)
      obtain ⟨hP, hs, cs, -⟩ := f3.nd wq hq (k := i) (by omega)
      have hky := ((wq.2.2.2.2 q hq).2.2 i y hy).2
      obtain ⟨⟨b1, b2, b3, b4, -⟩, -⟩ := (wq.2.2.2.2 q hq).2.1 i y hy
      rw [Nat.zero_add] at b3 b4
      refine kd_seg (fun p => Nat.beq p 2) 40 ⟨hKb, ?_⟩
      rw [hQ.2.2.2.2.2.2.2.2.2.1]
      refine ⟨fun y => absurd (nI_lt (by omega) (by omega)) y, fun _ => ⟨hKb, ?_⟩⟩
      refine kc_qat1 f1 hQ (by omega) ⟨f1, ⟨fun y => absurd y (by rw [hP]; exact cs.ne), fun _ => ⟨kK f1 rfl rfl, ?_⟩⟩⟩
      rw [hP]
      refine kc_bringTo f1 (f2.cl hl) wl f3 wk hs (by rw [f2.end]; exact hm) hmz (fun u => ?_) (fun u1 u2 => ?_) (fun h2 st2 g1 g2 g3 g4 g5 g6 => ⟨g1, ?_⟩)
      · have u' : y.1 ≠ 0 := fun z => u (by rw [hky]; exact z)
        have : (qKy Q (qSh Q q i)).2.2.1 = qSh Q q y.2.2.1 + 1 := by rw [hky]; exact if_neg u'
        rw [this, Nat.add_sub_cancel]
        exact (f4 _ (b3 (by omega))).1
      · have e1 : (qKy Q (qSh Q q i)).1 = y.1 := by rw [hky]; rfl
        rw [e1] at u1 u2
        have : (qKy Q (qSh Q q i)).2.2.2.1 = qSh Q q y.2.2.2.1 + 1 := by rw [hky]; exact if_pos ⟨u1, u2⟩
        rw [this, Nat.add_sub_cancel]
        exact (f4 _ (b4 u1 u2)).1
      · have cs2 := g4.2.2.2.2.1 _ hs
        obtain ⟨cb, ⟨q1, q2, q3, q4, q5⟩, ⟨p1, p2, p3, p4, p5, p6, p7⟩, -, -, -⟩ := cs2.1
        have kr2 : kr h2 (sb (qSh Q q i) + 2) 256 := ⟨by rw [q3], by rw [q3]⟩
        have kr3 : kr h2 (sb (qSh Q q i) + 3) 256 := ⟨by rw [q4], by rw [q4]⟩
        refine ⟨cs2.K, ⟨cs2.K, ?_⟩⟩
        rw [show kq_p h2 (sb (qSh Q q i)) 8 = _ from (kq_p_s g1 _ _).trans p6, show kq_p h2 (sb (qSh Q q i)) 9 = _ from (kq_p_s g1 _ _).trans p7]
        refine ⟨kr2.1, kr3.1, kcp_ok256 kr2 kr3, ?_⟩
        rw [show ((Int32.ofInt 0).toNatClampNeg) = 0 from rfl, show ((Int32.ofInt 256).toNatClampNeg) = 256 from rfl, ka_cpy256]
        have hF : ∀ r, r < 256 → kh_o (ka_I h2 (sb (qSh Q q i) + 3)) (ka_I h2 (sb (qSh Q q i) + 2)) 256 r = kSV (qKy Q) (lT L m) (qSh Q q i) r := fun r hr => by rw [kh_o_T _ _ hr]; exact g5 r hr
        generalize kh_o (ka_I h2 (sb (qSh Q q i) + 3)) (ka_I h2 (sb (qSh Q q i) + 2)) 256 = F at hF
        have tS : kTs Q sb qb (qSh Q q i) h2 (ka_sF h2 (sb (qSh Q q i) + 3) F) := kTs.of g4 hs rfl rfl (fun _ => rfl) (fun _ => rfl) (fun a _ _ _ a4 => ka_I_Fn _ _ a4) (fun k _ => by rw [ka_I_Fn _ _ (by omega)])
        have := ih (i + 1) (by omega) (ka_sF h2 (sb (qSh Q q i) + 3) F) st2 (.ref (sb (qSh Q q i))) (kf_sF g1 kr3.1) ((f2.tr g2).tr tS.1.bf) (tS.1.cq g4) (fun j hj => by
          have hsj := (f3.nd wq hq (k := j) (by omega)).2.1
          by_cases z : qSh Q q j = qSh Q q i
          · rw [z]
            refine ⟨fun r hr => ?_, fun r hr => ?_⟩
            · rw [(tS.1.2.2.2.2.2.1 _ hs).2.2.1]; exact g5 r hr
            · rw [ka_I_F]; exact hF r hr
          · have hji : j < i := by
              rcases Nat.lt_or_ge j i with u | u
              · exact u
              · exact absurd (by rw [show j = i by omega]) z
            refine ⟨fun r hr => ?_, fun r hr => ?_⟩
            · rw [(tS.1.2.2.2.2.2.1 _ hsj).2.2.1]; exact g6 _ hsj (f4 j hji).1 r hr
            · rw [(tS.2 _ hsj z).1, g3 _ hsj]; exact (f4 j hji).2 r hr)
        rw [nI_succ] at this
        exact this
  refine kd_in hf rfl rfl rfl (kd_seg (fun p => Nat.beq p 2) 10 ?_)
  exact main _ 0 (Nat.zero_add _) h st _ hf kBf.rfl' w (fun j hj => absurd hj (Nat.not_lt_zero j))
end TF
