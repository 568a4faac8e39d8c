/-! ===== the class reads: its tape and its words, over a heap with its reading state laid over it ===== -/
/-- what reading changes of the class -/
def pc (a k : Nat) : Bool := cond (Nat.beq a 9) (Nat.beq k 2 || Nat.beq k 3 || Nat.beq k 4) (cond (Nat.beq a 11) (Nat.beq k 3 || Nat.beq k 4) (cond (Nat.beq a 13) (Nat.beq k 5 || Nat.beq k 6) (Nat.ble 15 a && Nat.ble a 62)))
def pq (a f : Nat) : Bool := Nat.ble 39 a && Nat.ble a 61 && Nat.beq f 0
def kcs (h : ka_H) (s : Nat → Nat → Int32) (w : Nat → Nat) : ka_H := (h.1, h.2.1, h.2.2.1, fun a k => cond (pc a k) (s a k) (h.2.2.2.1 a k), fun a f => cond (pq a f) (w a) (h.2.2.2.2.1 a f), h.2.2.2.2.2)
theorem kcs_sI {h : ka_H} {s : Nat → Nat → Int32} {w : Nat → Nat} {a k : Nat} (v : Int32) (hp : pc a k = true) : ka_sI (kcs h s w) a k v = kcs h (ka_u s a k v) w := by
  refine Prod.ext rfl (Prod.ext rfl (Prod.ext rfl (Prod.ext ?_ rfl)))
  funext b j
  show ka_u (fun a k => cond (pc a k) (s a k) (h.2.2.2.1 a k)) a k v b j = cond (pc b j) (ka_u s a k v b j) (h.2.2.2.1 b j)
  by_cases e : b = a
  · by_cases e2 : j = k
    · rw [e, e2, ka_uS, ka_uS, hp]; rfl
    · rw [ka_uJ _ _ _ _ _ e2, ka_uJ _ _ _ _ _ e2]
  · rw [ka_uN _ _ _ _ e, ka_uN _ _ _ _ e]
theorem kcs_I {h : ka_H} {s : Nat → Nat → Int32} {w : Nat → Nat} {a k : Nat} (hp : pc a k = true) : ka_I (kcs h s w) a k = s a k := by
  show cond (pc a k) (s a k) (h.2.2.2.1 a k) = _
  rw [hp]; rfl
theorem kcs_N {h : ka_H} {s : Nat → Nat → Int32} {w : Nat → Nat} {a k : Nat} (hp : pc a k = false) : ka_I (kcs h s w) a k = ka_I h a k := by
  show cond (pc a k) (s a k) (h.2.2.2.1 a k) = _
  rw [hp]; rfl
theorem pc_st (i k : Nat) : pc (1000000 + i) k = false ∧ pq (1000000 + i) k = false := by
  have e2 : ∀ x, x < 1000 → Nat.ble (1000000 + i) x = false := fun x hx => by
    cases hb : Nat.ble (1000000 + i) x with
    | false => rfl
    | true => have := Nat.le_of_ble_eq_true hb; omega
  have e3 : ∀ x, x < 1000 → Nat.beq (1000000 + i) x = false := fun x hx => by
    cases hb : Nat.beq (1000000 + i) x with
    | false => rfl
    | true => have := Nat.eq_of_beq_eq_true hb; omega
  unfold pc pq
  rw [e3 9 (by omega), e3 11 (by omega), e3 13 (by omega), e2 62 (by omega), e2 61 (by omega)]
  simp
theorem pt_op : ∀ a, a < 62 → 39 ≤ a → Nat.beq (pt a 0) 0 = true := by decide
theorem kcs_f {g : Nat × (Nat → Int32)} {h : ka_H} {s : Nat → Nat → Int32} {w : Nat → Nat} (hf : kf g h) : kf g (kcs h s w) := by
  refine ⟨hf.1, hf.2.1, fun a f ha hc => ?_, fun i => ⟨(hf.2.2.2 i).1, fun j => ⟨?_, ?_⟩⟩⟩
  · rw [← hf.2.2.1 a f ha hc]
    show cond (pq a f) (w a) (h.2.2.2.2.1 a f) = _
    cases hb : pq a f with
    | false => rfl
    | true =>
      exfalso
      unfold pq at hb
      simp only [Bool.and_eq_true] at hb
      have h0 : f = 0 := Nat.eq_of_beq_eq_true hb.2
      rw [h0, pt_op a (by have := Nat.le_of_ble_eq_true hb.1.2; omega) (Nat.le_of_ble_eq_true hb.1.1)] at hc
      cases hc
  · rw [← ((hf.2.2.2 i).2 j).1]
    exact kcs_N (pc_st i j).1
  · rw [← ((hf.2.2.2 i).2 j).2]
    show cond (pq (1000000 + i) j) (w (1000000 + i)) (h.2.2.2.2.1 (1000000 + i) j) = _
    rw [(pc_st i j).2]; rfl
theorem kcs_0 (h : ka_H) : kcs h (ka_I h) (fun a => ka_P h a 0) = h := by
  refine Prod.ext rfl (Prod.ext rfl (Prod.ext rfl (Prod.ext ?_ (Prod.ext ?_ rfl))))
  · funext a k
    show cond (pc a k) (h.2.2.2.1 a k) (h.2.2.2.1 a k) = _
    cases pc a k <;> rfl
  · funext a f
    show cond (pq a f) (h.2.2.2.2.1 a 0) (h.2.2.2.2.1 a f) = _
    cases hb : pq a f with
    | false => rfl
    | true =>
      unfold pq at hb
      simp only [Bool.and_eq_true] at hb
      rw [Nat.eq_of_beq_eq_true hb.2]; rfl
/-- the text that the class reads -/
def kU (h : ka_H) (n : Nat) (tp : Nat → Int32) : Prop := ka_I h 9 5 = nI n ∧ n ≤ 200 ∧ (∀ k, k < n → ka_I h 10 k = tp k) ∧ ∀ k, k < n → ∃ c, c < 256 ∧ tp k = nI c
abbrev ct_at (s : Nat → Nat → Int32) (p : Nat) : Nat → Nat → Int32 := ka_u s 9 2 (nI p)
theorem ct_at_at (s : Nat → Nat → Int32) (p q : Nat) : ct_at (ct_at s p) q = ct_at s q := ka_u_u _ _ _ _ _
def ct_bad (s : Nat → Nat → Int32) (kd pl : Int32) : Nat → Nat → Int32 := ka_u (ka_u s 9 3 kd) 9 4 pl
/-- the words, by their bytes -/
def kt_wd (w : Nat) : List Nat := [[116], [102, 108, 105, 112], [111, 110, 101], [99, 111, 117, 110, 116], [115, 117, 109], [108, 101, 97, 115, 116], [109, 105, 100, 100, 108, 101], [109, 111, 115, 116], [108, 111, 111, 112], [106, 111, 105, 110], [97, 100, 100], [108, 101, 115, 115], [98, 111, 116, 104], [119, 104, 101, 114, 101], [111, 114], [97, 110, 100], [110, 111, 116], [97], [98]].getD w []
theorem kt_wd_l : ∀ w, w < 19 → (ka_words.getD w []).length = (kt_wd w).length ∧ 1 ≤ (kt_wd w).length ∧ (kt_wd w).length ≤ 6 := by decide
theorem kt_wd_c : ∀ w, w < 19 → ∀ j, j < 6 → ((((ka_words.getD w []).getD j 0 &&& 255).toUInt32 % 65536).toInt32 = nI ((kt_wd w).getD j 0)) ∧ narrow .char (.int (((ka_words.getD w []).getD j 0 &&& 255).toUInt32 % 65536).toInt32) = .int (((ka_words.getD w []).getD j 0 &&& 255).toUInt32 % 65536).toInt32 := by decide +kernel
section L5
variable {g : Nat × (Nat → Int32)} {d : Nat} {h : ka_H} {s : Nat → Nat → Int32} {w : Nat → Nat} {R : ka_R → ka_H → Prop} {n p : Nat} {tp : Nat → Int32}
theorem kcs_at (hp : s 9 2 = nI p) : kcs h (ct_at s p) w = kcs h s w := by rw [ct_at, ka_u_id hp]
theorem kcs_nx (h : ka_H) (s : Nat → Nat → Int32) (w : Nat → Nat) (q : Nat) : ka_sI (kcs h (ct_at s q) w) 9 2 (nI q + 1) = kcs h (ct_at s (q + 1)) w := by
  rw [kcs_sI _ rfl, ka_u_u, ← nI_succ]
theorem kc_skip (hf : kf g h) (hU : kU h n tp) (hp : s 9 2 = nI p) (hpn : p ≤ n) (e : R (kp_ri (nI (kt_s tp n p))) (kcs h (ct_at s (kt_s tp n p)) w)) : kp_T (d + 1) 50 [.ref 9] (kcs h s w) R := by
  obtain ⟨hn, h200, htp, -⟩ := hU
  have main : ∀ q, q ≤ n → R (kp_ri (nI (kt_s tp n q))) (kcs h (ct_at s (kt_s tp n q)) w) → kq_ex g d 50 R 0 [.ref 9] [] (kcs h (ct_at s q) w) := by
    refine kt_s_ind (tp := tp) (n := n) (fun q hq hqn e => ?_) (fun q hq ne hqn e => ?_) (fun q hq eq ih hqn e => ?_)
    · rw [kt_s_ge hq] at e
      refine kq_seg kp_no 20 ⟨fun _ => ⟨trivial, e⟩, fun c => ?_⟩
      rw [show ka_I (kcs h (ct_at s q) w) 9 5 = nI n from hn, show ka_I (kcs h (ct_at s q) w) 9 2 = nI q from rfl] at c
      exact absurd c (nI_nlt hq (by omega))
    · rw [kt_s_no ne] at e
      refine kq_seg kp_no 20 ⟨fun _ => ⟨trivial, e⟩, fun c => ⟨nI_in (N := 200) (by omega) (by omega), ?_⟩⟩
      rw [show ka_I (kcs h (ct_at s q) w) 9 2 = nI q from rfl, nI_clamp (by omega), show ka_I (kcs h (ct_at s q) w) (kq_p (kcs h (ct_at s q) w) 9 0) q = tp q from htp q hq]
      exact ⟨fun _ => ⟨trivial, e⟩, fun c => absurd c ne⟩
    · rw [kt_s_st hq eq] at e
      refine kq_seg (fun p => Nat.beq p 0) 20 ⟨fun c => ?_, fun c => ⟨nI_in (N := 200) (by omega) (by omega), ?_⟩⟩
      · rw [show ka_I (kcs h (ct_at s q) w) 9 5 = nI n from hn, show ka_I (kcs h (ct_at s q) w) 9 2 = nI q from rfl] at c
        exact absurd (nI_lt hq (by omega)) c
      · rw [show ka_I (kcs h (ct_at s q) w) 9 2 = nI q from rfl, nI_clamp (by omega), show ka_I (kcs h (ct_at s q) w) (kq_p (kcs h (ct_at s q) w) 9 0) q = tp q from htp q hq]
        refine ⟨fun c => absurd eq c, fun _ => ?_⟩
        have := ih (by omega) e
        rw [← kcs_nx] at this
        exact this
  have := main p hpn e
  rw [kcs_at hp] at this
  exact kq_in (kcs_f hf) rfl rfl rfl this
theorem kc_fail (hf : kf g h) {kd pl : Int32} (e : R (kp_ri 0) (kcs h (ct_bad s kd pl) w)) : kp_T (d + 1) 49 [.ref 9, .int kd, .int pl] (kcs h s w) R := by
  have ew : ka_sI (ka_sI (kcs h s w) 9 3 kd) 9 4 pl = kcs h (ct_bad s kd pl) w := by
    rw [kcs_sI kd rfl, kcs_sI pl rfl]
    rfl
  rw [← ew] at e
  exact kq_in (kcs_f hf) rfl rfl rfl (kq_seg kp_no 14 ⟨Or.inl rfl, e⟩)
theorem kc_takeEnd (hf : kf g h) (hU : kU h n tp) (hp : s 9 2 = nI p) (hpn : p ≤ n) (e1 : kt_s tp n p = n → R (kp_ri 1) (kcs h (ct_at s (kt_s tp n p)) w)) (e2 : kt_s tp n p < n → R (kp_ri 0) (kcs h (ct_bad (ct_at s (kt_s tp n p)) 1 (nI (kt_s tp n p))) w)) : kp_T (d + 2) 51 [.ref 9] (kcs h s w) R := by
  have hle := kt_s_le tp n p hpn
  have h200 := hU.2.1
  refine kq_in (kcs_f hf) rfl rfl rfl (kq_seg kp_no 20 ?_)
  refine kc_skip hf hU hp hpn ⟨kcs_f hf, ⟨fun c => ?_, fun c => ?_⟩⟩
  · rw [show ka_I (kcs h (ct_at s (kt_s tp n p)) w) 9 5 = nI n from hU.1] at c
    have : kt_s tp n p = n := by
      rcases Nat.lt_or_ge (kt_s tp n p) n with z | z
      · exact absurd (nI_lt z (by omega)) c
      · omega
    exact ⟨Or.inr rfl, e1 this⟩
  · rw [show ka_I (kcs h (ct_at s (kt_s tp n p)) w) 9 5 = nI n from hU.1] at c
    refine kc_fail hf ⟨kcs_f hf, ?_⟩
    exact ⟨fun _ => ⟨Or.inl rfl, e2 ((nI_ltI (by omega) (by omega)).mp c)⟩, fun c => absurd rfl c⟩
theorem kc_isSign (hf : kf g h) (hU : kU h n tp) (hp : s 9 2 = nI p) (hpn : p ≤ n) {c : Int32} (e1 : kt_s tp n p < n ∧ tp (kt_s tp n p) = c → R (kp_ri 1) (kcs h (ct_at s (kt_s tp n p)) w)) (e2 : ¬ (kt_s tp n p < n ∧ tp (kt_s tp n p) = c) → R (kp_ri 0) (kcs h (ct_at s (kt_s tp n p)) w)) : kp_T (d + 2) 52 [.ref 9, .int c] (kcs h s w) R := by
  have hle := kt_s_le tp n p hpn
  have h200 := hU.2.1
  generalize hq : kt_s tp n p = q at e1 e2 hle
  refine kq_in (kcs_f hf) rfl rfl rfl (kq_seg kp_no 20 ?_)
  refine kc_skip hf hU hp hpn ?_
  rw [hq]
  refine ⟨kcs_f hf, ⟨fun z => ?_, fun z => ?_⟩⟩
  · rw [show ka_I (kcs h (ct_at s q) w) 9 5 = nI n from hU.1, show ka_I (kcs h (ct_at s q) w) 9 2 = nI q from rfl] at z
    exact ⟨Or.inl rfl, e2 (fun y => z (nI_lt y.1 (by omega)))⟩
  · rw [show ka_I (kcs h (ct_at s q) w) 9 5 = nI n from hU.1, show ka_I (kcs h (ct_at s q) w) 9 2 = nI q from rfl] at z
    have hqn : q < n := (nI_ltI (by omega) (by omega)).mp z
    refine ⟨nI_in (N := 200) (by omega) (by omega), ?_⟩
    rw [show ka_I (kcs h (ct_at s q) w) 9 2 = nI q from rfl, nI_clamp (by omega), show ka_I (kcs h (ct_at s q) w) (kq_p (kcs h (ct_at s q) w) 9 0) q = tp q from hU.2.2.1 q hqn]
    exact ⟨fun y => ⟨Or.inl rfl, e2 (fun x => y x.2)⟩, fun y => ⟨Or.inr rfl, e1 ⟨hqn, y⟩⟩⟩
theorem kc_takeSign (hf : kf g h) (hU : kU h n tp) (hp : s 9 2 = nI p) (hpn : p ≤ n) {c : Int32} (e1 : kt_s tp n p < n → tp (kt_s tp n p) = c → R (kp_ri 1) (kcs h (ct_at s (kt_s tp n p + 1)) w)) (e2 : ¬ (kt_s tp n p < n ∧ tp (kt_s tp n p) = c) → R (kp_ri 0) (kcs h (ct_bad (ct_at s (kt_s tp n p)) 1 (nI (kt_s tp n p))) w)) : kp_T (d + 2) 53 [.ref 9, .int c] (kcs h s w) R := by
  have hle := kt_s_le tp n p hpn
  have h200 := hU.2.1
  generalize hq : kt_s tp n p = q at e1 e2 hle
  have j29 : ¬ (q < n ∧ tp q = c) → kq_ex g (d + 1) 53 R 29 [.ref 9, .int c] [] (kcs h (ct_at s q) w) := fun z => kq_seg kp_no 10 (kc_fail hf ⟨kcs_f hf, ⟨Or.inl rfl, e2 z⟩⟩)
  refine kq_in (kcs_f hf) rfl rfl rfl (kq_seg (fun p => Nat.beq p 29) 30 ?_)
  refine kc_skip hf hU hp hpn ?_
  rw [hq]
  refine ⟨kcs_f hf, ⟨fun z => ?_, fun z => ?_⟩⟩
  · rw [show ka_I (kcs h (ct_at s q) w) 9 5 = nI n from hU.1, show ka_I (kcs h (ct_at s q) w) 9 2 = nI q from rfl] at z
    exact j29 (fun y => z (nI_lt y.1 (by omega)))
  · rw [show ka_I (kcs h (ct_at s q) w) 9 5 = nI n from hU.1, show ka_I (kcs h (ct_at s q) w) 9 2 = nI q from rfl] at z
    have hqn : q < n := (nI_ltI (by omega) (by omega)).mp z
    refine ⟨nI_in (N := 200) (by omega) (by omega), ?_⟩
    rw [show ka_I (kcs h (ct_at s q) w) 9 2 = nI q from rfl, nI_clamp (by omega), show ka_I (kcs h (ct_at s q) w) (kq_p (kcs h (ct_at s q) w) 9 0) q = tp q from hU.2.2.1 q hqn]
    refine ⟨fun y => ?_, fun y => j29 (fun x => y x.2)⟩
    have := e1 hqn y
    rw [← kcs_nx] at this
    exact ⟨Or.inr rfl, this⟩
def kt_bw (lo hi c : Int32) : Bool := decide (lo ≤ c ∧ c ≤ hi)
theorem kc_run (hf : kf g h) (hU : kU h n tp) (hp : s 9 2 = nI p) (hpn : p ≤ n) {lo hi : Int32} (e : R (kp_ri (nI (kt_r (kt_bw lo hi) tp n p))) (kcs h s w)) : kp_T (d + 1) 54 [.ref 9, .int lo, .int hi] (kcs h s w) R := by
  obtain ⟨hn, h200, htp, -⟩ := hU
  have hle := kt_r_le (kt_bw lo hi) tp n p hpn
  have j39 : ∀ L, L = kt_r (kt_bw lo hi) tp n p → kq_ex g d 54 R 39 [.ref 9, .int lo, .int hi, .int (nI (p + L))] [] (kcs h s w) := fun L hL => by
    refine kq_seg kp_no 10 ⟨trivial, ?_⟩
    have hv : nI (p + L) - nI p = nI (kt_r (kt_bw lo hi) tp n p) := by rw [nI_sub (by omega), Nat.add_sub_cancel_left, hL]
    rw [← hv, ← hp] at e
    exact e
  have main : ∀ k L, p + L = k → k ≤ n → L + kt_r (kt_bw lo hi) tp n k = kt_r (kt_bw lo hi) tp n p → kq_ex g d 54 R 5 [.ref 9, .int lo, .int hi, .int (nI k)] [] (kcs h s w) := by
    refine kt_r_ind (q := kt_bw lo hi) (tp := tp) (n := n) (fun k hk L hL hkn hr => ?_) (fun k hk ne L hL hkn hr => ?_) (fun k hk eq ih L hL hkn hr => ?_)
    · rw [kt_r_ge hk, Nat.add_zero] at hr
      refine kq_seg (fun p => Nat.beq p 39) 20 ⟨fun _ => by rw [← hL]; exact j39 L hr, fun c => ?_⟩
      rw [show ka_I (kcs h s w) 9 5 = nI n from hn] at c
      exact absurd c (nI_nlt hk (by omega))
    · rw [kt_r_no ne, Nat.add_zero] at hr
      refine kq_seg (fun p => Nat.beq p 39) 30 ⟨fun _ => by rw [← hL]; exact j39 L hr, fun c => ⟨nI_in (N := 200) (by omega) (by omega), ?_⟩⟩
      rw [nI_clamp (by omega), show ka_I (kcs h s w) (kq_p (kcs h s w) 9 0) k = tp k from htp k hk]
      refine ⟨fun _ => by rw [← hL]; exact j39 L hr, fun c1 => ⟨nI_in (N := 200) (by omega) (by omega), ?_⟩⟩
      rw [nI_clamp (by omega), show ka_I (kcs h s w) (kq_p (kcs h s w) 9 0) k = tp k from htp k hk]
      refine ⟨fun _ => by rw [← hL]; exact j39 L hr, fun c2 => absurd ?_ ne⟩
      unfold kt_bw
      simp only [decide_eq_true_eq]
      exact ⟨Int32.not_lt.mp c1, Int32.not_lt.mp c2⟩
    · rw [kt_r_st hk eq, ← Nat.add_assoc, Nat.add_right_comm] at hr
      have hb : lo ≤ tp k ∧ tp k ≤ hi := by
        unfold kt_bw at eq
        simpa using eq
      refine kq_seg (fun p => Nat.beq p 5) 30 ⟨fun c => ?_, fun c => ⟨nI_in (N := 200) (by omega) (by omega), ?_⟩⟩
      · rw [show ka_I (kcs h s w) 9 5 = nI n from hn] at c
        exact absurd (nI_lt hk (by omega)) c
      · rw [nI_clamp (by omega), show ka_I (kcs h s w) (kq_p (kcs h s w) 9 0) k = tp k from htp k hk]
        refine ⟨fun c => absurd c (Int32.not_lt.mpr hb.1), fun _ => ⟨nI_in (N := 200) (by omega) (by omega), ?_⟩⟩
        rw [nI_clamp (by omega), show ka_I (kcs h s w) (kq_p (kcs h s w) 9 0) k = tp k from htp k hk]
        refine ⟨fun c => absurd c (Int32.not_lt.mpr hb.2), fun _ => ?_⟩
        have := ih (L + 1) (by omega) (by omega) hr
        rw [nI_succ] at this
        exact this
  refine kq_in (kcs_f hf) rfl rfl rfl (kq_seg (fun p => Nat.beq p 5) 6 ?_)
  have := main p 0 (by omega) hpn (by omega)
  rw [← hp] at this
  exact this
theorem kc_digits (hf : kf g h) (hU : kU h n tp) (hp : s 9 2 = nI p) (hpn : p ≤ n) (e : R (kp_ri (nI (kt_r kt_dg tp n p))) (kcs h s w)) : kp_T (d + 2) 55 [.ref 9] (kcs h s w) R :=
  kq_in (kcs_f hf) rfl rfl rfl (kq_seg kp_no 10 (kc_run (lo := 48) (hi := 57) hf hU hp hpn ⟨kcs_f hf, ⟨trivial, e⟩⟩))
theorem kc_takeNumber (hf : kf g h) (hU : kU h n tp) (hp : s 9 2 = nI p) (hpn : p ≤ n) (e : R (kp_ri (nI (kt_nn tp p (kt_r kt_dg tp n p)))) (kcs h (ct_at s (p + kt_r kt_dg tp n p)) w)) : kp_T (d + 2) 57 [.ref 9] (kcs h s w) R := by
  obtain ⟨hn, h200, htp, -⟩ := hU
  have main : ∀ k L, p + L = k → k ≤ n → R (kp_ri (nI (kt_nn tp p (L + kt_r kt_dg tp n k)))) (kcs h (ct_at s (k + kt_r kt_dg tp n k)) w) → kq_ex g (d + 1) 57 R 2 [.ref 9, .int (nI (kt_nn tp p L))] [] (kcs h (ct_at s k) w) := by
    refine kt_r_ind (q := kt_dg) (tp := tp) (n := n) (fun k hk L hL hkn e => ?_) (fun k hk ne L hL hkn e => ?_) (fun k hk eq ih L hL hkn e => ?_)
    · rw [kt_r_ge hk] at e
      refine kq_seg kp_no 20 ⟨fun _ => ⟨trivial, e⟩, fun c => ?_⟩
      rw [show ka_I (kcs h (ct_at s k) w) 9 5 = nI n from hn, show ka_I (kcs h (ct_at s k) w) 9 2 = nI k from rfl] at c
      exact absurd c (nI_nlt hk (by omega))
    · rw [kt_r_no ne] at e
      refine kq_seg kp_no 30 ⟨fun _ => ⟨trivial, e⟩, fun c => ⟨nI_in (N := 200) (by omega) (by omega), ?_⟩⟩
      rw [show ka_I (kcs h (ct_at s k) w) 9 2 = nI k from rfl, nI_clamp (by omega), show ka_I (kcs h (ct_at s k) w) (kq_p (kcs h (ct_at s k) w) 9 0) k = tp k from htp k hk]
      refine ⟨fun _ => ⟨trivial, e⟩, fun c1 => ⟨nI_in (N := 200) (by omega) (by omega), ?_⟩⟩
      rw [show ka_I (kcs h (ct_at s k) w) 9 2 = nI k from rfl, nI_clamp (by omega), show ka_I (kcs h (ct_at s k) w) (kq_p (kcs h (ct_at s k) w) 9 0) k = tp k from htp k hk]
      refine ⟨fun _ => ⟨trivial, e⟩, fun c2 => absurd ?_ ne⟩
      unfold kt_dg
      simp only [decide_eq_true_eq]
      exact ⟨Int32.not_lt.mp c1, Int32.not_lt.mp c2⟩
    · rw [kt_r_st hk eq, ← Nat.add_assoc, Nat.add_right_comm, ← Nat.add_assoc, Nat.add_right_comm k] at e
      obtain ⟨ed, d1, d2⟩ := kt_dgn eq
      have hb : (48 : Int32) ≤ tp k ∧ tp k ≤ 57 := by
        unfold kt_dg at eq
        simpa using eq
      refine kq_seg (fun p => Nat.beq p 2) 60 ⟨fun c => ?_, fun c => ⟨nI_in (N := 200) (by omega) (by omega), ?_⟩⟩
      · rw [show ka_I (kcs h (ct_at s k) w) 9 5 = nI n from hn, show ka_I (kcs h (ct_at s k) w) 9 2 = nI k from rfl] at c
        exact absurd (nI_lt hk (by omega)) c
      · rw [show ka_I (kcs h (ct_at s k) w) 9 2 = nI k from rfl, nI_clamp (by omega), show ka_I (kcs h (ct_at s k) w) (kq_p (kcs h (ct_at s k) w) 9 0) k = tp k from htp k hk]
        refine ⟨fun c => absurd c (Int32.not_lt.mpr hb.1), fun _ => ⟨nI_in (N := 200) (by omega) (by omega), ?_⟩⟩
        rw [show ka_I (kcs h (ct_at s k) w) 9 2 = nI k from rfl, nI_clamp (by omega), show ka_I (kcs h (ct_at s k) w) (kq_p (kcs h (ct_at s k) w) 9 0) k = tp k from htp k hk]
        refine ⟨fun c => absurd c (Int32.not_lt.mpr hb.2), fun _ => ⟨nI_in (N := 200) (by omega) (by omega), ?_⟩⟩
        rw [show ka_I (kcs h (ct_at s k) w) 9 2 = nI k from rfl, nI_clamp (by omega), show ka_I (kcs h (ct_at s k) w) (kq_p (kcs h (ct_at s k) w) 9 0) k = tp k from htp k hk]
        have hnl := kt_nn_le tp p L
        have hval : nI (kt_nn tp p L) * Int32.ofInt 10 + tp k - Int32.ofInt 48 = nI (10 * kt_nn tp p L + ((tp k).toInt.toNat - 48)) := by
          rw [ed, show Int32.ofInt 10 = nI 10 from rfl, show Int32.ofInt 48 = nI 48 from rfl, nI_mul, nI_add, nI_sub (by omega)]
          congr 1
          rw [nI_toInt (by omega)]
          omega
        refine kp_opq (kc_min (kcs_f hf)) (fun v hv => ⟨kcs_f hf, ?_⟩)
        have hv' : v = nI (kt_nn tp p (L + 1)) := by
          rw [hv, hval, show Int32.ofInt 16 = nI 16 from rfl, show kt_nn tp p (L + 1) = min 16 (10 * kt_nn tp p L + ((tp k).toInt.toNat - 48)) by rw [← hL]; rfl]
          rcases Nat.lt_or_ge (10 * kt_nn tp p L + ((tp k).toInt.toNat - 48)) 16 with y | y
          · rw [if_pos (nI_lt y (by omega)), Nat.min_eq_right (by omega)]
          · rw [if_neg (nI_nlt y (by omega)), Nat.min_eq_left y]
        rw [hv']
        have := ih (L + 1) (by omega) (by omega) e
        rw [← kcs_nx] at this
        exact this
  refine kq_in (kcs_f hf) rfl rfl rfl (kq_seg (fun p => Nat.beq p 2) 4 ?_)
  have := main p 0 (by omega) hpn (by rw [Nat.zero_add]; exact e)
  rw [kcs_at hp] at this
  exact this
end L5
