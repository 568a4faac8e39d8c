/-! ===== the reference reads: its small methods, over a heap with its reading state laid over it ===== -/
/-- what reading changes of the reference -/
def pm (a k : Nat) : Bool := cond (Nat.beq a 72) (Nat.beq k 23 || Nat.beq k 24 || Nat.beq k 25 || Nat.beq k 26 || Nat.beq k 27 || Nat.beq k 30 || Nat.beq k 31) ((Nat.ble 79 a && Nat.ble a 83) || (Nat.ble 85 a && Nat.ble a 88) || Nat.beq a 90 || Nat.beq a 91)
def kms (h : ka_H) (s : Nat → Nat → Int32) : ka_H := (h.1, h.2.1, h.2.2.1, fun a k => cond (pm a k) (s a k) (h.2.2.2.1 a k), h.2.2.2.2.1, h.2.2.2.2.2)
theorem ka_u_u {α : Type} (f : Nat → Nat → α) (a k : Nat) (v w : α) : ka_u (ka_u f a k v) a k w = ka_u f a k w := by
  funext b j
  unfold ka_u
  by_cases e : b = a
  · by_cases e2 : j = k
    · simp only [e, e2, if_true]
    · simp only [e, if_true, if_neg e2]
  · simp only [if_neg e]
theorem ka_u_id {α : Type} {f : Nat → Nat → α} {a k : Nat} {v : α} (e : f a k = v) : ka_u f a k v = f := by
  funext b j
  unfold ka_u
  by_cases e1 : b = a
  · by_cases e2 : j = k
    · rw [if_pos e1, if_pos e2, e1, e2, e]
    · rw [if_pos e1, if_neg e2]
  · rw [if_neg e1]
theorem kms_sI {h : ka_H} {s : Nat → Nat → Int32} {a k : Nat} (v : Int32) (hp : pm a k = true) : ka_sI (kms h s) a k v = kms h (ka_u s a k v) := by
  refine Prod.ext rfl (Prod.ext rfl (Prod.ext rfl (Prod.ext ?_ rfl)))
  funext b j
  show ka_u (fun a k => cond (pm a k) (s a k) (h.2.2.2.1 a k)) a k v b j = cond (pm b j) (ka_u s a k v b j) (h.2.2.2.1 b j)
  by_cases e : b = a
  · by_cases e2 : j = k
    · rw [e, e2, ka_uS, ka_uS, hp]; rfl
    · rw [ka_uJ _ _ _ _ _ e2, ka_uJ _ _ _ _ _ e2]
  · rw [ka_uN _ _ _ _ e, ka_uN _ _ _ _ e]
theorem kms_I {h : ka_H} {s : Nat → Nat → Int32} {a k : Nat} (hp : pm a k = true) : ka_I (kms h s) a k = s a k := by
  show cond (pm a k) (s a k) (h.2.2.2.1 a k) = _
  rw [hp]; rfl
theorem kms_N {h : ka_H} {s : Nat → Nat → Int32} {a k : Nat} (hp : pm a k = false) : ka_I (kms h s) a k = ka_I h a k := by
  show cond (pm a k) (s a k) (h.2.2.2.1 a k) = _
  rw [hp]; rfl
theorem kms_f {g : Nat × (Nat → Int32)} {h : ka_H} {s : Nat → Nat → Int32} (hf : kf g h) : kf g (kms h s) := by
  refine ⟨hf.1, hf.2.1, hf.2.2.1, fun i => ⟨(hf.2.2.2 i).1, fun j => ⟨?_, ((hf.2.2.2 i).2 j).2⟩⟩⟩
  rw [← ((hf.2.2.2 i).2 j).1]
  refine kms_N ?_
  unfold pm
  have e1 : Nat.beq (1000000 + i) 72 = false := by
    cases hb : Nat.beq (1000000 + i) 72 with
    | false => rfl
    | true => have := Nat.eq_of_beq_eq_true hb; omega
  have e2 : ∀ x, x < 1000 → Nat.ble (1000000 + i) x = false := fun x hx => by
    cases hb : Nat.ble (1000000 + i) x with
    | false => rfl
    | true => have := Nat.le_of_ble_eq_true hb; omega
  have e3 : ∀ x, x < 1000 → Nat.beq (1000000 + i) x = false := fun x hx => by
    cases hb : Nat.beq (1000000 + i) x with
    | false => rfl
    | true => have := Nat.eq_of_beq_eq_true hb; omega
  rw [e1, e2 83 (by omega), e2 88 (by omega), e3 90 (by omega), e3 91 (by omega)]
  simp
theorem kms_0 (h : ka_H) : kms h (ka_I h) = h := by
  refine Prod.ext rfl (Prod.ext rfl (Prod.ext rfl (Prod.ext ?_ rfl)))
  funext a k
  show cond (pm a k) (h.2.2.2.1 a k) (h.2.2.2.1 a k) = _
  cases pm a k <;> rfl
/-- the text that is read -/
def kT (h : ka_H) (n : Nat) (tp : Nat → Int32) : Prop := ka_I h 72 22 = nI n ∧ n ≤ 200 ∧ (∀ k, k < n → ka_I h 89 k = tp k) ∧ ∀ k, k < n → ∃ c, c < 256 ∧ tp k = nI c
section L1
variable {g : Nat × (Nat → Int32)} {d : Nat} {h : ka_H} {s : Nat → Nat → Int32} {R : ka_R → ka_H → Prop} {n p : Nat} {tp : Nat → Int32}
theorem kc_fine (hf : kf g h) : kp_T (d + 1) 162 [.ref 72] h (kp_is (.int (kp_b (ka_I h 72 24 = -1))) h) := by
  refine kq_in hf rfl rfl rfl (kq_seg kp_no 10 ⟨fun c => ?_, fun c => ?_⟩)
  · rw [kp_bF (p := ka_I h 72 24 = -1) c]; exact ⟨Or.inl rfl, rfl, rfl⟩
  · rw [kp_bT (p := ka_I h 72 24 = -1) c]; exact ⟨Or.inr rfl, rfl, rfl⟩
theorem kc_fine1 (hf : kf g h) (hb : s 72 24 = -1) : kp_T (d + 1) 162 [.ref 72] (kms h s) (kp_is (.int 1) (kms h s)) := by
  have := kc_fine (d := d) (h := kms h s) (kms_f hf)
  rw [kp_bT (show ka_I (kms h s) 72 24 = -1 from hb)] at this
  exact this
theorem kc_fine0 (hf : kf g h) (hb : ¬ s 72 24 = -1) : kp_T (d + 1) 162 [.ref 72] (kms h s) (kp_is (.int 0) (kms h s)) := by
  have := kc_fine (d := d) (h := kms h s) (kms_f hf)
  rw [kp_bF (show ¬ ka_I (kms h s) 72 24 = -1 from hb)] at this
  exact this
/-- a fault is told -/
def kt_bad (s : Nat → Nat → Int32) (kd pl : Int32) : Nat → Nat → Int32 := ka_u (ka_u s 72 24 pl) 72 25 kd
theorem kc_wrong (hf : kf g h) (hb : s 72 24 = -1) {kd pl : Int32} : kp_T (d + 1) 163 [.ref 72, .int kd, .int pl] (kms h s) (kp_vo (kms h (kt_bad s kd pl))) := by
  have ew : ka_sI (ka_sI (kms h s) 72 24 pl) 72 25 kd = kms h (kt_bad s kd pl) := by
    rw [kms_sI pl rfl, kms_sI kd rfl]
    rfl
  exact kq_in (kms_f hf) rfl rfl rfl (kq_seg kp_no 14 ⟨fun _ => ⟨rfl, ew⟩, fun c => absurd hb c⟩)
theorem kc_isSmall (hf : kf g h) {c : Int32} : kp_T (d + 1) 165 [.int c] h (kp_is (.int (if kt_sm c = true then 1 else 0)) h) := by
  unfold kt_sm
  refine kq_in hf rfl rfl rfl (kq_seg kp_no 12 ⟨fun (c1 : c < 97) => ?_, fun (c1 : ¬ c < 97) => ⟨fun (c2 : 122 < c) => ?_, fun (c2 : ¬ 122 < c) => ?_⟩⟩)
  · rw [if_neg (by simp only [decide_eq_true_eq]; exact fun z => absurd c1 (Int32.not_lt.mpr z.1))]; exact ⟨Or.inl rfl, rfl, rfl⟩
  · rw [if_neg (by simp only [decide_eq_true_eq]; exact fun z => absurd c2 (Int32.not_lt.mpr z.2))]; exact ⟨Or.inl rfl, rfl, rfl⟩
  · rw [if_pos (by simp only [decide_eq_true_eq]; exact ⟨Int32.not_lt.mp c1, Int32.not_lt.mp c2⟩)]; exact ⟨Or.inr rfl, rfl, rfl⟩
theorem kc_isDigit (hf : kf g h) {c : Int32} : kp_T (d + 1) 166 [.int c] h (kp_is (.int (if kt_dg c = true then 1 else 0)) h) := by
  unfold kt_dg
  refine kq_in hf rfl rfl rfl (kq_seg kp_no 12 ⟨fun (c1 : c < 48) => ?_, fun (c1 : ¬ c < 48) => ⟨fun (c2 : 57 < c) => ?_, fun (c2 : ¬ 57 < c) => ?_⟩⟩)
  · rw [if_neg (by simp only [decide_eq_true_eq]; exact fun z => absurd c1 (Int32.not_lt.mpr z.1))]; exact ⟨Or.inl rfl, rfl, rfl⟩
  · rw [if_neg (by simp only [decide_eq_true_eq]; exact fun z => absurd c2 (Int32.not_lt.mpr z.2))]; exact ⟨Or.inl rfl, rfl, rfl⟩
  · rw [if_pos (by simp only [decide_eq_true_eq]; exact ⟨Int32.not_lt.mp c1, Int32.not_lt.mp c2⟩)]; exact ⟨Or.inr rfl, rfl, rfl⟩
abbrev kt_at (s : Nat → Nat → Int32) (p : Nat) : Nat → Nat → Int32 := ka_u s 72 23 (nI p)
theorem kt_at_at (s : Nat → Nat → Int32) (p q : Nat) : kt_at (kt_at s p) q = kt_at s q := ka_u_u _ _ _ _ _
theorem kms_at (hp : s 72 23 = nI p) : kms h (kt_at s p) = kms h s := by rw [kt_at, ka_u_id hp]
theorem kms_nx (h : ka_H) (s : Nat → Nat → Int32) (q : Nat) : ka_sI (kms h (kt_at s q)) 72 23 (nI q + 1) = kms h (kt_at s (q + 1)) := by
  rw [kms_sI _ rfl, ka_u_u, ← nI_succ]
theorem kc_here (hf : kf g h) (hT : kT h n tp) (hp : s 72 23 = nI p) (hpn : p ≤ n)
    (e : R (kp_ri (if kt_s tp n p < n then tp (kt_s tp n p) else 0)) (kms h (kt_at s (kt_s tp n p)))) : kp_T (d + 1) 164 [.ref 72] (kms h s) R := by
  obtain ⟨hn, h200, htp, -⟩ := hT
  have hle := kt_s_le tp n
  have j38 : ∀ q, q ≤ n → R (kp_ri (if q < n then tp q else 0)) (kms h (kt_at s q)) → kq_ex g d 164 R 38 [.ref 72] [] (kms h (kt_at s q)) := by
    intro q hq e
    refine kq_seg kp_no 20 ⟨fun c => ?_, fun c => ?_⟩
    · rw [show ka_I (kms h (kt_at s q)) 72 22 = nI n from hn, show ka_I (kms h (kt_at s q)) 72 23 = nI q from rfl] at c
      rw [if_neg (fun z => c (nI_lt z (by omega)))] at e
      exact ⟨trivial, e⟩
    · rw [show ka_I (kms h (kt_at s q)) 72 22 = nI n from hn, show ka_I (kms h (kt_at s q)) 72 23 = nI q from rfl] at c
      have hqn : q < n := (nI_ltI (by omega) (by omega)).mp c
      rw [if_pos hqn] at e
      refine ⟨nI_in (N := 200) (by omega) (by omega), ?_⟩
      rw [show ka_I (kms h (kt_at s q)) 72 23 = nI q from rfl, nI_clamp (by omega), show ka_I (kms h (kt_at s q)) (kq_p (kms h (kt_at s q)) 72 29) q = tp q from htp q hqn]
      exact ⟨trivial, e⟩
  have main : ∀ q, q ≤ n → R (kp_ri (if kt_s tp n q < n then tp (kt_s tp n q) else 0)) (kms h (kt_at s (kt_s tp n q))) → kq_ex g d 164 R 0 [.ref 72] [] (kms h (kt_at s q)) := by
    refine kt_s_ind (tp := tp) (n := n) (fun q hq hqn e => ?_) (fun q hq ne hqn e => ?_) (fun q hq eq ih hqn e => ?_)
    · rw [kt_s_ge hq] at e
      refine kq_seg (fun p => Nat.beq p 38) 20 ⟨fun _ => j38 q hqn e, fun c => ?_⟩
      rw [show ka_I (kms h (kt_at s q)) 72 22 = nI n from hn, show ka_I (kms h (kt_at s q)) 72 23 = nI q from rfl] at c
      exact absurd c (nI_nlt hq (by omega))
    · rw [kt_s_no ne] at e
      refine kq_seg (fun p => Nat.beq p 38) 20 ⟨fun _ => j38 q hqn e, fun c => ⟨nI_in (N := 200) (by omega) (by omega), ?_⟩⟩
      rw [show ka_I (kms h (kt_at s q)) 72 23 = nI q from rfl, nI_clamp (by omega), show ka_I (kms h (kt_at s q)) (kq_p (kms h (kt_at s q)) 72 29) q = tp q from htp q hq]
      exact ⟨fun _ => j38 q hqn e, fun c => absurd c ne⟩
    · rw [kt_s_st hq eq] at e
      refine kq_seg (fun p => Nat.beq p 38 || Nat.beq p 0) 20 ⟨fun c => ?_, fun c => ⟨nI_in (N := 200) (by omega) (by omega), ?_⟩⟩
      · rw [show ka_I (kms h (kt_at s q)) 72 22 = nI n from hn, show ka_I (kms h (kt_at s q)) 72 23 = nI q from rfl] at c
        exact absurd (nI_lt hq (by omega)) c
      · rw [show ka_I (kms h (kt_at s q)) 72 23 = nI q from rfl, nI_clamp (by omega), show ka_I (kms h (kt_at s q)) (kq_p (kms h (kt_at s q)) 72 29) q = tp q from htp q hq]
        refine ⟨fun c => absurd eq c, fun _ => ?_⟩
        have := ih (by omega) e
        rw [← kms_nx] at this
        exact this
  have := main p hpn e
  rw [kms_at hp] at this
  exact kq_in (kms_f hf) rfl rfl rfl this
theorem kc_pass (hf : kf g h) (hT : kT h n tp) (hp : s 72 23 = nI p) (hpn : p ≤ n) (e : R (.inl none) (kms h (kt_at s (p + kt_r kt_sm tp n p)))) : kp_T (d + 2) 168 [.ref 72] (kms h s) R := by
  obtain ⟨hn, h200, htp, -⟩ := hT
  have main : ∀ q, q ≤ n → R (.inl none) (kms h (kt_at s (q + kt_r kt_sm tp n q))) → kq_ex g (d + 1) 168 R 0 [.ref 72] [] (kms h (kt_at s q)) := by
    refine kt_r_ind (q := kt_sm) (tp := tp) (n := n) (fun q hq hqn e => ?_) (fun q hq ne hqn e => ?_) (fun q hq eq ih hqn e => ?_)
    · rw [kt_r_ge hq] at e
      refine kq_seg kp_no 20 ⟨fun _ => e, fun c => ?_⟩
      rw [show ka_I (kms h (kt_at s q)) 72 22 = nI n from hn, show ka_I (kms h (kt_at s q)) 72 23 = nI q from rfl] at c
      exact absurd c (nI_nlt hq (by omega))
    · rw [kt_r_no ne] at e
      refine kq_seg kp_no 20 ⟨fun _ => e, fun c => ⟨nI_in (N := 200) (by omega) (by omega), ?_⟩⟩
      rw [show ka_I (kms h (kt_at s q)) 72 23 = nI q from rfl, nI_clamp (by omega), show ka_I (kms h (kt_at s q)) (kq_p (kms h (kt_at s q)) 72 29) q = tp q from htp q hq]
      refine kq_ci (kc_isSmall (kms_f hf)) (kms_f hf) ?_
      rw [if_neg ne]
      exact ⟨fun _ => e, fun c => absurd rfl c⟩
    · rw [kt_r_st hq eq, ← Nat.add_assoc, Nat.add_right_comm] at e
      refine kq_seg (fun p => Nat.beq p 0) 20 ⟨fun c => ?_, fun c => ⟨nI_in (N := 200) (by omega) (by omega), ?_⟩⟩
      · rw [show ka_I (kms h (kt_at s q)) 72 22 = nI n from hn, show ka_I (kms h (kt_at s q)) 72 23 = nI q from rfl] at c
        exact absurd (nI_lt hq (by omega)) c
      · rw [show ka_I (kms h (kt_at s q)) 72 23 = nI q from rfl, nI_clamp (by omega), show ka_I (kms h (kt_at s q)) (kq_p (kms h (kt_at s q)) 72 29) q = tp q from htp q hq]
        refine kq_ci (kc_isSmall (kms_f hf)) (kms_f hf) ?_
        rw [if_pos eq]
        refine ⟨fun c => absurd c (by decide), fun _ => ?_⟩
        have := ih (by omega) e
        rw [← kms_nx] at this
        exact this
  have := main p hpn e
  rw [kms_at hp] at this
  exact kq_in (kms_f hf) rfl rfl rfl this
theorem kc_word (hf : kf g h) (hT : kT h n tp) (hp : s 72 23 = nI p) (hpn : p ≤ n) (e : ∀ w, w = kt_w tp n (kt_s tp n p) → R (kp_ri w) (kms h (kt_at s (kt_s tp n p)))) : kp_T (d + 2) 167 [.ref 72] (kms h s) R := by
  have hT' := hT
  obtain ⟨hn, h200, htp, -⟩ := hT
  have hle := kt_s_le tp n p hpn
  generalize hq0 : kt_s tp n p = q0 at e hle
  have j67 : ∀ (v : Int32) (L : Nat) (z3 : Value), L ≤ 200 → (∀ w, w = (if 6 < L then 0 else v) → R (kp_ri w) (kms h (kt_at s q0))) → kq_ex g (d + 1) 167 R 67 [.ref 72, .int v, .int (nI L), z3] [] (kms h (kt_at s q0)) := by
    intro v L z3 hL e
    refine kq_seg kp_no 10 ⟨fun c => ⟨trivial, e _ ?_⟩, fun c => ⟨trivial, e _ ?_⟩⟩
    · rw [if_neg (fun z => c (nI_lt (a := 6) z (by omega)))]
    · rw [if_pos ((nI_ltI (a := 6) (by omega) (by omega)).mp c)]; rfl
  have main : ∀ k L, q0 + L = k → k ≤ n → (∀ w, w = (if 6 < L + kt_r kt_sm tp n k then 0 else kt_hs tp q0 (L + kt_r kt_sm tp n k)) → R (kp_ri w) (kms h (kt_at s q0))) → kq_ex g (d + 1) 167 R 14 [.ref 72, .int (kt_hs tp q0 L), .int (nI L), .int (nI k)] [] (kms h (kt_at s q0)) := by
    refine kt_r_ind (q := kt_sm) (tp := tp) (n := n) (fun k hk L hL hkn e => ?_) (fun k hk ne L hL hkn e => ?_) (fun k hk eq ih L hL hkn e => ?_)
    · rw [kt_r_ge hk, Nat.add_zero] at e
      refine kq_seg (fun p => Nat.beq p 67) 20 ⟨fun _ => j67 _ L _ (by omega) e, fun c => ?_⟩
      rw [show ka_I (kms h (kt_at s q0)) 72 22 = nI n from hn] at c
      exact absurd c (nI_nlt hk (by omega))
    · rw [kt_r_no ne, Nat.add_zero] at e
      refine kq_seg (fun p => Nat.beq p 67) 20 ⟨fun _ => j67 _ L _ (by omega) e, fun c => ⟨nI_in (N := 200) (by omega) (by omega), ?_⟩⟩
      rw [nI_clamp (by omega), show ka_I (kms h (kt_at s q0)) (kq_p (kms h (kt_at s q0)) 72 29) k = tp k from htp k hk]
      refine kq_ci (kc_isSmall (kms_f hf)) (kms_f hf) ?_
      rw [if_neg ne]
      exact ⟨fun _ => j67 _ L _ (by omega) e, fun c => absurd rfl c⟩
    · rw [kt_r_st hk eq, ← Nat.add_assoc, Nat.add_right_comm] at e
      refine kq_seg (fun p => Nat.beq p 14) 40 ⟨fun c => ?_, fun c => ⟨nI_in (N := 200) (by omega) (by omega), ?_⟩⟩
      · rw [show ka_I (kms h (kt_at s q0)) 72 22 = nI n from hn] at c
        exact absurd (nI_lt hk (by omega)) c
      · rw [nI_clamp (by omega), show ka_I (kms h (kt_at s q0)) (kq_p (kms h (kt_at s q0)) 72 29) k = tp k from htp k hk]
        refine kq_ci (kc_isSmall (kms_f hf)) (kms_f hf) ?_
        rw [if_pos eq]
        have ih' := ih (L + 1) (by omega) (by omega) e
        rw [nI_succ, nI_succ] at ih'
        refine ⟨fun c => absurd c (by decide), fun _ => ⟨fun c6 => ?_, fun c6 => ⟨nI_in (N := 200) (by omega) (by omega), ?_⟩⟩⟩
        · rw [show kt_hs tp q0 (L + 1) = 0 by show (if L < 6 then _ else _) = _; rw [if_neg (fun z => c6 (nI_lt (b := 6) z (by omega)))]] at ih'
          exact ih'
        · rw [nI_clamp (by omega), show ka_I (kms h (kt_at s q0)) (kq_p (kms h (kt_at s q0)) 72 29) k = tp k from htp k hk]
          rw [show kt_hs tp q0 (L + 1) = kt_hs tp q0 L <<< ((5 : Int32) &&& 31) ||| (tp k - 96) by show (if L < 6 then _ else _) = _; rw [if_pos ((nI_ltI (b := 6) (by omega) (by omega)).mp c6), hL]] at ih'
          exact ih'
  refine kq_in (kms_f hf) rfl rfl rfl (kq_seg (fun p => Nat.beq p 14) 12 ?_)
  refine kc_here hf hT' hp hpn ⟨kms_f hf, ?_⟩
  rw [hq0]
  refine main q0 0 (by omega) hle.2 (fun w hw => e w ?_)
  rw [hw, Nat.zero_add]
  rfl
end L1
