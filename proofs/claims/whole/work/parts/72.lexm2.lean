/-! ===== the reference reads: signs, tokens, code, values ===== -/
def kt_kind (w : Int32) : Int32 := if w = 20 then 0 else if w = 209200 then 1 else if w = 15813 then 2 else if w = 3659220 then 3 else if w = 20141 then 4 else if w = 12748404 then 5 else if w = 445780357 then 6 else if w = 441972 then 7 else if w = 409072 then 8 else if w = 343342 then 9 else if w = 1156 then 10 else if w = 398963 then 11 else if w = 81544 then 12 else if w = 24385093 then 13 else -1
/-- the reference's number of a sign -/
def tM (c : Nat) : Int32 := if c < 16 then nI c else if c = 16 then 20 else if c = 17 then 21 else if c = 18 then 105 else if c = 19 then 104 else if c = 20 then 103 else if c = 60 then 100 else if c = 62 then 101 else if c = 61 then 102 else if c = 91 then 106 else 107
/-- reading a condition leaves the rest as it was -/
def kt_fr (s s' : Nat → Nat → Int32) : Prop := (∀ a, a ≠ 72 → a ≠ 90 → a ≠ 91 → s' a = s a) ∧ s' 72 27 = s 72 27
theorem kt_fr.rfl' (s : Nat → Nat → Int32) : kt_fr s s := ⟨fun _ _ _ _ => rfl, rfl⟩
theorem kt_fr.tr {s s' s'' : Nat → Nat → Int32} (h1 : kt_fr s s') (h2 : kt_fr s' s'') : kt_fr s s'' := ⟨fun a x y z => (h2.1 a x y z).trans (h1.1 a x y z), h2.2.trans h1.2⟩
theorem kt_fr.u {s : Nat → Nat → Int32} {k : Nat} (hk : k ≠ 27) (v : Int32) : kt_fr s (ka_u s 72 k v) := ⟨fun a h1 _ _ => funext fun j => ka_uN _ _ _ _ h1 j, ka_uJ _ _ _ _ _ (Ne.symm hk)⟩
theorem kt_fr.u90 {s : Nat → Nat → Int32} (k : Nat) (v : Int32) : kt_fr s (ka_u s 90 k v) := ⟨fun a _ h1 _ => funext fun j => ka_uN _ _ _ _ h1 j, ka_uN _ _ _ _ (by decide) _⟩
theorem kt_fr.u91 {s : Nat → Nat → Int32} (k : Nat) (v : Int32) : kt_fr s (ka_u s 91 k v) := ⟨fun a _ _ h1 => funext fun j => ka_uN _ _ _ _ h1 j, ka_uN _ _ _ _ (by decide) _⟩
/-- read well up to p': so many tokens and so much code more -/
def kt_ok (s s' : Nat → Nat → Int32) (p' nt nc : Nat) (tk : List Nat) (cd : List Int32) : Prop := kt_fr s s' ∧ s' 72 23 = nI p' ∧ s' 72 24 = -1 ∧ s' 72 26 = s 72 26 ∧ (s' 72 30 = nI (nt + tk.length) ∧ (∀ j, j < nt → s' 90 j = s 90 j) ∧ ∀ j, j < tk.length → s' 90 (nt + j) = tM (tk.getD j 0)) ∧ s' 72 31 = nI (nc + cd.length) ∧ (∀ j, j < nc → s' 91 j = s 91 j) ∧ ∀ j, j < cd.length → s' 91 (nc + j) = cd.getD j 0
theorem kl_ga {α : Type} {l l' : List α} {j : Nat} {d : α} (c : j < l.length) : (l ++ l').getD j d = l.getD j d := by
  rw [List.getD_eq_getElem?_getD, List.getElem?_append_left c, ← List.getD_eq_getElem?_getD]
theorem kl_gr {α : Type} {l l' : List α} {j : Nat} {d : α} (c : l.length ≤ j) : (l ++ l').getD j d = l'.getD (j - l.length) d := by
  rw [List.getD_eq_getElem?_getD, List.getElem?_append_right c, ← List.getD_eq_getElem?_getD]
theorem kt_ap {α : Type} {f : Nat → α} {n : Nat} {l l' : List α} {d : α} (h1 : ∀ j, j < l.length → f (n + j) = l.getD j d) (h2 : ∀ j, j < l'.length → f (n + l.length + j) = l'.getD j d) : ∀ j, j < (l ++ l').length → f (n + j) = (l ++ l').getD j d := fun j hj => by
  rcases Nat.lt_or_ge j l.length with c | c
  · rw [h1 j c, kl_ga c]
  · rw [List.length_append] at hj
    have := h2 (j - l.length) (by omega)
    rw [show n + l.length + (j - l.length) = n + j by omega] at this
    rw [this, kl_gr c]
theorem kt_ok.tr {s s1 s2 : Nat → Nat → Int32} {p1 p2 nt nc : Nat} {tk1 tk2 : List Nat} {cd1 cd2 : List Int32} (h1 : kt_ok s s1 p1 nt nc tk1 cd1) (h2 : kt_ok s1 s2 p2 (nt + tk1.length) (nc + cd1.length) tk2 cd2) : kt_ok s s2 p2 nt nc (tk1 ++ tk2) (cd1 ++ cd2) := by
  obtain ⟨a1, -, -, a4, ⟨a5, a6, a7⟩, a8, a9, a10⟩ := h1
  obtain ⟨b1, b2, b3, b4, ⟨b5, b6, b7⟩, b8, b9, b10⟩ := h2
  refine ⟨a1.tr b1, b2, b3, b4.trans a4, ⟨by rw [b5, List.length_append, Nat.add_assoc], fun j hj => (b6 j (by omega)).trans (a6 j hj), ?_⟩, by rw [b8, List.length_append, Nat.add_assoc], fun j hj => (b9 j (by omega)).trans (a9 j hj), ?_⟩
  · intro j hj
    rcases Nat.lt_or_ge j tk1.length with c | c
    · rw [b6 _ (by omega), a7 j c, kl_ga c]
    · rw [List.length_append] at hj
      have := b7 (j - tk1.length) (by omega)
      rw [show nt + tk1.length + (j - tk1.length) = nt + j by omega] at this
      rw [this, kl_gr c]
  · exact kt_ap (d := (0 : Int32)) (fun j hj => (b9 _ (by omega)).trans (a10 j hj)) b10
section L2
variable {g : Nat × (Nat → Int32)} {d : Nat} {h : ka_H} {s : Nat → Nat → Int32} {R : ka_R → ka_H → Prop} {n p nt nc lv : Nat} {tp : Nat → Int32}
theorem kc_kindOf (hf : kf g h) {w : Int32} : kp_T (d + 1) 169 [.int w] h (kp_is (.int (kt_kind w)) h) := by
  unfold kt_kind
  refine kq_in hf rfl rfl rfl (kq_seg kp_no 60 ?_)
  refine ⟨fun (c0 : ¬ w = 20) => ?_, fun (c0 : w = 20) => by rw [if_pos c0]; exact ⟨trivial, rfl, rfl⟩⟩
  rw [if_neg c0]
  refine ⟨fun (c1 : ¬ w = 209200) => ?_, fun (c1 : w = 209200) => by rw [if_pos c1]; exact ⟨trivial, rfl, rfl⟩⟩
  rw [if_neg c1]
  refine ⟨fun (c2 : ¬ w = 15813) => ?_, fun (c2 : w = 15813) => by rw [if_pos c2]; exact ⟨trivial, rfl, rfl⟩⟩
  rw [if_neg c2]
  refine ⟨fun (c3 : ¬ w = 3659220) => ?_, fun (c3 : w = 3659220) => by rw [if_pos c3]; exact ⟨trivial, rfl, rfl⟩⟩
  rw [if_neg c3]
  refine ⟨fun (c4 : ¬ w = 20141) => ?_, fun (c4 : w = 20141) => by rw [if_pos c4]; exact ⟨trivial, rfl, rfl⟩⟩
  rw [if_neg c4]
  refine ⟨fun (c5 : ¬ w = 12748404) => ?_, fun (c5 : w = 12748404) => by rw [if_pos c5]; exact ⟨trivial, rfl, rfl⟩⟩
  rw [if_neg c5]
  refine ⟨fun (c6 : ¬ w = 445780357) => ?_, fun (c6 : w = 445780357) => by rw [if_pos c6]; exact ⟨trivial, rfl, rfl⟩⟩
  rw [if_neg c6]
  refine ⟨fun (c7 : ¬ w = 441972) => ?_, fun (c7 : w = 441972) => by rw [if_pos c7]; exact ⟨trivial, rfl, rfl⟩⟩
  rw [if_neg c7]
  refine ⟨fun (c8 : ¬ w = 409072) => ?_, fun (c8 : w = 409072) => by rw [if_pos c8]; exact ⟨trivial, rfl, rfl⟩⟩
  rw [if_neg c8]
  refine ⟨fun (c9 : ¬ w = 343342) => ?_, fun (c9 : w = 343342) => by rw [if_pos c9]; exact ⟨trivial, rfl, rfl⟩⟩
  rw [if_neg c9]
  refine ⟨fun (c10 : ¬ w = 1156) => ?_, fun (c10 : w = 1156) => by rw [if_pos c10]; exact ⟨trivial, rfl, rfl⟩⟩
  rw [if_neg c10]
  refine ⟨fun (c11 : ¬ w = 398963) => ?_, fun (c11 : w = 398963) => by rw [if_pos c11]; exact ⟨trivial, rfl, rfl⟩⟩
  rw [if_neg c11]
  refine ⟨fun (c12 : ¬ w = 81544) => ?_, fun (c12 : w = 81544) => by rw [if_pos c12]; exact ⟨trivial, rfl, rfl⟩⟩
  rw [if_neg c12]
  refine ⟨fun (c13 : ¬ w = 24385093) => ?_, fun (c13 : w = 24385093) => by rw [if_pos c13]; exact ⟨trivial, rfl, rfl⟩⟩
  rw [if_neg c13]
  exact ⟨trivial, rfl, rfl⟩
theorem kc_need (hf : kf g h) (hT : kT h n tp) (hp : s 72 23 = nI p) (hpn : p ≤ n) (hb : s 72 24 = -1) {c : Int32} (hc : c ≠ 0)
    (e1 : kt_s tp n p < n → tp (kt_s tp n p) = c → R (.inl none) (kms h (kt_at s (kt_s tp n p + 1)))) (e2 : ¬ (kt_s tp n p < n ∧ tp (kt_s tp n p) = c) → R (.inl none) (kms h (kt_bad (kt_at s (kt_s tp n p)) 1 (nI (kt_s tp n p))))) : kp_T (d + 2) 170 [.ref 72, .int c] (kms h s) R := by
  have hle := kt_s_le tp n p hpn
  have h200 := hT.2.1
  generalize hq : kt_s tp n p = q at e1 e2 hle
  refine kq_in (kms_f hf) rfl rfl rfl (kq_seg kp_no 30 ?_)
  refine kq_ci (kc_fine1 hf hb) (kms_f hf) ⟨fun c => absurd c (by decide), fun _ => ?_⟩
  refine kc_here hf hT hp hpn ⟨kms_f hf, ?_⟩
  rw [hq]
  refine ⟨fun c1 => ?_, fun c1 => ?_⟩
  · refine kq_ci (kc_fine1 hf (s := kt_at s q) hb) (kms_f hf) ⟨fun c => absurd c (by decide), fun _ => ?_⟩
    by_cases z : q < n
    · rw [if_pos z] at c1
      have := e1 z c1
      rw [← kms_nx] at this
      exact this
    · rw [if_neg z] at c1
      exact absurd c1.symm hc
  · refine kq_cv (kc_wrong hf (s := kt_at s q) hb) (kms_f hf) ?_
    refine kq_ci (kc_fine0 hf (s := kt_bad (kt_at s q) 1 (nI q)) (nI_ne_m1 (by omega))) (kms_f hf) ⟨fun _ => e2 ?_, fun c => absurd rfl c⟩
    intro z
    rw [if_pos z.1] at c1
    exact c1 z.2
theorem kc_token1 (hf : kf g h) (hb : s 72 24 = -1) (ht : s 72 30 = nI nt) (hlt : nt < 200) {v : Int32} : kp_T (d + 2) 176 [.ref 72, .int v] (kms h s) (kp_vo (kms h (ka_u (ka_u s 90 nt v) 72 30 (nI (nt + 1))))) := by
  refine kq_in (kms_f hf) rfl rfl rfl (kq_seg kp_no 30 ?_)
  refine kq_ci (kc_fine1 hf hb) (kms_f hf) ⟨fun _ => ?_, fun c => absurd c (by decide)⟩
  refine ⟨by rw [show ka_I (kms h s) 72 30 = nI nt from ht]; exact nI_in (N := 200) hlt (by omega), ?_⟩
  rw [show ka_I (kms h s) 72 30 = nI nt from ht, nI_clamp (by omega)]
  have ew : ka_sI (ka_sI (kms h s) 90 nt v) 72 30 (s 72 30 + 1) = kms h (ka_u (ka_u s 90 nt v) 72 30 (nI (nt + 1))) := by
    rw [kms_sI v rfl, kms_sI _ rfl, ht, ← nI_succ]
  refine ⟨rfl, ?_⟩
  rw [← ew, ← kms_I (h := h) (s := s) (a := 72) (k := 30) rfl, ← ka_IN (kms h s) nt v (by decide : (72 : Nat) ≠ 90) 30]
  rfl
theorem kc_token0 (hf : kf g h) (hb : ¬ s 72 24 = -1) {v : Int32} : kp_T (d + 2) 176 [.ref 72, .int v] (kms h s) (kp_vo (kms h s)) := by
  refine kq_in (kms_f hf) rfl rfl rfl (kq_seg kp_no 30 ?_)
  exact kq_ci (kc_fine0 hf hb) (kms_f hf) ⟨fun c => absurd rfl c, fun _ => ⟨rfl, rfl⟩⟩
theorem kc_emit1 (hf : kf g h) (hb : s 72 24 = -1) (ht : s 72 31 = nI nc) (hlt : nc < 200) {v : Int32} : kp_T (d + 2) 177 [.ref 72, .int v] (kms h s) (kp_vo (kms h (ka_u (ka_u s 91 nc v) 72 31 (nI (nc + 1))))) := by
  refine kq_in (kms_f hf) rfl rfl rfl (kq_seg kp_no 30 ?_)
  refine kq_ci (kc_fine1 hf hb) (kms_f hf) ⟨fun _ => ?_, fun c => absurd c (by decide)⟩
  refine ⟨by rw [show ka_I (kms h s) 72 31 = nI nc from ht]; exact nI_in (N := 200) hlt (by omega), ?_⟩
  rw [show ka_I (kms h s) 72 31 = nI nc from ht, nI_clamp (by omega)]
  have ew : ka_sI (ka_sI (kms h s) 91 nc v) 72 31 (s 72 31 + 1) = kms h (ka_u (ka_u s 91 nc v) 72 31 (nI (nc + 1))) := by
    rw [kms_sI v rfl, kms_sI _ rfl, ht, ← nI_succ]
  refine ⟨rfl, ?_⟩
  rw [← ew, ← kms_I (h := h) (s := s) (a := 72) (k := 31) rfl, ← ka_IN (kms h s) nc v (by decide : (72 : Nat) ≠ 91) 31]
  rfl
theorem kc_emit0 (hf : kf g h) (hb : ¬ s 72 24 = -1) {v : Int32} : kp_T (d + 2) 177 [.ref 72, .int v] (kms h s) (kp_vo (kms h s)) := by
  refine kq_in (kms_f hf) rfl rfl rfl (kq_seg kp_no 30 ?_)
  exact kq_ci (kc_fine0 hf hb) (kms_f hf) ⟨fun c => absurd rfl c, fun _ => ⟨rfl, rfl⟩⟩
end L2
