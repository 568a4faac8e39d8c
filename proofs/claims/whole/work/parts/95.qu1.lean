/-! ===== questions: a whole text ===== -/
/-- a whole text: its fault, or its nodes -/
def kQt (tp : Nat → Int32) (n : Nat) (o : kX) : (Nat × Nat) ⊕ List kN := match o with
  | .inl x => .inl x
  | .inr (p', nds) => if kt_s tp n p' = n then .inr nds else .inl (1, kt_s tp n p')
theorem kQt_l {tp : Nat → Int32} {n kd pl : Nat} {o : kX} (h : o = .inl (kd, pl)) : kQt tp n o = .inl (kd, pl) := by rw [h]; rfl
theorem kQt_r {tp : Nat → Int32} {n p' : Nat} {nds : List kN} {o : kX} (h : o = .inr (p', nds)) : kQt tp n o = if kt_s tp n p' = n then .inr nds else .inl (1, kt_s tp n p') := by rw [h]; rfl
theorem kQt_P {tp : Nat → Int32} {n : Nat} {o : kX} (h : kXQ n 0 0 0 o) : (∀ kd pl, kQt tp n o = .inl (kd, pl) → pl ≤ n ∧ 1 ≤ kd ∧ kd ≤ 3) ∧ ∀ nds, kQt tp n o = .inr nds → 1 ≤ nds.length ∧ nds.length ≤ 12 ∧ kNl 0 nds := by
  rcases o with x | ⟨p', nds⟩
  · refine ⟨fun kd pl e => ?_, fun nds e => by rw [show kQt tp n (.inl x) = .inl x from rfl] at e; cases e⟩
    have e' := Sum.inl.inj (show (Sum.inl x : (Nat × Nat) ⊕ List kN) = .inl (kd, pl) from e)
    exact h.1 kd pl (by rw [e'])
  · obtain ⟨h1, h2, h3, h4, h5⟩ := h.2 p' nds rfl
    have hle := kt_s_le tp n p' h2
    rw [kQt_r rfl]
    by_cases c : kt_s tp n p' = n
    · rw [if_pos c]
      refine ⟨fun kd pl e => (by cases e), fun nds' e => ?_⟩
      rw [← Sum.inr.inj e]
      exact ⟨h3, by omega, h5⟩
    · rw [if_neg c]
      refine ⟨fun kd pl e => ?_, fun nds' e => by cases e⟩
      have e' := Prod.mk.inj (Sum.inl.inj e)
      omega
section Q1
variable {g : Nat × (Nat → Int32)} {d : Nat} {h : ka_H} {s : Nat → Nat → Int32} {w : Nat → Nat} {R : ka_R → ka_H → Prop} {n : Nat} {tp : Nat → Int32}
theorem kc_readWhole {D : Nat} {o : kX} (hf : kf g h) (hU : kU h n tp) (hp : s 9 2 = nI 0) (hX : kXC D n tp 0 0 0 o) (hXP : kXQ n 0 0 0 o) (hD : 2 ≤ D)
    (e1 : ∀ kd pl s' w', kQt tp n o = .inl (kd, pl) → s' 9 3 = nI kd → s' 9 4 = nI pl → R (kp_ri 0) (kcs h s' w'))
    (e2 : ∀ nds s' w' sc, kQt tp n o = .inr nds → s' 9 3 = s 9 3 → s' 9 4 = s 9 4 → s' 11 4 = nI nds.length → sc ≤ n → (∀ j x, nds[j]? = some x → kCn s' w' j x sc) → R (kp_ri 1) (kcs h s' w')) : kp_T (D + 1) 19 [.ref 11] (kcs h s w) R := by
  obtain ⟨D', rfl⟩ : ∃ D', D = D' + 2 := ⟨D - 2, by omega⟩
  have ew : ka_sI (ka_sI (ka_sI (kcs h s w) 11 3 0) 11 4 0) 13 5 0 = kcs h (ka_u (ka_u (ka_u s 11 3 (nI 0)) 11 4 (nI 0)) 13 5 (nI 0)) w := by
    rw [kcs_sI _ rfl, kcs_sI _ rfl, kcs_sI _ rfl]
    rfl
  refine kq_in (kcs_f hf) rfl rfl rfl ?_
  refine kq_seg (fun p => Nat.beq p 18) 20 ?_
  suffices j18 : kq_ex g (D' + 2) 19 R 18 [.ref 11] [] (kcs h (ka_u (ka_u (ka_u s 11 3 (nI 0)) 11 4 (nI 0)) 13 5 (nI 0)) w) by
    rw [← ew] at j18
    exact j18
  generalize hs1 : ka_u (ka_u (ka_u s 11 3 (nI 0)) 11 4 (nI 0)) 13 5 (nI 0) = s1
  have y3 : s1 9 3 = s 9 3 := by rw [← hs1]; rfl
  have y4 : s1 9 4 = s 9 4 := by rw [← hs1]; rfl
  refine kq_seg kp_no 30 ?_
  refine hX g h s1 w 0 _ hf hU (by rw [← hs1]; exact hp) (by rw [← hs1]; rfl) (by rw [← hs1]; rfl) (by rw [← hs1]; rfl) (Nat.zero_le _) (fun kd pl s' w' ho c3 c4 => ⟨kcs_f hf, ⟨fun _ => ⟨Or.inl rfl, e1 kd pl s' w' (kQt_l ho) c3 c4⟩, fun c => absurd rfl c⟩⟩) (fun p' nds s' w' sc' ho hok => ⟨kcs_f hf, ⟨fun c => absurd c (by decide), fun _ => ?_⟩⟩)
  obtain ⟨a1, a2, a3, a4, a5, a6, a7, a8⟩ := hok
  obtain ⟨b1, b2, b3, b4, b5⟩ := hXP.2 p' nds ho
  have hle := kt_s_le tp n p' b2
  have hq := kQt_r (tp := tp) (n := n) ho
  refine kc_takeEnd hf hU a2 b2 (fun c => ⟨kcs_f hf, ⟨fun c => absurd c (by decide), fun _ => ⟨Or.inr rfl, ?_⟩⟩⟩) (fun c => ⟨kcs_f hf, ⟨fun _ => ⟨Or.inl rfl, ?_⟩, fun c => absurd rfl c⟩⟩)
  · rw [if_pos c] at hq
    have hz : ∀ c, c ≠ 9 → ct_at s' (kt_s tp n p') c = s' c := fun c hc => funext fun k => ka_uN _ _ _ _ hc k
    have hfr : kCfr 12 sc' s' w' (ct_at s' (kt_s tp n p')) w' := ⟨fun k _ => ⟨rfl, hz _ (by omega), hz _ (by omega)⟩, fun j _ => by rw [hz 38 (by decide)]⟩
    refine e2 nds _ w' sc' hq (a3.1.trans y3) (a3.2.trans y4) ?_ (by omega) (fun j x hx => ?_)
    · have : s' 11 4 = nI (0 + nds.length) := a5
      rw [Nat.zero_add] at this
      exact this
    · have := a8 j x hx
      rw [Nat.zero_add] at this
      have hj := kls_lt hx
      exact this.cg hfr (by omega) (Nat.le_refl _)
  · rw [if_neg (by omega)] at hq
    exact e1 1 _ _ _ hq rfl rfl
end Q1
