/-! ===== the class shelves: a node is put; all nodes ===== -/
section PG
variable {g : Nat × (Nat → Int32)} {d : Nat} {h0 h h' : ka_H} {R : ka_R → ka_H → Prop} {L : kAl} {Q : kAq} {sb qb st sh sb' : Nat → Nat} {nds : List kN} {i N c t : Nat} {ky : Nat → kKey} {x : kN}
theorem kCG.put (q : kCG g h0 Q sb nds i N ky sh sb' h) (hsh : ∀ j, j < i → sh j < N) (hold : ∀ s, s < qN Q → 103 ≤ sb s ∧ sb s + 5 ≤ h0.1) (h103 : 103 ≤ h0.1) (hx : nds[i]? = some x) (ht : t < N) (hf' : kf g (kPu h h0.1 i (sb' t) (nI x.2.2.2.2.1) (kRp sh t i))) :
    kCG g h0 Q sb nds (i + 1) N ky (fun j => if j = i then t else sh j) sb' (kPu h h0.1 i (sb' t) (nI x.2.2.2.2.1) (kRp sh t i)) := by
  obtain ⟨⟨a1, a2, a3, a4⟩, ⟨b1, b2, b3, b4, b5⟩, ⟨c1, c2, c3, c4, c5⟩, d1, e1, ⟨f1, f2, f3, f4⟩⟩ := q
  have f1' := f1
  obtain ⟨k1, k2, k3, k4, k5, k6, k7, k8, k9, k10, k11⟩ := f1'
  have sbl : ∀ s, s < N → 103 ≤ sb' s ∧ sb' s + 5 ≤ h.1 := fun s hs => (d1 s hs).1.1
  have dis : ∀ s, s < N → sb' s + 5 ≤ h0.1 ∨ h0.1 + 4 ≤ sb' s := fun s hs => by
    rcases Nat.lt_or_ge s (qN Q) with z | z
    · rw [c3 s z]; exact Or.inl (hold s z).2
    · exact Or.inr (c4 s z hs).1
  have dt := dis t ht
  have st' := sbl t ht
  generalize hr : kRp sh t i = r at hf'
  have oI : ∀ a, a ≠ sb' t → a ≠ h0.1 + 2 → a ≠ h0.1 + 3 → ka_I (kPu h h0.1 i (sb' t) (nI x.2.2.2.2.1) r) a = ka_I h a := fun a x1 x2 x3 => funext fun j => (ka_uN _ _ _ _ x1 j).trans ((ka_uN _ _ _ _ x2 j).trans (ka_uN _ _ _ _ x3 j))
  have oT : ∀ k, k ≠ 11 → ka_I (kPu h h0.1 i (sb' t) (nI x.2.2.2.2.1) r) (sb' t) k = ka_I h (sb' t) k := fun k hk => (ka_uJ _ (sb' t) 11 _ (sb' t) hk).trans ((ka_uN _ _ _ _ (by omega) k).trans (ka_uN _ _ _ _ (by omega) k))
  have nT : ka_I (kPu h h0.1 i (sb' t) (nI x.2.2.2.2.1) r) (sb' t) 11 = ka_I h (sb' t) 11 + (if r = true then 0 else 1) := ka_uS _ _ _ _
  have oP : ∀ a, a ≠ h0.1 + 1 → ka_P (kPu h h0.1 i (sb' t) (nI x.2.2.2.2.1) r) a = ka_P h a := fun a x1 => funext fun j => ka_uN _ _ _ _ x1 j
  have oP1 : ∀ j, j ≠ i → ka_P (kPu h h0.1 i (sb' t) (nI x.2.2.2.2.1) r) (h0.1 + 1) j = ka_P h (h0.1 + 1) j := fun j hj => ka_uJ _ _ _ _ _ hj
  have nP1 : ka_P (kPu h h0.1 i (sb' t) (nI x.2.2.2.2.1) r) (h0.1 + 1) i = sb' t := ka_uS _ _ _ _
  have o2 : ∀ j, j ≠ i → ka_I (kPu h h0.1 i (sb' t) (nI x.2.2.2.2.1) r) (h0.1 + 2) j = ka_I h (h0.1 + 2) j := fun j hj => (ka_uN _ _ _ _ (by omega) j).trans ((ka_uJ _ _ _ _ _ hj).trans (ka_uN _ _ _ _ (by omega) j))
  have n2 : ka_I (kPu h h0.1 i (sb' t) (nI x.2.2.2.2.1) r) (h0.1 + 2) i = nI x.2.2.2.2.1 := (ka_uN _ _ _ _ (by omega) i).trans (ka_uS _ _ _ _)
  have o3 : ∀ j, j ≠ i → ka_I (kPu h h0.1 i (sb' t) (nI x.2.2.2.2.1) r) (h0.1 + 3) j = ka_I h (h0.1 + 3) j := fun j hj => (ka_uN _ _ _ _ (by omega) j).trans ((ka_uN _ _ _ _ (by omega) j).trans (ka_uJ _ _ _ _ _ hj))
  have n3 : ka_I (kPu h h0.1 i (sb' t) (nI x.2.2.2.2.1) r) (h0.1 + 3) i = bI r := (ka_uN _ _ _ _ (by omega) i).trans ((ka_uN _ _ _ _ (by omega) i).trans (ka_uS _ _ _ _))
  have rpc : ∀ s, kRp (fun j => if j = i then t else sh j) s (i + 1) = (kRp sh s i || decide (t = s)) := fun s => by
    show (kRp _ s i || decide ((if i = i then t else sh i) = s)) = _
    rw [if_pos rfl, kRp_cg (f := fun j => if j = i then t else sh j) (f' := sh) i (fun j hj => if_neg (by omega))]
  refine ⟨⟨hf', a2, a3, a4⟩, ⟨b1, fun a ha h1 hs => ?_, fun k hk => ?_, fun s k hs hk => ?_, fun a ha h68 => ?_⟩, ⟨?_, c2, c3, c4, fun s hs => ?_⟩, fun s hs => ⟨?_, ?_⟩, fun s h1 h2 => ?_, ⟨?_, ?_, fun j y hj hy => ?_, fun j hj => ?_⟩⟩
  · by_cases z : a = sb' t
    · exfalso
      rcases Nat.lt_or_ge t (qN Q) with u | u
      · exact hs t u (by rw [z, c3 t u])
      · have := (c4 t u ht).1; omega
    · rw [oI a z (by omega) (by omega)]; exact b2 a ha h1 hs
  · rw [oI 1 (by omega) (by omega) (by omega)]; exact b3 k hk
  · have := hold s hs
    by_cases z : sb s = sb' t
    · rw [z, oT k hk, ← z]; exact b4 s k hs hk
    · rw [oI _ z (by omega) (by omega)]; exact b4 s k hs hk
  · rw [oP a (by omega)]; exact b5 a ha h68
  · rw [oI 1 (by omega) (by omega) (by omega)]; exact c1
  · rw [oP 68 (by omega)]; exact c5 s hs
  · have := dis s hs
    refine (d1 s hs).1.pu (by omega) ?_
    by_cases z : s = t
    · exact Or.inl (by rw [z])
    · rcases c2.ne ht hs z with u | u
      · exact Or.inr (Or.inr u)
      · exact Or.inr (Or.inl u)
  · rw [rpc]
    by_cases z : s = t
    · subst z
      rw [nT, (d1 s hs).2, decide_eq_true rfl, Bool.or_true, if_pos rfl, hr]
      cases r with
      | true => rw [if_pos rfl, if_pos rfl, Int32.add_zero]
      | false => rw [if_neg (by decide), if_neg (by decide), Nat.add_zero, nI_succ]
    · have u := c2.ne ht hs z
      have := dis s hs
      rw [oI _ (by omega) (by omega) (by omega), decide_eq_false (fun y => z y.symm), Bool.or_false]
      exact (d1 s hs).2
  · have hd := dis s h2
    have hsl := sbl s h2
    obtain ⟨y1, y2, y3⟩ := e1 s h1 h2
    by_cases z : s = t
    · subst z
      rw [oT 10 (by decide), oT 12 (by decide), oI _ (by omega) (by omega) (by omega)]
      exact ⟨y1, y2, y3⟩
    · have u := c2.ne ht h2 z
      rw [oI (sb' s) (by omega) (by omega) (by omega), oI (sb' s + 2) (by omega) (by omega) (by omega)]
      exact ⟨y1, y2, y3⟩
  · exact f1.pu (Or.inl rfl) (by omega)
  · rw [oI _ (by omega) (by omega) (by omega)]; exact f2
  · show ka_P _ (h0.1 + 1) j = sb' (if j = i then t else sh j) ∧ _ ∧ _ = bI (kRp (fun j => if j = i then t else sh j) (if j = i then t else sh j) j)
    rw [kRp_cg (f := fun j => if j = i then t else sh j) (f' := sh) j (fun k hk => if_neg (by omega))]
    by_cases z : j = i
    · subst z
      have : x = y := Option.some.inj (hx.symm.trans hy)
      rw [if_pos rfl, nP1, n2, n3, hr, this]
      exact ⟨rfl, rfl, rfl⟩
    · rw [if_neg z, oP1 j z, o2 j z, o3 j z]
      exact f3 j y (by omega) hy
  · rw [o3 j (by omega)]; exact f4 j (by omega)
theorem kKv.le {N N' : Nat} {k : kKey} (h : kKv N k) (hN : N ≤ N') : kKv N' k := ⟨h.1, h.2.1, Nat.le_trans h.2.2.1 hN, Nat.le_trans h.2.2.2.1 hN, h.2.2.2.2⟩
theorem kCn_eq2 {h h1 : ka_H} {k SC : Nat} {x : kN} (hc : kCn (ka_I h) (fun a => ka_P h a 0) k x SC) (hk : k < 12) (hI : ∀ a, 38 ≤ a → a ≤ 62 → ka_I h1 a = ka_I h a) (hP : ∀ a, 38 ≤ a → a ≤ 62 → ka_P h1 a = ka_P h a) : kCn (ka_I h1) (fun a => ka_P h1 a 0) k x SC := by
  unfold kCn at hc ⊢
  rw [hI (39 + 2 * k) (by omega) (by omega), hI (40 + 2 * k) (by omega) (by omega), hI 38 (by omega) (by omega)]
  exact ⟨(congrFun (hP (39 + 2 * k) (by omega) (by omega)) 0).trans hc.1, hc.2⟩
end PG
