/-! ===== the class shelves a whole question ===== -/
section SG
variable {g : Nat × (Nat → Int32)} {d : Nat} {h0 h : ka_H} {R : ka_R → ka_H → Prop} {L : kAl} {Q : kAq} {sb qb st : Nat → Nat} {nds : List kN} {c SC : Nat}
theorem kc_qatR {b n r : Nat} {v : Int32} (hf : kf g h) (hQ : kQc h b n) (hv : (v = -1 ∧ r = 0) ∨ ∃ k, k < n ∧ v = nI k ∧ r = ka_P h (b + 1) k) (e : R (.inl (some (.ref r))) h) : kp_T (d + 1) 39 [.ref b, .int v] h R := by
  rcases hv with ⟨rfl, rfl⟩ | ⟨k, hk, rfl, rfl⟩
  · exact kc_qat0 hf e
  · exact kc_qat1 hf hQ hk e
theorem kc_shelved (hf : kf g h0) (hcap : h0.1 + 64 ≤ 1000000) (w : kcq L Q sb qb st h0) (wq : kWq c Q) (h6 : qQ Q < 6) (hl : 1 ≤ nds.length ∧ nds.length ≤ 12) (hNl : kNl 0 nds) (hen : ka_I h0 11 4 = nI nds.length) (hSC : SC ≤ 200) (hcn : ∀ j x, nds[j]? = some x → kCn (ka_I h0) (fun a => ka_P h0 a 0) j x SC)
    (e : ∀ h' sb', kCG g h0 Q sb nds nds.length (kSv nds (qN Q) (qKy Q) (qLv Q) nds.length).1 (kSv nds (qN Q) (qKy Q) (qLv Q) nds.length).2.1 (kSv nds (qN Q) (qKy Q) (qLv Q) nds.length).2.2 sb' h' → R (.inl (some (.ref h0.1))) h') : kp_T (d + 7) 126 [.ref 1] h0 R := by
  have h103 := hf.1
  have hNq := wq.2.1
  have hold : ∀ s, s < qN Q → 103 ≤ sb s ∧ sb s + 5 ≤ h0.1 := fun s hs => (w.2.2.2.2.1 s hs).1.1
  have hk0 : ∀ s, s < qN Q → kKw s (qKy Q s) := fun s hs => (wq.2.2.2.1 s hs).1
  have main : ∀ m i sb' h, i + m = nds.length → kCG g h0 Q sb nds i (kSv nds (qN Q) (qKy Q) (qLv Q) i).1 (kSv nds (qN Q) (qKy Q) (qLv Q) i).2.1 (kSv nds (qN Q) (qKy Q) (qLv Q) i).2.2 sb' h → ∀ z3 z4 z5 z6, kd_ex g (d + 6) 126 R 17 [.ref 1, .ref h0.1, .int (nI i), z3, z4, z5, z6] [] h := by
    intro m
    induction m with
    | zero =>
      intro i sb' h hi q z3 z4 z5 z6
      have hf1 := q.1.1
      have en1 : ka_I h 11 4 = nI nds.length := by rw [q.2.1.2.1 11 (by omega) (by omega) (fun s hs => by have := hold s hs; omega)]; exact hen
      refine kd_seg (fun p => Nat.beq p 17) 20 ⟨kK hf1 rfl rfl, ⟨kK hf1 (a := 11) rfl rfl, ?_⟩⟩
      rw [show ka_I h (kq_p h 1 2) 4 = nI nds.length from en1]
      refine ⟨fun _ => ?_, fun y => absurd y (nI_nlt (by omega) (by omega))⟩
      rw [show i = nds.length by omega] at q
      exact e h sb' q
    | succ m ih =>
      intro i sb' h hi q z3 z4 z5 z6
      have hx : nds[i]? = some nds[i] := List.getElem?_eq_getElem (by omega)
      generalize nds[i] = x at hx
      have hok := kSv_ok (lv := qLv Q) hNl hk0 i (by omega)
      obtain ⟨b1, b2, b3⟩ := kSv_N (nds := nds) (N0 := qN Q) (ky0 := qKy Q) (lv := qLv Q) i (by omega)
      have hlv : ∀ s, s < (kSv nds (qN Q) (qKy Q) (qLv Q) i).1 → (0 < qC Q s + (if kRp (kSv nds (qN Q) (qKy Q) (qLv Q) i).2.2 s i = true then 1 else 0) ↔ (qLv Q s || Nat.ble (qN Q) s) = true) := fun s hs => kSv_lv wq hNl (by omega) hs
      have hsv := kSv_s (N0 := qN Q) (ky0 := qKy Q) (lv := qLv Q) hx
      have hin := fun s => kSx_in (nds := nds) (N0 := qN Q) (ky0 := qKy Q) (lv := qLv Q) (i := i) (s := s) (x := x)
      have hno := kSx_no (nds := nds) (N0 := qN Q) (ky0 := qKy Q) (lv := qLv Q) (i := i) (x := x)
      have hkx : kNf 0 i x := (hNl i x hx).1
      have hH := (hNl i x hx).2.2.1.1
      have ih' := ih (i + 1)
      rw [hsv] at ih'
      generalize kSx nds (qN Q) (qKy Q) (qLv Q) i x = tt at hin hno ih'
      obtain ⟨o1, o2, o3, o4, o5⟩ := hok
      generalize (kSv nds (qN Q) (qKy Q) (qLv Q) i).1 = N at q b1 b2 b3 hlv o2 o4 hin hno ih'
      generalize (kSv nds (qN Q) (qKy Q) (qLv Q) i).2.1 = ky at q o1 o2 o3 hin hno ih'
      generalize (kSv nds (qN Q) (qKy Q) (qLv Q) i).2.2 = sh at q b3 hlv o3 o4 o5 hin hno ih'
      have q' := q
      obtain ⟨⟨a1, a2, a3, a4⟩, ⟨f1, f2, f3, f4, f5⟩, ⟨c1, c2, c3, c4, c5⟩, d1, e1, ⟨k1, k2, k3, k4⟩⟩ := q'
      have en1 : ka_I h 11 4 = nI nds.length := by rw [f2 11 (by omega) (by omega) (fun s hs => by have := hold s hs; omega)]; exact hen
      have hcI : kCn (ka_I h) (fun a => ka_P h a 0) i x SC := kCn_eq2 (hcn i x hx) (by omega) (fun a x1 x2 => f2 a (by omega) (by omega) (fun s hs => by have := hold s hs; omega)) (fun a x1 x2 => f5 a (by omega) (by omega))
      have hKe : (ka_K h (39 + 2 * i)).1 = 3 := (kE a1 (by omega)).2.1
      have hKb : (ka_K h h0.1).1 = 4 := by rw [k1.2.2.1]
      have hK1 : (ka_K h 1).1 = 8 := kK a1 rfl rfl
      have hkx' := hkx
      obtain ⟨n1, n2, n3, n4, -⟩ := hkx'
      rw [Nat.zero_add] at n3 n4
      have hw : kKw N (kKy x sh) := kKy_w hkx b3
      have hcI' := hcI
      obtain ⟨x1, x2, x3, x4, x5, -⟩ := hcI'
      -- a node is put on shelf t
      have j93 : ∀ N' ky' sb'' t h1 z4 z5 z6, kCG g h0 Q sb nds i N' ky' sh sb'' h1 → t < N' → (∀ j, j < i → sh j < N') → (∀ sb' h, kCG g h0 Q sb nds (i + 1) N' ky' (fun j => if j = i then t else sh j) sb' h → ∀ z3 z4 z5 z6, kd_ex g (d + 6) 126 R 17 [.ref 1, .ref h0.1, .int (nI (i + 1)), z3, z4, z5, z6] [] h) → kd_ex g (d + 6) 126 R 93 [.ref 1, .ref h0.1, .int (nI i), .ref (39 + 2 * i), z4, z5, z6] [.ref (sb'' t), .int (nI i), .ref h0.1] h1 := by
        intro N' ky' sb'' t h1 z4 z5 z6 q1 ht hsh nxt
        have q1' := q1
        obtain ⟨⟨aa1, aa2, aa3, aa4⟩, ⟨ff1, ff2, ff3, ff4, ff5⟩, ⟨cc1, cc2, cc3, cc4, cc5⟩, dd1, ee1, ⟨kk1, kk2, kk3, kk4⟩⟩ := q1'
        have i2 : ka_I h1 (39 + 2 * i) 2 = nI x.2.2.2.2.1 := by rw [ff2 _ (by omega) (by omega) (fun s hs => by have := hold s hs; omega)]; exact (hcn i x hx).2.2.1
        refine kd_seg (fun p => Nat.beq p 17) 20 ⟨(kE aa1 (by omega)).2.1, ⟨by rw [kk1.2.2.1], ?_⟩⟩
        rw [i2]
        have hs := (dd1 t ht).1
        have hdis : sb'' t < h0.1 ∨ h0.1 + 4 ≤ sb'' t := by
          rcases Nat.lt_or_ge t (qN Q) with z | z
          · rw [cc3 t z]; have := hold t z; omega
          · exact Or.inr (cc4 t z ht).1
        have erp : kRp (fun j => sb'' (sh j)) (sb'' t) i = kRp sh t i := kRp_inj i (fun j hj => ⟨fun u => cc2.inj (hsh j hj) ht u, fun u => by rw [u]⟩)
        refine kc_put (sp := fun j => sb'' (sh j)) aa1 kk1 (by omega) hs.2.1.1 (cc2.1 t ht) hdis (fun j hj => ?_) (kk4 i (Nat.le_refl _)) (by omega) (fun fp => ⟨fp, ?_⟩)
        · obtain ⟨y, hy⟩ := kls_at (l := nds) (k := j) (by omega)
          exact ⟨(kk3 j y hj hy).1, (cc2.1 _ (hsh j hj)).2⟩
        · rw [erp] at fp ⊢
          have := nxt sb'' _ (q1.put hsh hold h103 hx ht fp) (.ref (39 + 2 * i)) z4 z5 z6
          rw [nI_succ] at this
          exact this
      -- the operands' shelves
      have p1 : ks_r sb' (kKy x sh).2.2.1 = if x.1 = 0 then 0 else sb' (sh x.2.2.1) := by
        show (if (if x.1 = 0 then 0 else sh x.2.2.1 + 1) = 0 then 0 else sb' ((if x.1 = 0 then 0 else sh x.2.2.1 + 1) - 1)) = _
        by_cases z : x.1 = 0
        · rw [if_pos z, if_pos rfl, if_pos z]
        · rw [if_neg z, if_neg (by omega), if_neg z, Nat.add_sub_cancel]
      have p2 : ks_r sb' (kKy x sh).2.2.2.1 = if 9 ≤ x.1 ∧ x.1 ≤ 12 then sb' (sh x.2.2.2.1) else 0 := by
        show (if (if 9 ≤ x.1 ∧ x.1 ≤ 12 then sh x.2.2.2.1 + 1 else 0) = 0 then 0 else sb' ((if 9 ≤ x.1 ∧ x.1 ≤ 12 then sh x.2.2.2.1 + 1 else 0) - 1)) = _
        by_cases z : 9 ≤ x.1 ∧ x.1 ≤ 12
        · rw [if_pos z, if_neg (by omega), if_pos z, Nat.add_sub_cancel]
        · rw [if_neg z, if_pos rfl, if_neg z]
      have okr : ∀ v, v ≤ N → ks_r sb' v = 0 ∨ (103 ≤ ks_r sb' v ∧ ks_r sb' v < h.1 ∧ (ka_K h (ks_r sb' v)).1 = 5) := fun v hv => by
        unfold ks_r
        by_cases z : v = 0
        · rw [if_pos z]; exact Or.inl rfl
        · rw [if_neg z]
          have := (d1 (v - 1) (by omega)).1
          exact Or.inr ⟨this.1.1, by have := this.1.2; omega, by rw [this.2.1.1]⟩
      refine kd_seg (fun p => Nat.beq p 17 || Nat.beq p 93) 60 ⟨hK1, ⟨kK a1 (a := 11) rfl rfl, ?_⟩⟩
      rw [show ka_I h (kq_p h 1 2) 4 = nI nds.length from en1]
      refine ⟨fun y => absurd (nI_lt (by omega) (by omega)) y, fun _ => ⟨hK1, ⟨kK a1 (a := 11) rfl rfl, ?_⟩⟩⟩
      refine kc_dat a1 en1 (by omega) hl.2 ⟨a1, ⟨fun y => absurd (show 39 + 2 * i = 0 from y) (by omega), fun _ => ⟨hKe, ⟨hKb, ?_⟩⟩⟩⟩
      rw [x4]
      refine kc_qatR (r := ks_r sb' (kKy x sh).2.2.1) a1 k1 ?_ ⟨a1, ⟨hKe, ⟨hKb, ?_⟩⟩⟩
      · rw [p1]
        by_cases z : x.1 = 0
        · rw [if_pos z, if_pos z]; exact Or.inl ⟨rfl, rfl⟩
        · rw [if_neg z, if_neg z]
          have h3 := n3 (by omega)
          obtain ⟨y, hy⟩ := kls_at (l := nds) (k := x.2.2.1) (by omega)
          exact Or.inr ⟨_, by omega, rfl, ((k3 _ y h3 hy).1).symm⟩
      rw [x5]
      refine kc_qatR (r := ks_r sb' (kKy x sh).2.2.2.1) a1 k1 ?_ ⟨a1, ⟨hK1, ?_⟩⟩
      · rw [p2]
        by_cases z : 9 ≤ x.1 ∧ x.1 ≤ 12
        · rw [if_pos z, if_pos z]
          have h4 := n4 z.1 z.2
          obtain ⟨y, hy⟩ := kls_at (l := nds) (k := x.2.2.2.1) (by omega)
          exact Or.inr ⟨_, by omega, rfl, ((k3 _ y h4 hy).1).symm⟩
        · rw [if_neg z, if_neg z]; exact Or.inl ⟨rfl, rfl⟩
      have hqc : ∀ s, qC Q s + (if kRp sh s i = true then 1 else 0) ≤ 6 := fun s => by
        have : qC Q s ≤ qQ Q := kNum_le2 _
        split <;> omega
      refine kc_alike (ky := ky) (Hh := fun s => kHk (ky s).2.2.2.2) (tb := fun s => kMs ky s) (f := sh) (qc := fun s => qC Q s + (if kRp sh s i = true then 1 else 0)) a1 c1 (by omega) hcI (by omega) hSC c2 (fun s hs => by rw [c5 s (by omega), if_pos hs]) (fun s hs => (d1 s hs).1) (fun s hs => (o2 s hs).1.le (by omega)) hw.1 (fun s hs => ⟨(d1 s hs).2, hqc s⟩) (fun s hs p0 pk pm => ⟨a1, ?_⟩) (fun pm => ⟨a1, ?_⟩)
      · have et : tt = s := hin s hs ((hlv s hs).mp p0) pk (fun s' h' u => pm s' h' ⟨(hlv s' (by omega)).mpr u.1, u.2⟩)
        refine ⟨fun _ => ?_, fun y => absurd y (show sb' s ≠ 0 by have := (d1 s hs).1.1.1; omega)⟩
        refine j93 N (fun s => if s = N then kKy x sh else ky s) sb' s h _ _ _ (q.cg (fun s hs => if_neg (by omega))) hs b3 (fun sb2 h2 q2 z3 z4 z5 z6 => ?_)
        rw [et, if_pos hs] at ih'
        exact ih' sb2 h2 (by omega) q2 z3 z4 z5 z6
      · have et : tt = N := hno (fun s' h' u => pm s' h' ⟨(hlv s' h').mpr u.1, u.2⟩)
        refine ⟨fun y => absurd rfl y, fun _ => ⟨hK1, ?_⟩⟩
        refine kc_newShelf (sb := sb') (f := sh) (N := N) a1 (by omega) (by omega) c1 (by omega) hcI (by omega) hSC n1 (okr _ hw.1.2.2.1) (okr _ hw.1.2.2.2.1) rfl rfl (fun h2 g1 g2 g3 g4 g5 g6 g7 g8 => ⟨g1, ?_⟩)
        have qn := q.new wq b3 hold h103 (by omega) hkx hw o2 hH g1 g2 x2 g3 g4 g5 g6 g7
        have := j93 (N + 1) (fun s => if s = N then kKy x sh else ky s) (fun s => if s = N then h.1 else sb' s) N h2 (.ref (ks_r sb' (kKy x sh).2.2.1)) (.ref (ks_r sb' (kKy x sh).2.2.2.1)) (.ref 0) qn (by omega) (fun j hj => by have := b3 j hj; omega) (fun sb2 h2 q2 z3 z4 z5 z6 => by
          rw [et, if_neg (by omega)] at ih'
          exact ih' sb2 h2 (by omega) q2 z3 z4 z5 z6)
        rw [if_pos rfl] at this
        exact this
  refine kd_in hf rfl rfl rfl (kd_seg (fun p => Nat.beq p 17) 20 ⟨show h0.1 < 1000000 by omega, ?_⟩)
  generalize hAe : ka_new h0 4 5 5 = hA
  have fA : kf g hA := by rw [← hAe]; exact kf_new hf (by omega)
  have nA : hA.1 = h0.1 + 1 := by rw [← hAe]; rfl
  have sA : hA.2.1 = h0.2.1 + 5 := by rw [← hAe]; rfl
  have oA : ∀ a, a ≠ h0.1 → ka_K hA a = ka_K h0 a ∧ ka_I hA a = ka_I h0 a ∧ ka_P hA a = ka_P h0 a := fun a ha => by rw [← hAe]; exact kNw_o ha
  have kA : ka_K hA h0.1 = (4, 5) := by rw [← hAe]; exact kNw_K
  have zA : ∀ j, ka_I hA h0.1 j = 0 := fun j => by rw [← hAe]; exact congrFun (if_pos rfl) j
  refine ⟨kK fA rfl rfl, ⟨kK fA (a := 11) rfl rfl, ⟨by show ¬ h0.1 = 0; omega, ?_⟩⟩⟩
  rw [show ka_I hA (kq_p hA 1 2) 4 = nI nds.length by rw [show kq_p hA 1 2 = 11 from rfl, (oA 11 (by omega)).2.1]; exact hen]
  refine kq_cnV (kc_qinit (b := h0.1) (n := nI nds.length) fA h103 (by omega) (by omega) kA (fun h1 t1 t2 t3 t4 t5 t6 t7 t8 t9 t10 t11 t12 => ⟨rfl, t1, ?_⟩))
  obtain ⟨u1, u2, u3, u4⟩ := t2
  rw [nA] at t3 t4 t5 t6 t7 t8 t11 t12 u3 u4
  have nN : ∀ s, ¬ s < qN Q → qN Q ≤ s := fun s hs => by omega
  refine main nds.length 0 sb h1 (Nat.zero_add _) ?_ _ _ _ _
  have fr : ∀ a, a < h0.1 → ka_K h1 a = ka_K h0 a ∧ ka_I h1 a = ka_I h0 a ∧ ka_P h1 a = ka_P h0 a := fun a ha => by
    have := oA a (by omega)
    rw [u3 a (by omega), (u4 a (by omega) (by omega)).1, (u4 a (by omega) (by omega)).2.1]
    exact this
  refine ⟨⟨t1, ?_, ?_, Nat.le_refl _⟩, ⟨fun a ha => (fr a ha).1, fun a ha _ _ => (fr a ha).2.1, fun k _ => by rw [(fr 1 (by omega)).2.1], fun s k hs _ => by rw [(fr _ (by have := hold s hs; omega)).2.1], fun a ha _ => (fr a ha).2.2⟩, ⟨?_, w.2.2.1, fun _ _ => rfl, fun s s1 s2 => ?_, fun s hs => ?_⟩, fun s hs => ⟨?_, ?_⟩, fun s s1 s2 => ?_, ⟨?_, ?_, fun j x hj => absurd hj (Nat.not_lt_zero j), fun j _ => t12 j⟩⟩
  · show h1.1 = h0.1 + 4 + 5 * (qN Q - qN Q)
    omega
  · show h1.2.1 ≤ h0.2.1 + 41 + 742 * (qN Q - qN Q)
    omega
  · rw [(fr 1 (by omega)).2.1]; exact w.1.1
  · have s2' : s < qN Q := s2
    omega
  · rw [(fr 68 (by omega)).2.2]; exact w.2.2.2.1 s hs
  · have hs' : s < qN Q := hs
    have := hold s hs'
    have ck := (w.2.2.2.2.1 s hs').1
    exact ck.st (by omega) (fun a ha => (fr a ha).1) (fr _ (by omega)).2.2 (fun k _ => by rw [(fr _ (by omega)).2.1]) (fr _ (by omega)).2.1 (fr _ (by omega)).2.1 rfl rfl
  · have hs' : s < qN Q := hs
    have := hold s hs'
    rw [(fr _ (by omega)).2.1, (w.2.2.2.2.1 s hs').2.2.1]
    rfl
  · have s2' : s < qN Q := s2
    omega
  · refine ⟨h103, by omega, ?_, t3, t4, t5, t6, t7, t8, t9, hl.2⟩
    rw [u3 _ (by omega)]; exact kA
  · rw [t10 4 (by decide)]; exact zA 4
end SG
