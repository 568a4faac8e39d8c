/-! ===== shelves: the class makes a shelf ===== -/
/-- an object b under way: its fields, the cells that were made for it -/
def kMk (g : Nat × (Nat → Int32)) (h : ka_H) (b : Nat) (h1 : ka_H) (m s : Nat) (ib : Nat → Int32) (pb : Nat → Nat) (M : Nat → Nat × Nat) (C : Nat → Nat → Int32) : Prop := kf g h1 ∧ kIn h b h1 m s ∧ ka_I h1 b = ib ∧ ka_P h1 b = pb ∧ ∀ i, i < m → ka_K h1 (h.1 + i) = M i ∧ ka_I h1 (h.1 + i) = C i
section S7
variable {g : Nat × (Nat → Int32)} {h h1 : ka_H} {b m s : Nat} {ib : Nat → Int32} {pb : Nat → Nat} {M : Nat → Nat × Nat} {C : Nat → Nat → Int32}
theorem kMk.st (hf : kf g h) : kMk g h b h 0 0 (ka_I h b) (ka_P h b) (fun _ => (0, 0)) (fun _ _ => 0) := ⟨hf, kIn.rfl', rfl, rfl, fun i hi => absurd hi (Nat.not_lt_zero i)⟩
theorem kMk.K (q : kMk g h b h1 m s ib pb M C) {a : Nat} (ha : a < h.1) : ka_K h1 a = ka_K h a := q.2.1.2.2.1 a ha
theorem kMk.I (q : kMk g h b h1 m s ib pb M C) {a : Nat} (ha : a < h.1) (hb : a ≠ b) : ka_I h1 a = ka_I h a := (q.2.1.2.2.2 a ha hb).1
theorem kMk.Pp (q : kMk g h b h1 m s ib pb M C) {a : Nat} (ha : a < h.1) (hb : a ≠ b) : ka_P h1 a = ka_P h a := (q.2.1.2.2.2 a ha hb).2.1
theorem kMk.n (q : kMk g h b h1 m s ib pb M C) : h1.1 = h.1 + m := q.2.1.1
theorem kMk.new {kd sz sl : Nat} (q : kMk g h b h1 m s ib pb M C) (hb : b < h.1) (hn : h.1 + m < 1000000) : kMk g h b (ka_new h1 kd sz sl) (m + 1) (s + sl) ib pb (fun i => if i = m then (kd, sz) else M i) (fun i => if i = m then fun _ => 0 else C i) := by
  have hn1 := q.n
  refine ⟨kf_new q.1 (by omega), q.2.1.new, ((kNw_o (by omega)).2.1).trans q.2.2.1, ((kNw_o (by omega)).2.2).trans q.2.2.2.1, fun i hi => ?_⟩
  show _ = (if i = m then (kd, sz) else M i) ∧ _ = (if i = m then fun _ => 0 else C i)
  by_cases c : i = m
  · rw [if_pos c, if_pos c, c, ← hn1]
    exact ⟨kNw_K, if_pos rfl⟩
  · rw [if_neg c, if_neg c]
    have := q.2.2.2.2 i (by omega)
    exact ⟨(kNw_o (by omega)).1.trans this.1, (kNw_o (by omega)).2.1.trans this.2⟩
theorem kMk.sI {k : Nat} {v : Int32} (q : kMk g h b h1 m s ib pb M C) (hb : b < h.1) (hk : (ka_K h b).1 = 5) : kMk g h b (ka_sI h1 b k v) m s (fun j => if j = k then v else ib j) pb M C := by
  refine ⟨kf_sI q.1 (by rw [q.K hb, hk]; decide), q.2.1.sI, funext fun j => ?_, q.2.2.2.1, fun i hi => ⟨(q.2.2.2.2 i hi).1, (funext fun j => ka_uN _ _ _ _ (by omega) j : ka_I (ka_sI h1 b k v) (h.1 + i) = ka_I h1 (h.1 + i)).trans (q.2.2.2.2 i hi).2⟩⟩
  rw [← q.2.2.1]
  by_cases c : j = k
  · rw [if_pos c, c]; exact ka_uS _ _ _ _
  · rw [if_neg c]; exact ka_uJ _ _ _ _ _ c
theorem kMk.sP {k v : Nat} (q : kMk g h b h1 m s ib pb M C) (hb : b < h.1) (h103 : 103 ≤ b) (hk : (ka_K h b).1 = 5) : kMk g h b (ka_sP h1 b k v) m s ib (fun j => if j = k then v else pb j) M C := by
  refine ⟨kf_sP q.1 (by rw [q.K hb, hk]; decide) (fun z => ?_), q.2.1.sP, q.2.2.1, funext fun j => ?_, q.2.2.2.2⟩
  · have : b < 103 := Nat.le_of_ble_eq_true z
    omega
  · rw [← q.2.2.2.1]
    by_cases c : j = k
    · rw [if_pos c, c]; exact ka_uS _ _ _ _
    · rw [if_neg c]; exact ka_uJ _ _ _ _ _ c
theorem kMk.cl {sz : Nat} {f : Nat → Int32} (q : kMk g h b h1 m s ib pb M C) (hb : b < h.1) (hn : h.1 + m < 1000000) : kMk g h b (ka_sF (ka_new h1 30 sz sz) h1.1 f) (m + 1) (s + sz) ib pb (fun i => if i = m then (30, sz) else M i) (fun i => if i = m then f else C i) := by
  have hn1 := q.n
  obtain ⟨z1, z2, z3, z4, z5⟩ := q.new (kd := 30) (sz := sz) (sl := sz) hb hn
  have hne : ∀ a, a ≠ h1.1 → ka_I (ka_sF (ka_new h1 30 sz sz) h1.1 f) a = ka_I (ka_new h1 30 sz sz) a := fun a ha => if_neg ha
  refine ⟨kf_sF z1 (by rw [kNw_K]), ⟨z2.1, z2.2.1, z2.2.2.1, fun a ha hb => ⟨(hne a (by omega)).trans (z2.2.2.2 a ha hb).1, (z2.2.2.2 a ha hb).2⟩⟩, (hne b (by omega)).trans z3, z4, fun i hi => ⟨(z5 i hi).1, ?_⟩⟩
  show _ = (if i = m then f else C i)
  by_cases c : i = m
  · rw [if_pos c, c, ← hn1]
    exact if_pos rfl
  · rw [if_neg c]
    exact (hne _ (by omega)).trans ((z5 i hi).2.trans (if_neg c))
end S7
section S7b
variable {g : Nat × (Nat → Int32)} {d : Nat} {h : ka_H} {R : ka_R → ka_H → Prop} {b k SC c r1 r2 : Nat} {num : Int32} {x : kN}
/-- the tables that an operator hangs on: its own, those of its operands -/
def kTb (x : kN) (tab t1 t2 : Int32) : Int32 := (if x.1 = 0 then 1 <<< (tab &&& 31) else 0) ||| t1 ||| t2
theorem kc_sinit (hf : kf g h) (hb : 103 ≤ b) (hbn : b < h.1) (hn : h.1 + 3 ≤ 1000000) (hK : ka_K h b = (5, 14)) (hc : kCn (ka_I h) (fun a => ka_P h a 0) k x SC) (hk : k < 12) (hx : x.1 ≤ 13)
    (h1 : r1 = 0 ∨ (103 ≤ r1 ∧ r1 < b ∧ (ka_K h r1).1 = 5)) (h2 : r2 = 0 ∨ (103 ≤ r2 ∧ r2 < b ∧ (ka_K h r2).1 = 5))
    (e : ∀ h' ib pb M C, kMk g h b h' 3 528 ib pb M C → M 0 = (30, 256) → M 1 = (30, 256) → M 2 = (30, 16) → (∀ j, C 0 j = 0) → (∀ j, C 1 j = 0) → C 2 = ka_I h (40 + 2 * k) → ib 0 = num → ib 2 = ka_I h (39 + 2 * k) 1 → ib 12 = -1 → ib 7 = kTb x (ka_I h (39 + 2 * k) 1) (if r1 = 0 then 0 else ka_I h r1 7) (if r2 = 0 then 0 else ka_I h r2 7) → (∀ j, j = 10 ∨ j = 11 ∨ j = 13 → ib j = ka_I h b j) → pb 1 = 1000000 + x.1 → pb 3 = c → pb 4 = h.1 + 2 → pb 5 = r1 → pb 6 = r2 → pb 8 = h.1 → pb 9 = h.1 + 1 → R (.inl none) h') : kp_T (d + 1) 45 [.ref b, .int num, .ref (39 + 2 * k), .ref c, .ref r1, .ref r2] h R := by
  have hKb : (ka_K h b).1 = 5 := by rw [hK]
  have hpt : ∀ k, Nat.blt b 103 = true → Nat.beq (pt b k) 0 = true := fun k z => by
    have : b < 103 := Nat.le_of_ble_eq_true z
    omega
  have q0 := kMk.st (b := b) hf
  refine kd_in hf rfl rfl rfl (kd_seg (fun p => Nat.beq p 40) 90 ⟨show ¬ b = 0 by omega, ⟨⟨by decide, by decide, show h.1 < 1000000 by omega⟩, ?_⟩⟩)
  have q1 := q0.new (kd := 30) (sz := 256) (sl := 256) hbn (by omega)
  generalize h1e : ka_new h (ka_at .int) (Int32.ofInt 256).toNatClampNeg (Int32.ofInt 256).toNatClampNeg = H1
  rw [show ka_new h 30 256 256 = H1 from h1e] at q1
  refine ⟨by rw [q1.K hbn]; exact hKb, ⟨hpt 8, ?_⟩⟩
  have q2 := q1.sP (k := 8) (v := ka_n h) hbn hb hKb
  generalize ka_sP H1 b 8 (ka_n h) = H2 at q2
  refine ⟨⟨by decide, by decide, show H2.1 < 1000000 by have := q2.n; omega⟩, ?_⟩
  have q3 := q2.new (kd := 30) (sz := 256) (sl := 256) hbn (by omega)
  generalize h3e : ka_new H2 (ka_at .int) (Int32.ofInt 256).toNatClampNeg (Int32.ofInt 256).toNatClampNeg = H3
  rw [show ka_new H2 30 256 256 = H3 from h3e] at q3
  refine ⟨by rw [q3.K hbn]; exact hKb, ⟨hpt 9, ?_⟩⟩
  have q4 := q3.sP (k := 9) (v := ka_n H2) hbn hb hKb
  generalize ka_sP H3 b 9 (ka_n H2) = H4 at q4
  refine ⟨by rw [q4.K hbn]; exact hKb, ?_⟩
  have q5 := q4.sI (k := 12) (v := Int32.ofInt (-1)) hbn hKb
  generalize ka_sI H4 b 12 (Int32.ofInt (-1)) = H5 at q5
  refine ⟨by rw [q5.K hbn]; exact hKb, ?_⟩
  have q6 := q5.sI (k := 0) (v := num) hbn hKb
  generalize ka_sI H5 b 0 num = H6 at q6
  have hob : 39 + 2 * k ≠ b := by omega
  have hon : 39 + 2 * k < h.1 := by omega
  have hKo : ∀ {h1 m s ib pb M C}, kMk g h b h1 m s ib pb M C → (ka_K h1 (39 + 2 * k)).1 = 3 := fun q => (kE q.1 hk).2.1
  have hPo : ∀ {h1 m s ib pb M C}, kMk g h b h1 m s ib pb M C → kq_p h1 (39 + 2 * k) 0 = 1000000 + x.1 := fun q => (kq_p_s q.1 _ _).trans ((congrFun (q.Pp hon hob) 0).trans hc.1)
  have hIo : ∀ {h1 m s ib pb M C}, kMk g h b h1 m s ib pb M C → ka_I h1 (39 + 2 * k) 1 = ka_I h (39 + 2 * k) 1 := fun q => congrFun (q.I hon hob) 1
  refine ⟨hKo q6, ⟨by rw [q6.K hbn]; exact hKb, ⟨hpt 1, ?_⟩⟩⟩
  rw [hPo q6]
  have q7 := q6.sP (k := 1) (v := 1000000 + x.1) hbn hb hKb
  generalize ka_sP H6 b 1 (1000000 + x.1) = H7 at q7
  refine (kd_seg (fun p => Nat.beq p 79) 60 ⟨hKo q7, ⟨by rw [q7.K hbn]; exact hKb, ?_⟩⟩ : kd_ex g d 45 R 40 [.ref b, .int num, .ref (39 + 2 * k), .ref c, .ref r1, .ref r2] [] H7)
  rw [hIo q7]
  have q8 := q7.sI (k := 2) (v := ka_I h (39 + 2 * k) 1) hbn hKb
  generalize ka_sI H7 b 2 (ka_I h (39 + 2 * k) 1) = H8 at q8
  refine ⟨by rw [q8.K hbn]; exact hKb, ⟨hpt 3, ?_⟩⟩
  have q9 := q8.sP (k := 3) (v := c) hbn hb hKb
  generalize ka_sP H8 b 3 c = H9 at q9
  have h7 : kq_p H9 (39 + 2 * k) 7 = 40 + 2 * k := (kq_p_s q9.1 _ _).trans (kE q9.1 hk).2.2.1
  refine ⟨hKo q9, ?_⟩
  rw [h7]
  have h16 : kr H9 (40 + 2 * k) 16 := (kE q9.1 hk).2.2.2
  refine ⟨h16.1, ⟨⟨by unfold kd_z; rw [h16.2]; decide, show H9.1 < 1000000 by have := q9.n; omega⟩, ?_⟩⟩
  rw [show kd_z H9 (40 + 2 * k) = 16 from h16.2, show ka_I H9 (40 + 2 * k) = ka_I h (40 + 2 * k) from q9.I (by omega) (by omega)]
  have qa := q9.cl (sz := 16) (f := ka_I h (40 + 2 * k)) hbn (by omega)
  have n9 : ka_n H9 = h.1 + 2 := q9.n
  rw [show H9.1 = h.1 + 2 from n9] at qa
  rw [n9]
  generalize ka_sF (ka_new H9 30 16 16) (h.1 + 2) (ka_I h (40 + 2 * k)) = Ha at qa
  refine ⟨by rw [(qa.2.2.2.2 2 (by omega)).1]; rfl, ⟨by rw [qa.K hbn]; exact hKb, ⟨hpt 4, ?_⟩⟩⟩
  have qb := qa.sP (k := 4) (v := h.1 + 2) hbn hb hKb
  generalize ka_sP Ha b 4 (h.1 + 2) = Hb at qb
  refine ⟨by rw [qb.K hbn]; exact hKb, ⟨hpt 5, ?_⟩⟩
  have qc := qb.sP (k := 5) (v := r1) hbn hb hKb
  generalize ka_sP Hb b 5 r1 = Hc at qc
  refine ⟨by rw [qc.K hbn]; exact hKb, ⟨hpt 6, ?_⟩⟩
  have qd := qc.sP (k := 6) (v := r2) hbn hb hKb
  generalize ka_sP Hc b 6 r2 = Hd at qd
  have ht : ∀ r, (r = 0 ∨ (103 ≤ r ∧ r < b ∧ (ka_K h r).1 = 5)) → ¬ r = 0 → (ka_K Hd r).1 = 5 ∧ ka_I Hd r 7 = ka_I h r 7 := fun r hr hr0 => by
    rcases hr with z | z
    · exact absurd z hr0
    · exact ⟨by rw [qd.K (by omega)]; exact z.2.2, congrFun (qd.I (by omega) (by omega)) 7⟩
  have j129 : ∀ v t1 t2 : Int32, v ||| t1 ||| t2 = kTb x (ka_I h (39 + 2 * k) 1) (if r1 = 0 then 0 else ka_I h r1 7) (if r2 = 0 then 0 else ka_I h r2 7) → kd_ex g d 45 R 129 [.ref b, .int num, .ref (39 + 2 * k), .ref c, .ref r1, .ref r2] [.int t2, .int (v ||| t1), .ref b] Hd := by
    intro v t1 t2 hv
    refine kd_seg kp_no 10 ⟨by rw [qd.K hbn]; exact hKb, ?_⟩
    have qe := qd.sI (k := 7) (v := v ||| t1 ||| t2) hbn hKb
    refine e _ _ _ _ _ qe rfl rfl rfl (fun _ => rfl) (fun _ => rfl) rfl rfl rfl rfl hv (fun j hj => ?_) rfl rfl rfl rfl rfl rfl ?_
    · rcases hj with z | z | z
      · rw [z]; rfl
      · rw [z]; rfl
      · rw [z]; rfl
    · exact q2.n
  have j114 : ∀ v t1 : Int32, (∀ t2, t2 = (if r2 = 0 then 0 else ka_I h r2 7) → v ||| t1 ||| t2 = kTb x (ka_I h (39 + 2 * k) 1) (if r1 = 0 then 0 else ka_I h r1 7) (if r2 = 0 then 0 else ka_I h r2 7)) → kd_ex g d 45 R 114 [.ref b, .int num, .ref (39 + 2 * k), .ref c, .ref r1, .ref r2] [.int t1, .int v, .ref b] Hd := by
    intro v t1 hv
    refine kd_seg (fun p => Nat.beq p 129) 10 ⟨fun z => ?_, fun z => ?_⟩
    · have z' : ¬ r2 = 0 := z
      obtain ⟨y1, y2⟩ := ht r2 h2 z'
      refine ⟨y1, ?_⟩
      rw [y2]
      exact j129 v t1 _ (hv _ (by rw [if_neg z']))
    · have z' : r2 = 0 := z
      exact j129 v t1 0 (hv 0 (by rw [if_pos z']))
  have j100 : ∀ v : Int32, v = (if x.1 = 0 then 1 <<< (ka_I h (39 + 2 * k) 1 &&& 31) else 0) → kd_ex g d 45 R 100 [.ref b, .int num, .ref (39 + 2 * k), .ref c, .ref r1, .ref r2] [.int v, .ref b] Hd := by
    intro v hv
    refine kd_seg (fun p => Nat.beq p 114) 10 ⟨fun z => ?_, fun z => ?_⟩
    · have z' : ¬ r1 = 0 := z
      obtain ⟨y1, y2⟩ := ht r1 h1 z'
      refine ⟨y1, ?_⟩
      rw [y2]
      exact j114 v _ (fun t2 ht2 => by unfold kTb; rw [← hv, if_neg z', ht2])
    · have z' : r1 = 0 := z
      exact j114 v 0 (fun t2 ht2 => by unfold kTb; rw [← hv, if_pos z', ht2])
  refine (kd_seg (fun p => Nat.beq p 100) 20 ⟨hKo qd, ?_⟩ : kd_ex g d 45 R 79 [.ref b, .int num, .ref (39 + 2 * k), .ref c, .ref r1, .ref r2] [] Hd)
  rw [hPo qd]
  refine ⟨⟨(show 1000000 + x.1 < 1000014 by omega), by decide⟩, fun z => ?_, fun z => ⟨hKo qd, ?_⟩⟩
  · have z' : ¬ x.1 = 0 := fun y => z (by rw [y])
    exact j100 _ (by rw [if_neg z']; rfl)
  · have z' : x.1 = 0 := by
      have : 1000000 + x.1 = 1000000 := z
      omega
    rw [hIo qd]
    exact j100 _ (by rw [if_pos z']; rfl)
end S7b
