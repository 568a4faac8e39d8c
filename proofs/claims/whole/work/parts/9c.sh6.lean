/-! ===== shelves: the class makes a question ===== -/
theorem kq_cnV {g : Nat × (Nat → Int32)} {d m' : Nat} {as : List Value} {h : ka_H} {P : Option Value → ka_H → Prop} (hT : kp_T d m' as h (fun r h' => r = .inl none ∧ kf g h' ∧ P none h')) : ∃ (v' : Option Value) (h' : ka_H), ka_run d m' as h (.inl v') h' ∧ kf g h' ∧ P v' h' := by
  obtain ⟨r, h', q, rfl, h1, h2⟩ := hT
  exact ⟨_, _, q, h1, h2⟩
/-- what stood stands, but for cell b -/
def kIn (h : ka_H) (b : Nat) (h1 : ka_H) (m sl : Nat) : Prop := h1.1 = h.1 + m ∧ h1.2.1 = h.2.1 + sl ∧ (∀ a, a < h.1 → ka_K h1 a = ka_K h a) ∧ ∀ a, a < h.1 → a ≠ b → ka_I h1 a = ka_I h a ∧ ka_P h1 a = ka_P h a ∧ ka_J h1 a = ka_J h a
theorem kIn.rfl' {h : ka_H} {b : Nat} : kIn h b h 0 0 := ⟨rfl, rfl, fun _ _ => rfl, fun _ _ _ => ⟨rfl, rfl, rfl⟩⟩
theorem kIn.new {h h1 : ka_H} {b m s kd sz sl : Nat} (q : kIn h b h1 m s) : kIn h b (ka_new h1 kd sz sl) (m + 1) (s + sl) := by
  obtain ⟨q1, q2, q3, q4⟩ := q
  refine ⟨by show h1.1 + 1 = _; omega, by show h1.2.1 + sl = _; omega, fun a ha => ?_, fun a ha hb => ?_⟩
  · rw [← q3 a ha]; exact if_neg (by omega)
  · have hne : ¬ a = h1.1 := by omega
    rw [← (q4 a ha hb).1, ← (q4 a ha hb).2.1, ← (q4 a ha hb).2.2]
    exact ⟨if_neg hne, if_neg hne, if_neg hne⟩
theorem kIn.sI {h h1 : ka_H} {b m s k : Nat} {v : Int32} (q : kIn h b h1 m s) : kIn h b (ka_sI h1 b k v) m s := ⟨q.1, q.2.1, q.2.2.1, fun a ha hb => ⟨(funext fun j => ka_uN _ _ _ _ hb j : ka_I (ka_sI h1 b k v) a = ka_I h1 a).trans (q.2.2.2 a ha hb).1, (q.2.2.2 a ha hb).2⟩⟩
theorem kIn.sP {h h1 : ka_H} {b m s k v : Nat} (q : kIn h b h1 m s) : kIn h b (ka_sP h1 b k v) m s := ⟨q.1, q.2.1, q.2.2.1, fun a ha hb => ⟨(q.2.2.2 a ha hb).1, (funext fun j => ka_uN _ _ _ _ hb j : ka_P (ka_sP h1 b k v) a = ka_P h1 a).trans (q.2.2.2 a ha hb).2.1, (q.2.2.2 a ha hb).2.2⟩⟩
/-- a cell behind h stands while b and new ones are written -/
theorem kNw_o {h : ka_H} {kd sz sl a : Nat} (ha : a ≠ h.1) : ka_K (ka_new h kd sz sl) a = ka_K h a ∧ ka_I (ka_new h kd sz sl) a = ka_I h a ∧ ka_P (ka_new h kd sz sl) a = ka_P h a := ⟨if_neg ha, if_neg ha, if_neg ha⟩
section S6
variable {g : Nat × (Nat → Int32)} {d : Nat} {h : ka_H} {R : ka_R → ka_H → Prop} {b : Nat} {n : Int32}
theorem kc_qinit (hf : kf g h) (hb : 103 ≤ b) (hbn : b < h.1) (hn : h.1 + 3 ≤ 1000000) (hK : ka_K h b = (4, 5))
    (e : ∀ h', kf g h' → kIn h b h' 3 36 → ka_K h' h.1 = (34, 12) → ka_K h' (h.1 + 1) = (30, 12) → ka_K h' (h.1 + 2) = (31, 12) → ka_P h' b 1 = h.1 → ka_P h' b 2 = h.1 + 1 → ka_P h' b 3 = h.1 + 2 → ka_I h' b 0 = n → (∀ k, k ≠ 0 → ka_I h' b k = ka_I h b k) → (∀ k, ka_P h' h.1 k = 0) → (∀ k, ka_I h' (h.1 + 2) k = 0) → R (.inl none) h') : kp_T (d + 1) 37 [.ref b, .int n] h R := by
  have hpt : ∀ k, Nat.blt b 103 = true → Nat.beq (pt b k) 0 = true := fun k z => by
    have : b < 103 := Nat.le_of_ble_eq_true z
    omega
  refine kd_in hf rfl rfl rfl (kd_seg kp_no 60 ⟨show ¬ b = 0 by omega, ⟨⟨by decide, by decide, by decide, by decide, show h.1 < 1000000 by omega⟩, ?_⟩⟩)
  generalize h1e : ka_new h (39 - 5) (Int32.ofInt 12).toNatClampNeg (Int32.ofInt 12).toNatClampNeg = h1
  have f1 : kf g h1 := by rw [← h1e]; exact kf_new hf (by omega)
  have i1 : kIn h b h1 1 12 := by rw [← h1e]; exact kIn.rfl'.new (sl := 12)
  have hK1 : (ka_K h1 b).1 = 4 := by rw [i1.2.2.1 b hbn, hK]
  refine ⟨hK1, ⟨hpt 1, ?_⟩⟩
  have n1 : h1.1 = h.1 + 1 := i1.1
  have k1 : ka_K h1 h.1 = (34, 12) := by rw [← h1e]; exact kNw_K
  have z1 : ∀ k, ka_P h1 h.1 k = 0 := fun k => by rw [← h1e]; exact congrFun (if_pos rfl) k
  have b1 : ka_I h1 b = ka_I h b := by rw [← h1e]; exact (kNw_o (by omega)).2.1
  generalize h2e : ka_sP h1 b 1 (ka_n h) = h2
  have f2 : kf g h2 := by rw [← h2e]; exact kf_sP f1 (by rw [hK1]; decide) (hpt 1)
  have i2 : kIn h b h2 1 12 := by rw [← h2e]; exact i1.sP
  have n2 : h2.1 = h.1 + 1 := i2.1
  have k2 : ka_K h2 h.1 = (34, 12) := by rw [← h2e]; exact k1
  have z2 : ∀ k, ka_P h2 h.1 k = 0 := fun k => by rw [← h2e]; exact (ka_uN _ _ _ _ (by omega) k).trans (z1 k)
  have b2 : ka_I h2 b = ka_I h b := by rw [← h2e]; exact b1
  have p2 : ka_P h2 b 1 = h.1 := by rw [← h2e]; exact ka_uS _ _ _ _
  refine ⟨⟨by decide, by decide, show h2.1 < 1000000 by omega⟩, ?_⟩
  generalize h3e : ka_new h2 (ka_at .int) (Int32.ofInt 12).toNatClampNeg (Int32.ofInt 12).toNatClampNeg = h3
  have f3 : kf g h3 := by rw [← h3e]; exact kf_new f2 (by omega)
  have i3 : kIn h b h3 2 24 := by rw [← h3e]; exact i2.new (sl := 12)
  have n3 : h3.1 = h.1 + 2 := i3.1
  have hK3 : (ka_K h3 b).1 = 4 := by rw [i3.2.2.1 b hbn, hK]
  have o3 : ∀ a, a ≠ h.1 + 1 → ka_K h3 a = ka_K h2 a ∧ ka_I h3 a = ka_I h2 a ∧ ka_P h3 a = ka_P h2 a := fun a ha => by rw [← h3e]; exact kNw_o (by omega)
  have k3 : ka_K h3 (h.1 + 1) = (30, 12) := by rw [← h3e, ← n2]; exact kNw_K
  refine ⟨hK3, ⟨hpt 2, ?_⟩⟩
  rw [show ka_n h2 = h.1 + 1 from n2]
  generalize h4e : ka_sP h3 b 2 (h.1 + 1) = h4
  have f4 : kf g h4 := by rw [← h4e]; exact kf_sP f3 (by rw [hK3]; decide) (hpt 2)
  have i4 : kIn h b h4 2 24 := by rw [← h4e]; exact i3.sP
  have n4 : h4.1 = h.1 + 2 := i4.1
  have k4 : ∀ a, ka_K h4 a = ka_K h3 a := fun a => by rw [← h4e]; rfl
  have j4 : ∀ a, ka_I h4 a = ka_I h3 a := fun a => by rw [← h4e]; rfl
  have p4 : ka_P h4 b 2 = h.1 + 1 := by rw [← h4e]; exact ka_uS _ _ _ _
  have p4' : ka_P h4 b 1 = h.1 := by rw [← h4e]; exact (ka_uJ _ _ _ _ _ (by decide)).trans ((congrFun (o3 b (by omega)).2.2 1).trans p2)
  have z4 : ∀ k, ka_P h4 h.1 k = 0 := fun k => by rw [← h4e]; exact (ka_uN _ _ _ _ (by omega) k).trans ((congrFun (o3 h.1 (by omega)).2.2 k).trans (z2 k))
  refine ⟨⟨by decide, by decide, show h4.1 < 1000000 by omega⟩, ?_⟩
  generalize h5e : ka_new h4 (ka_at .boolean) (Int32.ofInt 12).toNatClampNeg (Int32.ofInt 12).toNatClampNeg = h5
  have f5 : kf g h5 := by rw [← h5e]; exact kf_new f4 (by omega)
  have i5 : kIn h b h5 3 36 := by rw [← h5e]; exact i4.new (sl := 12)
  have hK5 : (ka_K h5 b).1 = 4 := by rw [i5.2.2.1 b hbn, hK]
  have o5 : ∀ a, a ≠ h.1 + 2 → ka_K h5 a = ka_K h4 a ∧ ka_I h5 a = ka_I h4 a ∧ ka_P h5 a = ka_P h4 a := fun a ha => by rw [← h5e]; exact kNw_o (by omega)
  have k5 : ka_K h5 (h.1 + 2) = (31, 12) := by rw [← h5e, ← n4]; exact kNw_K
  have z5 : ∀ k, ka_I h5 (h.1 + 2) k = 0 := fun k => by rw [← h5e, ← n4]; exact congrFun (if_pos rfl) k
  refine ⟨hK5, ⟨hpt 3, ?_⟩⟩
  rw [show ka_n h4 = h.1 + 2 from n4]
  have hK6 : (ka_K (ka_sP h5 b 3 (h.1 + 2)) b).1 = 4 := hK5
  refine ⟨hK6, ?_⟩
  refine e _ (kf_sI (kf_sP f5 (by rw [hK5]; decide) (hpt 3)) (by rw [hK6]; decide)) i5.sP.sI ?_ ?_ ?_ ?_ ?_ ?_ (ka_uS _ _ _ _) (fun k hk => ?_) (fun k => ?_) (fun k => ?_)
  · exact (o5 h.1 (by omega)).1.trans ((k4 _).trans ((o3 h.1 (by omega)).1.trans k2))
  · exact (o5 (h.1 + 1) (by omega)).1.trans ((k4 _).trans k3)
  · exact k5
  · exact (ka_uJ _ _ _ _ _ (by decide)).trans ((congrFun (o5 b (by omega)).2.2 1).trans p4')
  · exact (ka_uJ _ _ _ _ _ (by decide)).trans ((congrFun (o5 b (by omega)).2.2 2).trans p4)
  · exact ka_uS _ _ _ _
  · refine (ka_uJ _ _ _ _ _ hk).trans ?_
    show ka_I h5 b k = _
    rw [(o5 b (by omega)).2.1, j4, (o3 b (by omega)).2.1, b2]
  · refine (ka_uN _ _ _ _ (by omega) k).trans ?_
    exact (congrFun (o5 h.1 (by omega)).2.2 k).trans (z4 k)
  · refine (ka_uN _ _ _ _ (by omega) k).trans ?_
    exact z5 k
end S6
