/-! ===== trials: what both sides tell of them ===== -/
/-- a question's answer at a row, the tables having T -/
noncomputable def kAT (A : kA) (q : Nat) (T : Nat → Nat → Int32) (r : Nat) : Int32 := kAn (kSV (qKy A.2.2.1) T (qSh A.2.2.1 q ((qNd A.2.2.1 q).length - 1)) r)
noncomputable def kValT (A : kA) (s : Nat) (e : Int32) (f : (Nat → Nat → Int32) → Int32) (z : Int32) : Int32 := @ite _ (kTd1 A.1 A.2.2.1 s e) (Classical.propDecidable _) (f (lT A.1 (lE A.1 e.toNatClampNeg))) z
section TX
variable {A : kA} {g : Nat × (Nat → Int32)} {d : Nat} {h : ka_H} {R : ka_R → ka_H → Prop} {sb qb st : Nat → Nat} {q n r t c s : Nat} {u v z e : Int32} {T T' : Nat → Nat → Int32} {f : (Nat → Nat → Int32) → Int32}
theorem kValT_T (td : kTd1 A.1 A.2.2.1 s (nI n)) (hn : n < 2 ^ 31) : kValT A s (nI n) f z = f (lT A.1 (lE A.1 n)) := by
  unfold kValT
  rw [if_pos td, nI_clamp hn]
theorem kValT_F (td : ¬ kTd1 A.1 A.2.2.1 s e) : kValT A s e f z = z := if_neg td
theorem kAT_use (w : kWA A) (hq : q < qQ A.2.2.1) (hr : r < 256) (hT : ∀ t c, kUse A.2.2.1 q t → c < 256 → T t c = T' t c) : kAT A q T r = kAT A q T' r := by
  have h1 := (w.2.2.1.2.2.2.2 q hq).1.1
  unfold kAT
  rw [kSV_use w.2.2.1 hq hT _ (by omega) r hr]
theorem kTI.ans (w : kWA A) (hq : q < qQ A.2.2.1) (hr : r < 256) (i : kTI A.2.2.1 sb q T h) : kAn (ka_I h (sb (qSh A.2.2.1 q ((qNd A.2.2.1 q).length - 1)) + 3) r) = kAT A q T r := by
  have h1 := (w.2.2.1.2.2.2.2 q hq).1.1
  unfold kAT
  rw [i _ (by omega) r hr]
theorem tU_back {x y : Int32} (h : T t c = y) : tU (tU T t c x) t c y = T := by
  funext t' c'
  by_cases k : t' = t ∧ c' = c
  · rw [k.1, k.2, tU_S, h]
  · rw [tU_N _ _ k, tU_N _ _ k]
/-- the class: what the trial's answer is -/
theorem kc_triedAnswer (hf : kf g h) (w : kWA A) (q4 : kcq A.1 A.2.2.1 sb qb st h) (hq : q < qQ A.2.2.1) (hr : r < 256) (hT : kTI A.2.2.1 sb q T h) : kp_T (d + 3) 143 [.ref (qb q), .int (nI r)] h (kp_is (.int (kAT A q T r)) h) := by
  obtain ⟨h1, h12⟩ := (w.2.2.1.2.2.2.2 q hq).1
  have hQ := (q4.2.2.2.2.2.2.1 q hq).1
  have hKb : (ka_K h (qb q)).1 = 4 := by rw [hQ.2.2.1]
  obtain ⟨hp, hs, cs, -⟩ := q4.nd w.2.2.1 hq (k := (qNd A.2.2.1 q).length - 1) (by omega)
  have q3 := cs.1.2.1.2.2.2.1
  refine kd_in hf rfl rfl rfl (kd_seg kp_no 20 ⟨hKb, ?_⟩)
  refine kc_whole hf hQ h1 ⟨hf, ?_⟩
  rw [hp]
  refine ⟨fun _ => ⟨cs.K, ?_⟩, fun y => absurd y cs.ne⟩
  rw [show kq_p h (sb (qSh A.2.2.1 q ((qNd A.2.2.1 q).length - 1))) 9 = _ from (kq_p_s hf _ _).trans cs.1.2.2.1.2.2.2.2.2.2]
  refine ⟨kr_in (n := 256) ⟨by rw [q3], by rw [q3]⟩ hr (by omega), ?_⟩
  rw [nI_clamp (by omega)]
  refine kq_ci (kc_max hf) hf ⟨trivial, ?_, rfl⟩
  rw [← hT.ans w hq hr]
  rfl
/-- the class: a trial begun, and a table's counts -/
theorem kc_beginTrialOf {m : Nat} {ed : Int32} (hf : kf g h) (hC : kcA A h) (w : kWA A) (q4 : kcq A.1 A.2.2.1 sb qb st h) (hq : q < qQ A.2.2.1) (ht : t < 4) (hm : kl_end h (lNn A.1) (lC A.1) ed = nI m) (hmz : m ≤ lZ A.1)
    (e : ∀ (h' : ka_H) (st' : Nat → Nat) (c : Nat) (W : Nat → Int32), kf g h' → kBf h h' → kcA A h' → kcq A.1 A.2.2.1 sb qb st' h' → kTI A.2.2.1 sb q (lT A.1 m) h' → (c = 64 ∨ ∃ s, s < qN A.2.2.1 ∧ c = sb s + 2) → kr h' c 256 → (∀ r, r < 256 → ka_I h' c r = W r) → ((kUse A.2.2.1 q t ∧ ∀ r, r < 256 → W r = lT A.1 m t r) ∨ (¬ kUse A.2.2.1 q t ∧ ∀ r, W r = 0)) → R (.inl (some (.ref c))) h') : kp_T (d + 7) 140 [.ref 1, .ref (qb q), .int (nI t), .int ed] h R := by
  refine kd_in hf rfl rfl rfl (kd_seg kp_no 30 ⟨kK hf rfl rfl, ?_⟩)
  refine kc_beginTrial hf hC.1 w.1 q4 w.2.2.1 hq hm hmz (fun h' st' f1 f2 f3 f4 f5 => ⟨f1, ?_⟩)
  have hC' : kcA A h' := ⟨f2.cl hC.1, f2.ct hC.2.1, f2.cr hC.2.2.1, sb, qb, st', f3⟩
  have hQ := (f3.2.2.2.2.2.2.1 q hq).1
  have hKb : (ka_K h' (qb q)).1 = 4 := by rw [hQ.2.2.1]
  refine ⟨hKb, ?_⟩
  refine kc_ofTable (op := fun k => (qKy A.2.2.1 (qSh A.2.2.1 q k)).1) (tb := fun k => if (qKy A.2.2.1 (qSh A.2.2.1 q k)).1 = 0 then nI (qKy A.2.2.1 (qSh A.2.2.1 q k)).2.1 else -1) f1 hQ (fun k hk => ?_) (fun hno => ⟨f1, ?_⟩) (fun k hk o1 o2 => ⟨f1, ?_⟩)
  · obtain ⟨hp, hs, cs, h13⟩ := f3.nd w.2.2.1 hq hk
    rw [hp]
    exact ⟨cs.ne, cs.K, cs.1.2.2.1.1, h13, cs.1.2.2.2.1.2.1⟩
  · have nu : ¬ kUse A.2.2.1 q t := fun ⟨k, hk, k1, k2⟩ => by
      obtain ⟨y1, y2, -⟩ := kNx_ky w.2.2.1 hq hk
      refine hno k hk ⟨by rw [y1]; exact k1, ?_⟩
      show (if _ then _ else _) = _
      rw [if_pos (by rw [y1]; exact k1), y2 k1, k2]
    refine ⟨fun y => absurd rfl y, fun _ => ⟨kK f1 rfl rfl, ⟨kK f1 (a := 63) rfl rfl, ?_⟩⟩⟩
    exact e h' st' 64 (fun _ => 0) f1 f2 hC' f3 f5 (Or.inl rfl) ⟨kK f1 rfl rfl, kZ f1 rfl rfl⟩ f3.2.1 (Or.inr ⟨nu, fun _ => rfl⟩)
  · obtain ⟨hp, hs, cs, h13⟩ := f3.nd w.2.2.1 hq hk
    have k4 := ((w.2.2.1.2.2.2.1 _ hs).1).1.2.1.1
    have o2' : (if (qKy A.2.2.1 (qSh A.2.2.1 q k)).1 = 0 then nI (qKy A.2.2.1 (qSh A.2.2.1 q k)).2.1 else -1) = nI t := o2
    rw [if_pos o1] at o2'
    have e2 := (nI_eq (by omega) (by omega)).mp o2'
    obtain ⟨y1, y2, -⟩ := kNx_ky w.2.2.1 hq hk
    have o1' : (kNx A.2.2.1 q k).1 = 0 := by rw [← y1]; exact o1
    rw [hp]
    refine ⟨fun _ => ⟨cs.K, ?_⟩, fun y => absurd y cs.ne⟩
    rw [show kq_p h' (sb (qSh A.2.2.1 q k)) 8 = _ from (kq_p_s f1 _ _).trans cs.1.2.2.1.2.2.2.2.2.1]
    have q3 := cs.1.2.1.2.2.1
    refine e h' st' _ (lT A.1 m t) f1 f2 hC' f3 f5 (Or.inr ⟨_, hs, rfl⟩) ⟨by rw [q3], by rw [q3]⟩ (fun r hr => ?_) (Or.inl ⟨⟨k, hk, o1', (y2 o1').symm.trans e2⟩, fun _ _ => rfl⟩)
    rw [f4 k hk r hr, kSV_0 o1, e2]
theorem kTf.cc {h' : ka_H} {c : Nat} (a : kTf A.2.2.1 sb qb h h') (hc : c = 64 ∨ ∃ s, s < qN A.2.2.1 ∧ c = sb s + 2) : ka_I h' c = ka_I h c := by
  rcases hc with rfl | ⟨s, hs, rfl⟩
  · exact a.2.2.2.2.1 64 (by omega) (by omega) (by omega)
  · exact (a.2.2.2.2.2.1 s hs).2.2.1
theorem kTf.ca {h' : ka_H} (a : kTf A.2.2.1 sb qb h h') (hC : kcA A h) (q4 : kcq A.1 A.2.2.1 sb qb st h) : kcA A h' := ⟨a.bf.cl hC.1, a.bf.ct hC.2.1, a.bf.cr hC.2.2.1, sb, qb, st, a.cq q4⟩
/-- the reference: the answer, some rows off, or one more -/
theorem km_now (eu : u = nI r) (hf : kf g h) (hM : kmA A h) (w : kWA A) (hq : q < qQ A.2.2.1) (hn : n < lC A.1) (hr : r < 256) (hmr : ka_I h 72 40 = -1 ∨ ∃ m, m < 1024 ∧ ka_I h 72 40 = nI m) (hT : ∀ t c, t < 4 → c < 256 → T t c = (if ka_I h 95 (256 * t + c) = 0 then lT A.1 (lE A.1 n) t c else 0) + (if ka_I h 72 40 = nI (256 * t + c) then 1 else 0))
    (e : ∀ h', kf g h' → kPl h h' → ka_I h' 95 = ka_I h 95 → ka_I h' 72 40 = ka_I h 72 40 → R (kp_ri (kAT A q T r)) h') : kp_T (d + 5) 208 [.ref 72, .int (nI q), .int (nI n), .int u] h R := by
  have h6 := w.2.2.1.1
  have hc := w.1.2.1
  obtain ⟨h1, h12⟩ := (w.2.2.1.2.2.2.2 q hq).1
  rw [eu]
  refine kc_answerNow (n := lNn A.1) (NV := fun j => kSV (qKy A.2.2.1) T (qSh A.2.2.1 q j)) hf (by omega) (hM.2.2.1.2.2.2.1 q hq).2.1 h1 h12 hr (fun j hj => hM.2.2.1.kNd w.2.2.1 hq (by omega)) hM.1.1 w.1.1 (hM.1.row w.1) hmr (fun j r hj hr => ?_) (fun F S => ?_)
  · rw [kSV_nd w.2.2.1 hq (by omega) hr]
    unfold kv_nd
    by_cases z : (kNx A.2.2.1 q j).1 = 0
    · rw [if_pos z, if_pos z]
      have t4 : (kNx A.2.2.1 q j).2.1 < 4 := (hM.2.2.1.kNd w.2.2.1 hq (j := j) (by omega)).2.2.1 z |>.2.1
      unfold km_tb
      rw [hM.1.ct w.1 (by omega)]
      exact hT _ r t4 hr
    · rw [if_neg z, if_neg z]
  · rw [kAn_c]
    exact e _ (kM_f hf) kPl.mM (kM_In (by decide) (by decide)) (by rw [kM_In (by decide) (by decide)])
end TX
