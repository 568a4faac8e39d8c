/-! ===== questions: the reference reads one ===== -/
theorem kms_sO {h : ka_H} {s : Nat → Nat → Int32} {a k : Nat} (v : Int32) (hp : pm a k = false) : ka_sI (kms h s) a k v = kms (ka_sI h a k v) s := by
  refine Prod.ext rfl (Prod.ext rfl (Prod.ext rfl (Prod.ext ?_ rfl)))
  funext b j
  show ka_u (fun a k => cond (pm a k) (s a k) (h.2.2.2.1 a k)) a k v b j = cond (pm b j) (s b j) (ka_u h.2.2.2.1 a k v b j)
  by_cases e : b = a
  · by_cases e2 : j = k
    · rw [e, e2, ka_uS, ka_uS, hp]; rfl
    · rw [ka_uJ _ _ _ _ _ e2, ka_uJ _ _ _ _ _ e2]
  · rw [ka_uN _ _ _ _ e, ka_uN _ _ _ _ e]
/-- the reference's heap as a text of n bytes is begun -/
def kq_h (h : ka_H) (n : Nat) : ka_H := ka_sI (ka_sI (ka_sI (km_0 h) 72 21 0) 72 28 (-1)) 72 22 (nI n)
def kq_s (h : ka_H) (n Q : Nat) : Nat → Nat → Int32 := ka_u (ka_u (ka_u (ka_u (ka_u (ka_I (kq_h h n)) 72 23 (nI 0)) 72 24 (-1)) 72 26 (nI 0)) 72 27 (nI 0)) 79 Q (nI 0)
section Q2
variable {g : Nat × (Nat → Int32)} {d : Nat} {h : ka_H} {s : Nat → Nat → Int32} {R : ka_R → ka_H → Prop} {Q F : Nat} {tp : Nat → Int32}
theorem kc_questionM {D : Nat} {nn : Int32} {o : Nat → kX} (hf : kf g h) (hF : ka_I h 72 21 = nI F) (hF200 : F ≤ 200) (hQ : ka_I h 72 9 = nI Q) (hQ6 : Q ≤ 6) (htp : ∀ k, k < F → ka_I h 89 k = tp k) (htb : ∀ k, k < F → ∃ c, c < 256 ∧ tp k = nI c) (hX : ∀ n, n ≤ F → Q < 6 → kXM D n tp Q 0 0 0 (o n)) (hXP : ∀ n, n ≤ F → kXQ n 0 0 0 (o n)) (hD : 2 ≤ D)
    (e1 : ¬ (0 ≤ nn ∧ nn ≤ nI F) → R (kp_ri 0) (km_t h 1))
    (e2 : 0 ≤ nn ∧ nn ≤ nI F → Q = 6 → R (kp_ri (-1)) (ka_sI (ka_sI (km_0 h) 72 21 0) 72 28 (-1)))
    (e3 : ∀ n kd pl s', nn = nI n → n ≤ F → Q < 6 → kQt tp n (o n) = .inl (kd, pl) → kMfr Q 0 (kq_s h n Q) s' → R (kp_ri (nI kd - 10)) (kms (ka_sI (kq_h h n) 72 28 (nI pl)) (ka_u s' 79 Q (nI 0))))
    (e4 : ∀ n nds s' x, nn = nI n → n ≤ F → Q < 6 → kQt tp n (o n) = .inr nds → kMfr Q 0 (kq_s h n Q) s' → s' 79 Q = nI nds.length → (∀ j y, nds[j]? = some y → kMn s' (12 * Q + j) y) → kq_ex g D 183 R 165 [.ref 72, .int nn, .int x, .retAddr 0] [] (kms (ka_sI (kq_h h n) 72 28 (-1)) s')) : kp_T (D + 1) 183 [.ref 72, .int nn] h R := by
  obtain ⟨D', rfl⟩ : ∃ D', D = D' + 2 := ⟨D - 2, by omega⟩
  have hf0 : kf g (km_0 h) := kf_m hf
  have j22 : ¬ (0 ≤ nn ∧ nn ≤ nI F) → kq_ex g (D' + 2) 183 R 22 [.ref 72, .int nn, .retAddr 0, .retAddr 0] [.ref 72] (km_0 h) := fun c => by
    refine kq_seg kp_no 20 ?_
    refine kq_ci (kc_may0 (code := 1) hf0 rfl (by decide)) (kf_m hf0) ?_
    exact ⟨fun c => absurd rfl c, fun _ => ⟨trivial, e1 c⟩⟩
  refine kq_in hf rfl rfl rfl (kq_seg (fun p => Nat.beq p 22 || Nat.beq p 53) 60 ⟨fun c => ?_, fun c => ⟨fun c2 => ?_, fun c2 => ?_⟩⟩)
  · exact j22 (fun z => Int32.not_le.mpr c z.1)
  · exact j22 (fun z => by rw [← hF] at z; exact Int32.not_le.mpr c2 z.2)
  · have hok : 0 ≤ nn ∧ nn ≤ nI F := ⟨Int32.not_lt.mp c, by rw [← hF]; exact Int32.not_lt.mp c2⟩
    refine kq_ci (kc_may1 (code := 1) hf0 rfl) hf0 ⟨fun _ => ⟨fun c3 => ?_, fun c3 => ?_⟩, fun c => absurd c (by decide)⟩
    · have hQ7 : Q < 6 := by
        rcases Nat.lt_or_ge Q 6 with z | z
        · exact z
        · exact absurd (show ka_I h 72 9 = 6 by rw [hQ, show Q = 6 by omega]; rfl) c3
      obtain ⟨n, hnF, rfl⟩ : ∃ n, n ≤ F ∧ nn = nI n := by
        have h1 := Int32.le_iff_toInt_le.mp hok.1
        have h2 := Int32.le_iff_toInt_le.mp hok.2
        rw [nI_toInt (by omega)] at h2
        have h1' : (0 : Int) ≤ nn.toInt := h1
        exact ⟨nn.toInt.toNat, by omega, Int32.toInt_inj.mp (by rw [nI_toInt (by omega)]; omega)⟩
      have hp79 : pm 79 Q = true := by unfold pm; rfl
      have ew : ka_sI (ka_sI (ka_sI (ka_sI (ka_sI (kq_h h n) 72 23 0) 72 24 (-1)) 72 26 0) 72 27 0) 79 Q 0 = kms (kq_h h n) (kq_s h n Q) := by
        conv => lhs; rw [← kms_0 (kq_h h n)]
        rw [kms_sI _ rfl, kms_sI _ rfl, kms_sI _ rfl, kms_sI _ rfl, kms_sI _ hp79]
        rfl
      have hfq : kf g (kq_h h n) := kf_m (kf_m (kf_m hf0))
      have hQq : ka_I (kq_h h n) 72 9 = nI Q := hQ
      have hT : kT (kq_h h n) n tp := ⟨rfl, by omega, fun k hk => htp k (by omega), fun k hk => htb k (by omega)⟩
      have hrd : ∀ a b c d e f : Int32, ka_I (ka_sI (ka_sI (ka_sI (ka_sI (ka_sI (ka_sI (ka_sI (km_0 h) 72 21 a) 72 28 b) 72 22 (nI n)) 72 23 c) 72 24 d) 72 26 e) 72 27 f) 72 9 = nI Q := fun _ _ _ _ _ _ => hQ
      refine (kq_seg (fun p => Nat.beq p 88) 40 ⟨?_, ?_⟩ : kq_ex g (D' + 2) 183 R 53 [.ref 72, .int (nI n), .retAddr 0, .retAddr 0] [] (ka_sI (ka_sI (km_0 h) 72 21 0) 72 28 (-1)))
      · rw [hrd]; exact nI_in (N := 6) hQ7 (by omega)
      · rw [hrd, nI_clamp (by omega)]
        suffices j88 : kq_ex g (D' + 2) 183 R 88 [.ref 72, .int (nI n), .retAddr 0, .retAddr 0] [] (kms (kq_h h n) (kq_s h n Q)) by
          rw [← ew] at j88
          exact j88
        clear ew
        generalize hs1 : kq_s h n Q = s1
        have x23 : s1 72 23 = nI 0 := by rw [← hs1]; rfl
        have x24 : s1 72 24 = -1 := by rw [← hs1]; rfl
        have x26 : s1 72 26 = nI 0 := by rw [← hs1]; rfl
        have x27 : s1 72 27 = nI 0 := by rw [← hs1]; rfl
        have x79 : s1 79 Q = nI 0 := by rw [← hs1]; exact ka_uS _ _ _ _
        -- the end of a fault
        have jbad : ∀ (s2 : Nat → Nat → Int32) (kd pl : Nat) (x : Int32), pl ≤ n → kQt tp n (o n) = .inl (kd, pl) → kMfr Q 0 (kq_s h n Q) s2 → s2 72 24 = nI pl → s2 72 25 = nI kd → kq_ex g (D' + 2) 183 R 132 [.ref 72, .int (nI n), .int x, .retAddr 0] [] (kms (kq_h h n) s2) := by
          intro s2 kd pl x hpl hk hfr c24 c25
          have hb : ¬ s2 72 24 = -1 := by rw [c24]; exact nI_ne_m1 (by omega)
          refine kq_seg (fun p => Nat.beq p 140) 20 ?_
          suffices j140 : kq_ex g (D' + 2) 183 R 140 [.ref 72, .int (nI n), .int x, .retAddr 0] [] (kms (ka_sI (kq_h h n) 72 28 (nI pl)) s2) by
            rw [← kms_sO _ rfl, ← c24] at j140
            exact j140
          have hf2 : kf g (ka_sI (kq_h h n) 72 28 (nI pl)) := kf_m hfq
          refine kq_seg kp_no 30 ?_
          refine kq_ci (kc_fine0 hf2 hb) (kms_f hf2) ⟨fun c => absurd rfl c, fun _ => ⟨?_, ?_⟩⟩
          · rw [show ka_I (kms (ka_sI (kq_h h n) 72 28 (nI pl)) s2) 72 9 = nI Q from hQ]; exact nI_in (N := 6) hQ7 (by omega)
          · rw [show ka_I (kms (ka_sI (kq_h h n) 72 28 (nI pl)) s2) 72 9 = nI Q from hQ, nI_clamp (by omega)]
            rw [show ka_sI (kms (ka_sI (kq_h h n) 72 28 (nI pl)) s2) (kq_p (kms (ka_sI (kq_h h n) 72 28 (nI pl)) s2) 72 11) Q (Int32.ofInt 0) = kms (ka_sI (kq_h h n) 72 28 (nI pl)) (ka_u s2 79 Q (nI 0)) from kms_sI (a := 79) _ hp79]
            refine ⟨trivial, ?_⟩
            rw [show ka_I (kms (ka_sI (kq_h h n) 72 28 (nI pl)) (ka_u s2 79 Q (nI 0))) 72 25 = nI kd from c25]
            exact e3 n kd pl s2 rfl hnF hQ7 hk hfr
        have hP := hXP n hnF
        have hPt := kQt_P (tp := tp) hP
        refine kq_seg (fun p => Nat.beq p 132) 60 ?_
        refine hX n hnF hQ7 g (kq_h h n) s1 _ hfq hT hQq x23 x24 x26 x27 x79 (fun kd pl s' ho hfr c24 c25 => ⟨kms_f hfq, ?_⟩) (fun p' nds s' ho hok => ⟨kms_f hfq, ?_⟩)
        · have hk := kQt_l (tp := tp) (n := n) ho
          have hpl := (hPt.1 kd pl hk).1
          have hb : ¬ s' 72 24 = -1 := by rw [c24]; exact nI_ne_m1 (by omega)
          refine kq_ci (kc_fine0 hfq hb) (kms_f hfq) ⟨fun _ => ?_, fun c => absurd rfl c⟩
          refine kq_ci (kc_fine0 hfq hb) (kms_f hfq) ⟨fun _ => ?_, fun c => absurd rfl c⟩
          exact jbad s' kd pl _ hpl hk (by rw [hs1]; exact hfr) c24 c25
        · obtain ⟨a1, a2, a3, a4, a5, a6, a7⟩ := hok
          obtain ⟨b1, b2, b3, b4, b5⟩ := hP.2 p' nds ho
          have hle := kt_s_le tp n p' b2
          have hq := kQt_r (tp := tp) (n := n) ho
          refine kq_ci (kc_fine1 hfq a3) (kms_f hfq) ⟨fun c => absurd c (by decide), fun _ => ?_⟩
          refine kc_here hfq hT a2 b2 ⟨kms_f hfq, ?_⟩
          have a3' : (kt_at s' (kt_s tp n p')) 72 24 = -1 := a3
          refine kq_ci (kc_fine1 hfq a3') (kms_f hfq) ⟨fun c => absurd c (by decide), fun _ => ⟨fun c => ?_, fun c => ?_⟩⟩
          · have c' : ¬ nI (kt_s tp n p') < nI n := c
            have hnn : kt_s tp n p' = n := by
              rcases Nat.lt_or_ge (kt_s tp n p') n with z | z
              · exact absurd (nI_lt z (by omega)) c'
              · omega
            rw [if_pos hnn] at hq
            generalize hs2 : kt_at s' (kt_s tp n p') = s2 at a3'
            have hfr2 : kMfr Q 0 (kq_s h n Q) s2 := by rw [hs1, ← hs2]; exact a1.tr (kMfr.u _)
            have x79' : s2 79 Q = nI nds.length := by
              rw [← hs2]
              have : s' 79 Q = nI (0 + nds.length) := a6
              rw [Nat.zero_add] at this
              exact this
            have hnd : ∀ j y, nds[j]? = some y → kMn s2 (12 * Q + j) y := fun j y hy => by
              have := a7 j y hy
              rw [Nat.add_zero] at this
              exact this.cg (b5 j y hy).1.2.2.2.2.2.2.2.2.2 (fun a ha => by rw [← hs2]; exact ka_uN _ _ _ _ (by omega) _) (fun a ha j' _ => by rw [← hs2]; exact ka_uN _ _ _ _ (by omega) _)
            refine (kq_seg (fun p => Nat.beq p 140) 20 ?_ : kq_ex g (D' + 2) 183 R 132 [.ref 72, .int (nI n), .int _, .retAddr 0] [] (kms (kq_h h n) s2))
            suffices j140 : kq_ex g (D' + 2) 183 R 140 [.ref 72, .int (nI n), .int (nI (0 + nds.length - 1)), .retAddr 0] [] (kms (ka_sI (kq_h h n) 72 28 (-1)) s2) by
              rw [← kms_sO _ rfl, ← a3'] at j140
              exact j140
            have hf2 : kf g (ka_sI (kq_h h n) 72 28 (-1)) := kf_m hfq
            refine kq_seg (fun p => Nat.beq p 165) 30 ?_
            refine kq_ci (kc_fine1 hf2 a3') (kms_f hf2) ⟨fun _ => ?_, fun c => absurd c (by decide)⟩
            exact e4 n nds s2 _ rfl hnF hQ7 hq hfr2 x79' hnd
          · have c' : nI (kt_s tp n p') < nI n := c
            have hlt := (nI_ltI (by omega) (by omega)).mp c'
            rw [if_neg (by omega)] at hq
            refine kq_cv (kx_wr (s := kt_at s' (kt_s tp n p')) (q := kt_s tp n p') hfq a3' rfl) (kms_f hfq) ?_
            exact jbad _ 1 (kt_s tp n p') _ (by omega) hq (by rw [hs1]; exact a1.tr (kMfr.tr (kMfr.u _) (kMfr.tr (kMfr.u _) (kMfr.u _)))) rfl rfl
    · have hQ7 : Q = 6 := by
        have : ka_I h 72 9 = nI 6 := c3
        rw [hQ] at this
        exact (nI_eq (by omega) (by omega)).mp this
      exact ⟨trivial, e2 hok hQ7⟩
end Q2
