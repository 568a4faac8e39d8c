/-! ===== the reference: workNode, its other operators ===== -/
/-- has and stack -/
def kM (h : ka_H) (F S : Nat → Int32) : ka_H := ka_sF (ka_sF h 96 F) 97 S
section KM
variable {h : ka_H} {F S : Nat → Int32}
theorem kM_96 (j : Nat) (v : Int32) : ka_sI (kM h F S) 96 j v = kM h (kh_u F j v) S := by
  unfold kM
  rw [ka_sI_eq, ka_I_Fn _ _ (by decide : (96 : Nat) ≠ 97), ka_I_F, ka_sF_c _ (by decide : (97 : Nat) ≠ 96), ka_sF_F]
theorem kM_F96 (F' : Nat → Int32) : ka_sF (kM h F S) 96 F' = kM h F' S := by
  unfold kM
  rw [ka_sF_c _ (by decide : (97 : Nat) ≠ 96), ka_sF_F]
theorem kM_97 (S' : Nat → Int32) : ka_sF (kM h F S) 97 S' = kM h F S' := ka_sF_F _ _ _ _
theorem kM_I96 : ka_I (kM h F S) 96 = F := by
  unfold kM
  rw [ka_I_Fn _ _ (by decide : (96 : Nat) ≠ 97), ka_I_F]
theorem kM_I97 : ka_I (kM h F S) 97 = S := ka_I_F _ _ _
theorem kM_In {a : Nat} (h1 : a ≠ 96) (h2 : a ≠ 97) : ka_I (kM h F S) a = ka_I h a := by
  unfold kM
  rw [ka_I_Fn _ _ h2, ka_I_Fn _ _ h1]
theorem kM_0 : kM h (ka_I h 96) (ka_I h 97) = h := by
  unfold kM
  rw [ka_sF_eta, ka_sF_eta]
theorem kM_f {g : Nat × (Nat → Int32)} (hf : kf g h) : kf g (kM h F S) := kf_F (kf_F hf 96 rfl rfl) 97 rfl rfl
theorem kM_F (F' : Nat → Int32) : ka_sF h 96 F' = kM h F' (ka_I h 97) := by
  unfold kM
  rw [← ka_I_Fn h F' (by decide : (97 : Nat) ≠ 96), ka_sF_eta]
end KM
/-- a condition's code, and the rows for which it holds -/
def kHold (h : ka_H) (i : Nat) (H : Nat → Int32) : Prop := ∃ (n : Nat) (l : List Int32), ka_I h 88 i = nI n ∧ l.length = n ∧ n ≤ 200 ∧ (∀ k, k < n → ka_I h 87 (200 * i + k) = l.getD k 0) ∧ ∀ a b, a < 16 → b < 16 → ∀ S, ∃ pf, kv_xl a b l (0, S) = some pf ∧ (pf.2 0 = 1 ↔ bt (H a) b = true)
def km_tb (h : ka_H) (n : Nat) (ed : Int32) (tab r : Nat) : Int32 := (if ka_I h 95 (256 * tab + r) = 0 then kp_sum (km_ct h (nI tab) (nI r) ed) n else 0) + (if ka_I h 72 40 = nI (256 * tab + r) then 1 else 0)
theorem nI_d256 {k : Nat} (hk : k < 2 ^ 31) : nI k / Int32.ofInt 256 = nI (k / 256) := nI_div (b := 256) hk (by omega)
theorem nI_r256 {k : Nat} (hk : k < 2 ^ 31) : nI k - nI k / Int32.ofInt 256 * Int32.ofInt 256 = nI (k % 256) := nI_rem (b := 256) hk (by omega)
section M9
variable {g : Nat × (Nat → Int32)} {d : Nat} {h : ka_H} {R : ka_R → ka_H → Prop} {f1 f2 t i op tab n : Nat} {ed : Int32} {x3 x4 x5 z6 z7 z8 : Value}
theorem kn_groups (hf : kf g h) (ho : 3 ≤ op ∧ op ≤ 7) (hi : i < 72) (hw : ka_I h 80 i = nI op) (hT : t + 256 ≤ 3072) (h1 : f1 + 256 ≤ t) (hz : ∀ r, r < 256 → ka_I h 96 (t + r) = 0)
    (e : R (.inl none) (ka_sF h 96 (kh_b (ka_I h 96) t (fun r => if kv_mark op (fun y => ka_I h 96 (f1 + (16 * (r / 16) + y))) = nI (r % 16) then 1 else 0) 256))) : kq_ex g (d + 2) 202 R 358 [.ref 72, .int (nI i), .int (nI t), x3, .int (nI f1), x5, z6, z7, z8] [] h := by
  refine kq_seg (fun p => Nat.beq p 361) 4 ?_
  generalize hV : (fun r => if kv_mark op (fun y => ka_I h 96 (f1 + (16 * (r / 16) + y))) = nI (r % 16) then (1 : Int32) else 0) = V at e
  have hd := kq_for (P := fun k => kq_ex g (d + 2) 202 R 361 [.ref 72, .int (nI i), .int (nI t), x3, .int (nI f1), x5, .int (nI k), z7, z8] [] (ka_sF h 96 (kh_b (ka_I h 96) t V (16 * k)))) 16 ?_ (fun k hk ih => ?_)
  · rw [Nat.mul_zero, kh_b_0, ka_sF_eta] at hd
    exact hd
  · exact kq_seg (fun p => Nat.beq p 361) 20 ⟨fun _ => e, fun c => absurd c (nI_nlt (b := 16) (by omega) (by omega))⟩
  · rw [nI_succ] at ih
    have hfk : kf g (ka_sF h 96 (kh_b (ka_I h 96) t V (16 * k))) := kf_F hf 96 rfl rfl
    refine kq_seg (fun p => Nat.beq p 361) 40 ⟨fun c => absurd (nI_lt (b := 16) hk (by omega)) c, fun _ => ⟨nI_in (N := 72) hi (by omega), ?_⟩⟩
    rw [nI_clamp (by omega), show ka_I (ka_sF h 96 (kh_b (ka_I h 96) t V (16 * k))) (kq_p (ka_sF h 96 (kh_b (ka_I h 96) t V (16 * k))) 72 12) i = nI op from (congrFun (ka_I_Fn h _ (by decide : (80 : Nat) ≠ 96)) i).trans hw]
    have hml : kv_mark op (fun y => ka_I (ka_sF h 96 (kh_b (ka_I h 96) t V (16 * k))) 96 (f1 + 16 * k + y)) = kv_mark op (fun y => ka_I h 96 (f1 + (16 * k + y))) := by
      have hall : ∀ (l l' : Nat → Int32), (∀ b, b < 16 → l b = l' b) → kv_mark op l = kv_mark op l' := fun l l' hl => by
        unfold kv_mark
        rw [kp_sum_cg 16 hl, kp_sum_cg (f := fun b => kp_b (0 < l b)) (f' := fun b => kp_b (0 < l' b)) 16 (fun b hb => by show kp_b (0 < l b) = kp_b (0 < l' b); rw [hl b hb]), kp_sum_cg (f := fun b => nI b * l b) (f' := fun b => nI b * l' b) 16 (fun b hb => by show nI b * l b = nI b * l' b; rw [hl b hb])]
        rw [kv_nth_cg (p := fun b => decide (0 < l b)) (q := fun b => decide (0 < l' b)) 0 16 0 0 (fun b _ hb => by show decide (0 < l b) = decide (0 < l' b); rw [hl b (by omega)]), kv_nth_cg (p := fun b => decide (0 < l b)) (q := fun b => decide (0 < l' b)) _ 16 0 0 (fun b _ hb => by show decide (0 < l b) = decide (0 < l' b); rw [hl b (by omega)]), kv_nth_cg (p := fun b => decide (0 < l b)) (q := fun b => decide (0 < l' b)) (kp_sum (fun b => kp_b (0 < l' b)) 16 - 1) 16 0 0 (fun b _ hb => by show decide (0 < l b) = decide (0 < l' b); rw [hl b (by omega)])]
      refine hall _ _ (fun b hb => ?_)
      show ka_I (ka_sF h 96 (kh_b (ka_I h 96) t V (16 * k))) 96 (f1 + 16 * k + b) = _
      rw [ka_I_F, kh_b_F _ _ _ (by omega), Nat.add_assoc]
    have hVk : ∀ z, z < 16 → V (16 * k + z) = if kv_mark op (fun y => ka_I h 96 (f1 + (16 * k + y))) = nI z then 1 else 0 := fun z hz => by
      rw [← hV]
      show (if kv_mark op (fun y => ka_I h 96 (f1 + (16 * ((16 * k + z) / 16) + y))) = nI ((16 * k + z) % 16) then (1 : Int32) else 0) = _
      rw [show (16 * k + z) / 16 = k by omega, show (16 * k + z) % 16 = z by omega]
    have hg : kp_T (d + 2) 203 [.ref 72, .int (nI op), .int (nI (f1 + 16 * k)), .int (nI (t + 16 * k))] (ka_sF h 96 (kh_b (ka_I h 96) t V (16 * k))) (fun r h' => kf g h' ∧ r = .inl none ∧ h' = ka_sF h 96 (kh_b (ka_I h 96) t V (16 * (k + 1)))) := by
      refine kc_groups hfk ho (by omega) (by omega) (fun c => ?_) (fun m hm c => ?_)
      · rw [hml] at c
        refine ⟨hfk, rfl, ?_⟩
        congr 1
        funext j
        by_cases c1 : t ≤ j ∧ j < t + 16 * k
        · unfold kh_b
          rw [if_pos c1, if_pos (by omega)]
        · rw [kh_b_F _ _ _ c1]
          by_cases c2 : t ≤ j ∧ j < t + 16 * (k + 1)
          · obtain ⟨z, rfl⟩ : ∃ z, j = t + (16 * k + z) := ⟨j - t - 16 * k, by omega⟩
            rw [kh_b_T _ _ _ (by omega), hVk z (by omega), if_neg, hz _ (by omega)]
            rw [c]
            intro q
            have := congrArg Int32.toInt q
            rw [nI_toInt (by omega)] at this
            have h9 : (-1 : Int32).toInt = -1 := by decide
            omega
          · rw [kh_b_F _ _ _ c2]
      · rw [hml] at c
        rw [ka_sF_F, ka_I_F]
        refine ⟨kf_F hf 96 rfl rfl, rfl, ?_⟩
        congr 1
        funext j
        unfold kh_u
        by_cases c0 : j = t + 16 * k + m
        · rw [if_pos c0, c0, Nat.add_assoc, kh_b_T _ _ _ (by omega), hVk m hm, if_pos c]
        · rw [if_neg c0]
          by_cases c1 : t ≤ j ∧ j < t + 16 * k
          · unfold kh_b
            rw [if_pos c1, if_pos (by omega)]
          · rw [kh_b_F _ _ _ c1]
            by_cases c2 : t ≤ j ∧ j < t + 16 * (k + 1)
            · obtain ⟨z, rfl⟩ : ∃ z, j = t + (16 * k + z) := ⟨j - t - 16 * k, by omega⟩
              rw [kh_b_T _ _ _ (by omega), hVk z (by omega), if_neg, hz _ (by omega)]
              rw [c]
              intro q
              have := (nI_eq (by omega) (by omega)).mp q
              omega
            · rw [kh_b_F _ _ _ c2]
    obtain ⟨r, h', hrun, hfk2, rfl, rfl⟩ := hg
    rw [← nI_add, ← nI_add, ← nI_16m] at hrun
    exact ⟨_, _, hrun, hfk2, ih⟩
theorem kn_join (hT : t + 256 ≤ 3072) (h1 : f1 + 256 ≤ t) (h2 : f2 + 256 ≤ t) (hz : ∀ r, r < 256 → ka_I h 96 (t + r) = 0)
    (e : R (.inl none) (ka_sF h 96 (kh_b (ka_I h 96) t (fun r => kv_join (fun r => ka_I h 96 (f1 + r)) (fun r => ka_I h 96 (f2 + r)) (r / 16) (r % 16)) 256))) : kq_ex g d 202 R 412 [.ref 72, .int (nI i), .int (nI t), x3, .int (nI f1), .int (nI f2), z6, z7, z8] [] h := by
  generalize hA : (fun r => ka_I h 96 (f1 + r)) = A at e
  generalize hB : (fun r => ka_I h 96 (f2 + r)) = B at e
  have hix : ∀ f x y, f + 256 ≤ 3072 → x < 16 → y < 16 → nI f + Int32.ofInt 16 * nI x + nI y = nI (f + 16 * x + y) := fun f x y _ _ _ => by rw [nI_16m, nI_add, nI_add]
  have hin : ∀ f x y, f + 256 ≤ 3072 → x < 16 → y < 16 → vp_in (nI f + Int32.ofInt 16 * nI x + nI y) 3072 := fun f x y hF hx hy => by rw [hix f x y hF hx hy]; exact nI_in (N := 3072) (by omega) (by omega)
  have hcl : ∀ f x y, f + 256 ≤ 3072 → x < 16 → y < 16 → (nI f + Int32.ofInt 16 * nI x + nI y).toNatClampNeg = f + 16 * x + y := fun f x y hF hx hy => by rw [hix f x y hF hx hy, nI_clamp (by omega)]
  have zl : ∀ x y, x < 16 → y < 16 → (∀ z8, kq_ex g d 202 R 425 [.ref 72, .int (nI i), .int (nI t), x3, .int (nI f1), .int (nI f2), .int (nI x), .int (nI (y + 1)), z8] [] (ka_sF h 96 (kh_b (kh_b (ka_I h 96) t (fun r => kv_join A B (r / 16) (r % 16)) (16 * x)) (t + 16 * x) (kv_jn A B x (y + 1)) 16))) →
      kq_ex g d 202 R 435 [.ref 72, .int (nI i), .int (nI t), x3, .int (nI f1), .int (nI f2), .int (nI x), .int (nI y), .int (nI 0)] [] (ka_sF h 96 (kh_b (kh_b (ka_I h 96) t (fun r => kv_join A B (r / 16) (r % 16)) (16 * x)) (t + 16 * x) (kv_jn A B x y) 16)) := by
    intro x y hx hy out
    rw [nI_succ] at out
    generalize hO : kh_b (ka_I h 96) t (fun r => kv_join A B (r / 16) (r % 16)) (16 * x) = O at out ⊢
    have hO1 : ∀ f r, f + 256 ≤ t → r < 256 → O (f + r) = ka_I h 96 (f + r) := fun f r hF hr => by rw [← hO, kh_b_F _ _ _ (by omega)]
    have hd := kq_for (P := fun z => kq_ex g d 202 R 435 [.ref 72, .int (nI i), .int (nI t), x3, .int (nI f1), .int (nI f2), .int (nI x), .int (nI y), .int (nI z)] [] (ka_sF h 96 (kh_b (kh_b O (t + 16 * x) (kv_jn A B x y) 16) (t + 16 * x) (kv_jn A B x (y + 1)) z))) 16 ?_ (fun z hz ih => ?_)
    · rw [kh_b_0] at hd
      exact hd
    · refine kq_seg (fun p => Nat.beq p 425) 20 ⟨fun _ => ?_, fun c => absurd c (nI_nlt (b := 16) (by omega) (by omega))⟩
      rw [kh_b_b]
      exact out _
    · rw [nI_succ] at ih
      refine kq_seg (fun p => Nat.beq p 435) 60 ⟨fun c => absurd (nI_lt (b := 16) hz (by omega)) c, fun _ => ⟨hin t x z hT hx hz, ⟨hin f1 x y (by omega) hx hy, ⟨hin f2 y z (by omega) hy hz, ⟨hin t x z hT hx hz, ?_⟩⟩⟩⟩⟩
      rw [hcl t x z hT hx hz, hcl f1 x y (by omega) hx hy, hcl f2 y z (by omega) hy hz]
      generalize hF : kh_b (kh_b O (t + 16 * x) (kv_jn A B x y) 16) (t + 16 * x) (kv_jn A B x (y + 1)) z = F
      rw [show ka_I (ka_sF h 96 F) (kq_p (ka_sF h 96 F) 72 41) (t + 16 * x + z) = kv_jn A B x y z from (congrFun (ka_I_F h 96 F) _).trans (by rw [← hF, kh_b_F _ _ _ (by omega), kh_b_T _ _ _ hz])]
      rw [show ka_I (ka_sF h 96 F) (kq_p (ka_sF h 96 F) 72 41) (f1 + 16 * x + y) = A (16 * x + y) from (congrFun (ka_I_F h 96 F) _).trans (by rw [← hF, kh_b_F _ _ _ (by omega), kh_b_F _ _ _ (by omega), Nat.add_assoc, hO1 _ _ h1 (by omega), ← hA])]
      rw [show ka_I (ka_sF h 96 F) (kq_p (ka_sF h 96 F) 72 41) (f2 + 16 * y + z) = B (16 * y + z) from (congrFun (ka_I_F h 96 F) _).trans (by rw [← hF, kh_b_F _ _ _ (by omega), kh_b_F _ _ _ (by omega), Nat.add_assoc, hO1 _ _ h2 (by omega), ← hB])]
      rw [← kh_b_s (n := z) (x := kv_jn A B x y z + A (16 * x + y) * B (16 * y + z)) _ _ _ rfl, ← ka_sI_F, hF] at ih
      exact ih
  have yl : ∀ x, x < 16 → (∀ z7 z8, kq_ex g d 202 R 415 [.ref 72, .int (nI i), .int (nI t), x3, .int (nI f1), .int (nI f2), .int (nI (x + 1)), z7, z8] [] (ka_sF h 96 (kh_b (ka_I h 96) t (fun r => kv_join A B (r / 16) (r % 16)) (16 * (x + 1))))) →
      ∀ z8, kq_ex g d 202 R 425 [.ref 72, .int (nI i), .int (nI t), x3, .int (nI f1), .int (nI f2), .int (nI x), .int (nI 0), z8] [] (ka_sF h 96 (kh_b (ka_I h 96) t (fun r => kv_join A B (r / 16) (r % 16)) (16 * x))) := by
    intro x hx out
    rw [nI_succ] at out
    have hd := kq_for (P := fun y => ∀ z8, kq_ex g d 202 R 425 [.ref 72, .int (nI i), .int (nI t), x3, .int (nI f1), .int (nI f2), .int (nI x), .int (nI y), z8] [] (ka_sF h 96 (kh_b (kh_b (ka_I h 96) t (fun r => kv_join A B (r / 16) (r % 16)) (16 * x)) (t + 16 * x) (kv_jn A B x y) 16))) 16 ?_ (fun y hy ih z8 => ?_)
    · rw [show kh_b (kh_b (ka_I h 96) t (fun r => kv_join A B (r / 16) (r % 16)) (16 * x)) (t + 16 * x) (kv_jn A B x 0) 16 = kh_b (ka_I h 96) t (fun r => kv_join A B (r / 16) (r % 16)) (16 * x) by
        funext j
        by_cases c : t + 16 * x ≤ j ∧ j < t + 16 * x + 16
        · obtain ⟨z, rfl⟩ : ∃ z, j = t + 16 * x + z := ⟨j - t - 16 * x, by omega⟩
          rw [kh_b_T _ _ _ (by omega), kh_b_F _ _ _ (by omega), Nat.add_assoc, hz _ (by omega)]
          rfl
        · rw [kh_b_F _ _ _ c]] at hd
      exact hd
    · intro z8
      refine kq_seg (fun p => Nat.beq p 415) 20 ⟨fun _ => ?_, fun c => absurd c (nI_nlt (b := 16) (by omega) (by omega))⟩
      rw [show kh_b (kh_b (ka_I h 96) t (fun r => kv_join A B (r / 16) (r % 16)) (16 * x)) (t + 16 * x) (kv_jn A B x 16) 16 = kh_b (ka_I h 96) t (fun r => kv_join A B (r / 16) (r % 16)) (16 * (x + 1)) by
        funext j
        by_cases c : t + 16 * x ≤ j ∧ j < t + 16 * x + 16
        · obtain ⟨z, rfl⟩ : ∃ z, j = t + 16 * x + z := ⟨j - t - 16 * x, by omega⟩
          rw [kh_b_T _ _ _ (by omega), show t + 16 * x + z = t + (16 * x + z) by omega, kh_b_T _ _ _ (by omega), show (16 * x + z) / 16 = x by omega, show (16 * x + z) % 16 = z by omega]
          rfl
        · rw [kh_b_F _ _ _ c]
          unfold kh_b
          by_cases c2 : t ≤ j ∧ j < t + 16 * x
          · rw [if_pos c2, if_pos (by omega)]
          · rw [if_neg c2, if_neg (by omega)]]
      exact out _ _
    · exact kq_seg (fun p => Nat.beq p 435) 20 ⟨fun c => absurd (nI_lt (b := 16) hy (by omega)) c, fun _ => zl x y hx hy ih⟩
  refine kq_seg (fun p => Nat.beq p 415) 4 ?_
  have hd := kq_for (P := fun x => ∀ z7 z8, kq_ex g d 202 R 415 [.ref 72, .int (nI i), .int (nI t), x3, .int (nI f1), .int (nI f2), .int (nI x), z7, z8] [] (ka_sF h 96 (kh_b (ka_I h 96) t (fun r => kv_join A B (r / 16) (r % 16)) (16 * x)))) 16 ?_ (fun x hx ih z7 z8 => ?_)
  · rw [Nat.mul_zero, kh_b_0, ka_sF_eta] at hd
    exact hd _ _
  · intro z7 z8
    exact kq_seg (fun p => Nat.beq p 415) 20 ⟨fun _ => e, fun c => absurd c (nI_nlt (b := 16) (by omega) (by omega))⟩
  · exact kq_seg (fun p => Nat.beq p 425) 20 ⟨fun c => absurd (nI_lt (b := 16) hx (by omega)) c, fun _ => yl x hx ih _⟩
theorem kn_where (hf : kf g h) {H : Nat → Int32} (hi : i < 72) (hH : kHold h i H) (hT : t + 256 ≤ 3072) (h1 : f1 + 256 ≤ t)
    (e : ∀ S, R (.inl none) (kM h (kh_b (ka_I h 96) t (fun r => if bt (H (r / 16)) (r % 16) = true then ka_I h 96 (f1 + r) else 0) 256) S)) : kq_ex g (d + 1) 202 R 689 [.ref 72, .int (nI i), .int (nI t), x3, .int (nI f1), x5, z6, z7, z8] [] h := by
  obtain ⟨n, l, hn, hl, h200, hc, hx⟩ := hH
  refine kq_seg (fun p => Nat.beq p 692) 4 ?_
  generalize hV : (fun r => if bt (H (r / 16)) (r % 16) = true then ka_I h 96 (f1 + r) else (0 : Int32)) = V at e
  have hd := kq_for (P := fun k => ∀ S, kq_ex g (d + 1) 202 R 692 [.ref 72, .int (nI i), .int (nI t), x3, .int (nI f1), x5, .int (nI k), z7, z8] [] (kM h (kh_b (ka_I h 96) t V k) S)) 256 ?_ (fun k hk ih S => ?_)
  · have := hd (ka_I h 97)
    rw [kh_b_0, kM_0] at this
    exact this
  · intro S
    exact kq_seg (fun p => Nat.beq p 692) 20 ⟨fun _ => e S, fun c => absurd c (nI_nlt (b := 256) (by omega) (by omega))⟩
  · rw [nI_succ] at ih
    obtain ⟨pf, hpf, hbit⟩ := hx (k / 16) (k % 16) (by omega) (by omega) S
    refine kq_seg (fun p => Nat.beq p 692) 40 ⟨fun c => absurd (nI_lt (b := 256) hk (by omega)) c, fun _ => ⟨by decide, by decide, ?_⟩⟩
    rw [nI_r16 (by omega), nI_16 (by omega)]
    refine kc_holds (n := n) (l := l) (pf := pf) (kM_f hf) hi (by rw [kM_In (by decide) (by decide)]; exact hn) hl h200 (fun j hj => by rw [kM_In (by decide) (by decide)]; exact hc j hj) (by rw [kM_I97]; exact hpf) ⟨by rw [kM_97]; exact kM_f hf, ?_⟩
    rw [kM_97]
    by_cases hb : bt (H (k / 16)) (k % 16) = true
    · rw [kp_bT (hbit.mpr hb)]
      refine ⟨fun c => absurd c (by decide), fun _ => ⟨kn_in (by omega) hk, ⟨kn_in hT hk, ?_⟩⟩⟩
      rw [kn_cl (t := f1) (by omega) hk, kn_cl hT hk, show ka_I (kM h (kh_b (ka_I h 96) t V k) pf.2) (kq_p (kM h (kh_b (ka_I h 96) t V k) pf.2) 72 41) (f1 + k) = ka_I h 96 (f1 + k) from (congrFun kM_I96 _).trans (kh_b_F _ _ _ (by omega))]
      have ih' := ih pf.2
      rw [← kh_b_s (n := k) (x := ka_I h 96 (f1 + k)) _ _ _ (by rw [← hV]; exact if_pos hb), ← kM_96] at ih'
      exact ih'
    · rw [kp_bF (fun z => hb (hbit.mp z))]
      refine ⟨fun _ => ⟨kn_in hT hk, ?_⟩, fun c => absurd rfl c⟩
      rw [kn_cl hT hk]
      have ih' := ih pf.2
      rw [← kh_b_s (n := k) (x := 0) _ _ _ (by rw [← hV]; exact if_neg hb), ← kM_96] at ih'
      exact ih'
end M9
