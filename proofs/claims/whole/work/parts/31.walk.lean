/-! ===== walking a stretch of a method by computing ===== -/
theorem kp_seg {d m : Nat} {R : ka_R → ka_H → Prop} (stop : Nat → Bool) : ∀ (n : Nat) {pc : Nat} {L S : List Value} {h : ka_H}, ka_wp (ka_lk (ka_own m)) (ka_run d) (ka_hs m) (ka_rt m) (ka_cd m) stop (kp_ex d m R) R n pc L S h → kp_ex d m R pc L S h
  | 0, _, _, _, _, hw => hw
  | n + 1, pc, L, S, h, hw => by
    unfold ka_wp at hw
    split at hw
    · exact hw.elim
    · rename_i i len ts hcd
      rcases kp_step_nx hw with ⟨pc', L', S', h', hk, back⟩ | ⟨r, h', hR, back⟩
      · refine kp_go hcd (back _ _ _ (fun _ _ _ _ _ z => z) ?_)
        cases hs : stop pc' with
        | true => rw [hs] at hk; exact hk
        | false => rw [hs] at hk; exact kp_seg stop n hk
      · exact kp_go hcd (back _ _ _ (fun _ _ _ _ _ z => z) hR)
def kp_no : Nat → Bool := fun _ => false
/-- an answer, the heap as it was -/
def kp_is (v : Value) (h : ka_H) : ka_R → ka_H → Prop := fun r h' => r = .inl (some v) ∧ h' = h
def kp_b (p : Prop) [Decidable p] : Int32 := if p then 1 else 0
theorem kc_within {d : Nat} {v lo hi : Int32} {h : ka_H} : kp_T (d + 1) 147 [.int v, .int lo, .int hi] h (kp_is (.int (kp_b (lo ≤ v ∧ v ≤ hi))) h) := by
  refine kp_in rfl (Nat.le_of_ble_eq_true rfl) rfl (kp_seg kp_no 10 ?_)
  refine And.intro (fun c => ?_) (fun c => ?_)
  · refine And.intro (Or.inl rfl) (And.intro ?_ rfl)
    rw [show kp_b (lo ≤ v ∧ v ≤ hi) = 0 from if_neg (fun q => absurd c (Int32.not_lt.mpr q.1))]
    rfl
  · refine And.intro (fun c2 => ?_) (fun c2 => ?_)
    · refine And.intro (Or.inl rfl) (And.intro ?_ rfl)
      rw [show kp_b (lo ≤ v ∧ v ≤ hi) = 0 from if_neg (fun q => absurd c2 (Int32.not_lt.mpr q.2))]
      rfl
    · refine And.intro (Or.inr rfl) (And.intro ?_ rfl)
      rw [show kp_b (lo ≤ v ∧ v ≤ hi) = 1 from if_pos ⟨Int32.not_lt.mp c, Int32.not_lt.mp c2⟩]
      rfl
