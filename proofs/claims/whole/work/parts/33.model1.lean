/-! ===== the reference: small methods ===== -/
section M1
variable {g : Nat × (Nat → Int32)} {d : Nat} {h : ka_H}
theorem kc_may1 (hf : kf g h) (h0 : ka_I h 72 0 = 0) {code : Int32} : kp_T (d + 1) 146 [.ref 72, .int 1, .int code] h (kp_is (.int 1) h) := by
  refine kq_in hf rfl rfl rfl (kq_seg kp_no 15 ?_)
  refine And.intro (fun _ => ?_) (fun c => absurd c (by decide))
  refine And.intro (fun c => absurd h0 c) (fun _ => ?_)
  exact ⟨Or.inr rfl, rfl, rfl⟩
theorem kc_may0 (hf : kf g h) (h0 : ka_I h 72 0 = 0) {code : Int32} (hc : code ≠ 0) : kp_T (d + 1) 146 [.ref 72, .int 0, .int code] h (kp_is (.int 0) (ka_sI h 72 0 code)) := by
  refine kq_in hf rfl rfl rfl (kq_seg kp_no 15 ?_)
  refine And.intro (fun c => absurd rfl c) (fun _ => ?_)
  refine And.intro (fun c => absurd h0 c) (fun _ => ?_)
  refine And.intro (fun _ => ?_) (fun c => absurd c hc)
  exact ⟨Or.inl rfl, rfl, rfl⟩
end M1
