/-! ===== the law's wrappers: an answer put away, or a code ===== -/
theorem kYr.le {D D' m co : Nat} {as : List Value} {A A' : kA} {v : Int32} (h : kYr D m as A A' co v) (hD : D ≤ D') : kYr D' m as A A' co v := fun g h0 R hf hM e => (h g h0 R hf hM e).le hD
/-- both sides of a call that the law wraps -/
def kOq (D w m : Nat) (as : List Value) (A : kA) : Prop := ∃ A' co v, kWA A' ∧ co ≤ 3 ∧ kYc D w as A A' co v ∧ kYr D m as A A' co v
section WR
variable {A : kA}
theorem kw_change (w : kWA A) (a1 a2 a3 a4 : Int32) : kOq 201 235 153 [.int a1, .int a2, .int a3, .int a4] A := by
  obtain ⟨A', co, ex, v, w1, h1, h2, h3⟩ := ko_change w a1 a2 a3 a4
  refine ⟨A', co, v, w1, ?_, fun g h R hf hb hC e => ?_, h3.le (by decide)⟩
  · by_cases c : co = 0
    · omega
    · rcases (h1 c).2 with ⟨rfl, rfl⟩ | ⟨rfl, rfl⟩ <;> decide
  · have hin : vp_in (0 : Int32) 1 := nI_in (c := 0) (N := 1) (by omega) (by omega)
    refine kq_in (d := 200) hf rfl rfl rfl (kq_seg kp_no 20 ?_)
    refine h2 g h _ hf hb hC (fun c => ?_) (fun c h' f1 f2 f3 => ⟨f1, ?_⟩)
    · obtain ⟨rfl, hm⟩ := h1 c
      rcases hm with ⟨rfl, rfl⟩ | ⟨rfl, rfl⟩
      · exact ⟨kf_new hf (by omega), ⟨trivial, e _ (kf_new hf (by omega)) (hC.new hf.1) (kFc.new hf.1 (by omega)) (fun z => by cases z)⟩⟩
      · exact ⟨kf_new hf (by omega), ⟨trivial, e _ (kf_new hf (by omega)) (hC.new hf.1) (kFc.new hf.1 (by omega)) (fun z => by cases z)⟩⟩
    · subst c
      exact ⟨hin, trivial, e (ka_sJ h' 102 0 v.toInt64) f1 f2 f3 (fun _ => rfl)⟩
theorem kw_late (w : kWA A) (a1 a2 a3 a4 a5 : Int32) : kOq 201 236 154 [.int a1, .int a2, .int a3, .int a4, .int a5] A := by
  obtain ⟨A', co, ex, v, w1, h1, h2, h3⟩ := ko_late w a1 a2 a3 a4 a5
  refine ⟨A', co, v, w1, ?_, fun g h R hf hb hC e => ?_, h3.le (by decide)⟩
  · by_cases c : co = 0
    · omega
    · rcases (h1 c).2 with ⟨rfl, rfl⟩ | ⟨rfl, rfl⟩ <;> decide
  · have hin : vp_in (0 : Int32) 1 := nI_in (c := 0) (N := 1) (by omega) (by omega)
    refine kq_in (d := 200) hf rfl rfl rfl (kq_seg kp_no 20 ?_)
    refine h2 g h _ hf hb hC (fun c => ?_) (fun c h' f1 f2 f3 => ⟨f1, ?_⟩)
    · obtain ⟨rfl, hm⟩ := h1 c
      rcases hm with ⟨rfl, rfl⟩ | ⟨rfl, rfl⟩
      · exact ⟨kf_new hf (by omega), ⟨trivial, e _ (kf_new hf (by omega)) (hC.new hf.1) (kFc.new hf.1 (by omega)) (fun z => by cases z)⟩⟩
      · exact ⟨kf_new hf (by omega), ⟨trivial, e _ (kf_new hf (by omega)) (hC.new hf.1) (kFc.new hf.1 (by omega)) (fun z => by cases z)⟩⟩
    · subst c
      exact ⟨hin, trivial, e (ka_sJ h' 102 0 v.toInt64) f1 f2 f3 (fun _ => rfl)⟩
theorem kw_room (w : kWA A) (a1 : Int32) : kOq 201 237 155 [.int a1] A := by
  obtain ⟨A', co, ex, v, w1, h1, h2, h3⟩ := ko_room w a1
  refine ⟨A', co, v, w1, ?_, fun g h R hf hb hC e => ?_, h3.le (by decide)⟩
  · by_cases c : co = 0
    · omega
    · rcases (h1 c).2 with ⟨rfl, rfl⟩ <;> decide
  · have hin : vp_in (0 : Int32) 1 := nI_in (c := 0) (N := 1) (by omega) (by omega)
    refine kq_in (d := 200) hf rfl rfl rfl (kq_seg kp_no 20 ?_)
    refine h2 g h _ hf hb hC (fun c => ?_) (fun c h' f1 f2 f3 => ⟨f1, ?_⟩)
    · obtain ⟨rfl, hm⟩ := h1 c
      obtain ⟨rfl, rfl⟩ := hm
      exact ⟨kf_new hf (by omega), ⟨trivial, e _ (kf_new hf (by omega)) (hC.new hf.1) (kFc.new hf.1 (by omega)) (fun z => by cases z)⟩⟩
    · subst c
      exact ⟨hin, trivial, e (ka_sJ h' 102 0 v.toInt64) f1 f2 f3 (fun _ => rfl)⟩
theorem kw_close (w : kWA A) : kOq 201 238 158 [] A := by
  obtain ⟨A', co, ex, v, w1, h1, h2, h3⟩ := ko_close w 
  refine ⟨A', co, v, w1, ?_, fun g h R hf hb hC e => ?_, h3.le (by decide)⟩
  · by_cases c : co = 0
    · omega
    · rcases (h1 c).2 with ⟨rfl, rfl⟩ <;> decide
  · have hin : vp_in (0 : Int32) 1 := nI_in (c := 0) (N := 1) (by omega) (by omega)
    refine kq_in (d := 200) hf rfl rfl rfl (kq_seg kp_no 20 ?_)
    refine h2 g h _ hf hb hC (fun c => ?_) (fun c h' f1 f2 f3 => ⟨f1, ?_⟩)
    · obtain ⟨rfl, hm⟩ := h1 c
      obtain ⟨rfl, rfl⟩ := hm
      exact ⟨kf_new hf (by omega), ⟨trivial, e _ (kf_new hf (by omega)) (hC.new hf.1) (kFc.new hf.1 (by omega)) (fun z => by cases z)⟩⟩
    · subst c
      exact ⟨hin, trivial, e (ka_sJ h' 102 0 v.toInt64) f1 f2 f3 (fun _ => rfl)⟩
theorem kw_rows (w : kWA A) (a1 a2 a3 a4 : Int32) : kOq 201 239 160 [.int a1, .int a2, .int a3, .int a4] A := by
  obtain ⟨A', co, ex, v, w1, h1, h2, h3⟩ := ko_rows w a1 a2 a3 a4
  refine ⟨A', co, v, w1, ?_, fun g h R hf hb hC e => ?_, h3.le (by decide)⟩
  · by_cases c : co = 0
    · omega
    · rcases (h1 c).2 with ⟨rfl, rfl⟩ | ⟨rfl, rfl⟩ <;> decide
  · have hin : vp_in (0 : Int32) 1 := nI_in (c := 0) (N := 1) (by omega) (by omega)
    refine kq_in (d := 200) hf rfl rfl rfl (kq_seg kp_no 20 ?_)
    refine h2 g h _ hf hb hC (fun c => ?_) (fun c h' f1 f2 f3 => ⟨f1, ?_⟩)
    · obtain ⟨rfl, hm⟩ := h1 c
      rcases hm with ⟨rfl, rfl⟩ | ⟨rfl, rfl⟩
      · exact ⟨kf_new hf (by omega), ⟨trivial, e _ (kf_new hf (by omega)) (hC.new hf.1) (kFc.new hf.1 (by omega)) (fun z => by cases z)⟩⟩
      · exact ⟨kf_new hf (by omega), ⟨trivial, e _ (kf_new hf (by omega)) (hC.new hf.1) (kFc.new hf.1 (by omega)) (fun z => by cases z)⟩⟩
    · subst c
      exact ⟨hin, trivial, e (ka_sJ h' 102 0 v.toInt64) f1 f2 f3 (fun _ => rfl)⟩
theorem kw_question (w : kWA A) (a1 : Int32) : kOq 201 240 183 [.int a1] A := by
  obtain ⟨A', co, ex, v, w1, h1, h2, h3⟩ := ko_question w a1
  refine ⟨A', co, v, w1, ?_, fun g h R hf hb hC e => ?_, h3.le (by decide)⟩
  · by_cases c : co = 0
    · omega
    · rcases (h1 c).2 with ⟨rfl, rfl⟩ <;> decide
  · have hin : vp_in (0 : Int32) 1 := nI_in (c := 0) (N := 1) (by omega) (by omega)
    refine kq_in (d := 200) hf rfl rfl rfl (kq_seg kp_no 20 ?_)
    refine h2 g h _ hf hb hC (fun c => ?_) (fun c h' f1 f2 f3 => ⟨f1, ?_⟩)
    · obtain ⟨rfl, hm⟩ := h1 c
      obtain ⟨rfl, rfl⟩ := hm
      exact ⟨kf_new hf (by omega), ⟨trivial, e _ (kf_new hf (by omega)) (hC.new hf.1) (kFc.new hf.1 (by omega)) (fun z => by cases z)⟩⟩
    · subst c
      exact ⟨hin, trivial, e (ka_sJ h' 102 0 v.toInt64) f1 f2 f3 (fun _ => rfl)⟩
theorem kw_leave (w : kWA A) (a1 : Int32) : kOq 201 241 191 [.int a1] A := by
  obtain ⟨A', co, ex, v, w1, h1, h2, h3⟩ := ko_leave w a1
  refine ⟨A', co, v, w1, ?_, fun g h R hf hb hC e => ?_, h3.le (by decide)⟩
  · by_cases c : co = 0
    · omega
    · rcases (h1 c).2 with ⟨rfl, rfl⟩ <;> decide
  · have hin : vp_in (0 : Int32) 1 := nI_in (c := 0) (N := 1) (by omega) (by omega)
    refine kq_in (d := 200) hf rfl rfl rfl (kq_seg kp_no 20 ?_)
    refine h2 g h _ hf hb hC (fun c => ?_) (fun c h' f1 f2 f3 => ⟨f1, ?_⟩)
    · obtain ⟨rfl, hm⟩ := h1 c
      obtain ⟨rfl, rfl⟩ := hm
      exact ⟨kf_new hf (by omega), ⟨trivial, e _ (kf_new hf (by omega)) (hC.new hf.1) (kFc.new hf.1 (by omega)) (fun z => by cases z)⟩⟩
    · subst c
      exact ⟨hin, trivial, e (ka_sJ h' 102 0 v.toInt64) f1 f2 f3 (fun _ => rfl)⟩
theorem kw_nodes (w : kWA A) (a1 : Int32) : kOq 201 242 193 [.int a1] A := by
  obtain ⟨A', co, ex, v, w1, h1, h2, h3⟩ := ko_nodes w a1
  refine ⟨A', co, v, w1, ?_, fun g h R hf hb hC e => ?_, h3.le (by decide)⟩
  · by_cases c : co = 0
    · omega
    · rcases (h1 c).2 with ⟨rfl, rfl⟩ <;> decide
  · have hin : vp_in (0 : Int32) 1 := nI_in (c := 0) (N := 1) (by omega) (by omega)
    refine kq_in (d := 200) hf rfl rfl rfl (kq_seg kp_no 20 ?_)
    refine h2 g h _ hf hb hC (fun c => ?_) (fun c h' f1 f2 f3 => ⟨f1, ?_⟩)
    · obtain ⟨rfl, hm⟩ := h1 c
      obtain ⟨rfl, rfl⟩ := hm
      exact ⟨kf_new hf (by omega), ⟨trivial, e _ (kf_new hf (by omega)) (hC.new hf.1) (kFc.new hf.1 (by omega)) (fun z => by cases z)⟩⟩
    · subst c
      exact ⟨hin, trivial, e (ka_sJ h' 102 0 v.toInt64) f1 f2 f3 (fun _ => rfl)⟩
theorem kw_shelf (w : kWA A) (a1 a2 : Int32) : kOq 201 243 194 [.int a1, .int a2] A := by
  obtain ⟨A', co, ex, v, w1, h1, h2, h3⟩ := ko_shelf w a1 a2
  refine ⟨A', co, v, w1, ?_, fun g h R hf hb hC e => ?_, h3.le (by decide)⟩
  · by_cases c : co = 0
    · omega
    · rcases (h1 c).2 with ⟨rfl, rfl⟩ | ⟨rfl, rfl⟩ <;> decide
  · have hin : vp_in (0 : Int32) 1 := nI_in (c := 0) (N := 1) (by omega) (by omega)
    refine kq_in (d := 200) hf rfl rfl rfl (kq_seg kp_no 20 ?_)
    refine h2 g h _ hf hb hC (fun c => ?_) (fun c h' f1 f2 f3 => ⟨f1, ?_⟩)
    · obtain ⟨rfl, hm⟩ := h1 c
      rcases hm with ⟨rfl, rfl⟩ | ⟨rfl, rfl⟩
      · exact ⟨kf_new hf (by omega), ⟨trivial, e _ (kf_new hf (by omega)) (hC.new hf.1) (kFc.new hf.1 (by omega)) (fun z => by cases z)⟩⟩
      · exact ⟨kf_new hf (by omega), ⟨trivial, e _ (kf_new hf (by omega)) (hC.new hf.1) (kFc.new hf.1 (by omega)) (fun z => by cases z)⟩⟩
    · subst c
      exact ⟨hin, trivial, e (ka_sJ h' 102 0 v.toInt64) f1 f2 f3 (fun _ => rfl)⟩
theorem kw_front (w : kWA A) (a1 a2 : Int32) : kOq 201 244 196 [.int a1, .int a2] A := by
  obtain ⟨A', co, ex, v, w1, h1, h2, h3⟩ := ko_front w a1 a2
  refine ⟨A', co, v, w1, ?_, fun g h R hf hb hC e => ?_, h3.le (by decide)⟩
  · by_cases c : co = 0
    · omega
    · rcases (h1 c).2 with ⟨rfl, rfl⟩ | ⟨rfl, rfl⟩ <;> decide
  · have hin : vp_in (0 : Int32) 1 := nI_in (c := 0) (N := 1) (by omega) (by omega)
    refine kq_in (d := 200) hf rfl rfl rfl (kq_seg kp_no 20 ?_)
    refine h2 g h _ hf hb hC (fun c => ?_) (fun c h' f1 f2 f3 => ⟨f1, ?_⟩)
    · obtain ⟨rfl, hm⟩ := h1 c
      rcases hm with ⟨rfl, rfl⟩ | ⟨rfl, rfl⟩
      · exact ⟨kf_new hf (by omega), ⟨trivial, e _ (kf_new hf (by omega)) (hC.new hf.1) (kFc.new hf.1 (by omega)) (fun z => by cases z)⟩⟩
      · exact ⟨kf_new hf (by omega), ⟨trivial, e _ (kf_new hf (by omega)) (hC.new hf.1) (kFc.new hf.1 (by omega)) (fun z => by cases z)⟩⟩
    · subst c
      exact ⟨hin, trivial, e (ka_sJ h' 102 0 v.toInt64) f1 f2 f3 (fun _ => rfl)⟩
theorem kw_work (w : kWA A) (a1 a2 : Int32) : kOq 201 245 198 [.int a1, .int a2] A := by
  obtain ⟨A', co, ex, v, w1, h1, h2, h3⟩ := ko_work w a1 a2
  refine ⟨A', co, v, w1, ?_, fun g h R hf hb hC e => ?_, h3.le (by decide)⟩
  · by_cases c : co = 0
    · omega
    · rcases (h1 c).2 with ⟨rfl, rfl⟩ | ⟨rfl, rfl⟩ <;> decide
  · have hin : vp_in (0 : Int32) 1 := nI_in (c := 0) (N := 1) (by omega) (by omega)
    refine kq_in (d := 200) hf rfl rfl rfl (kq_seg kp_no 20 ?_)
    refine h2 g h _ hf hb hC (fun c => ?_) (fun c h' f1 f2 f3 => ⟨f1, ?_⟩)
    · obtain ⟨rfl, hm⟩ := h1 c
      rcases hm with ⟨rfl, rfl⟩ | ⟨rfl, rfl⟩
      · exact ⟨kf_new hf (by omega), ⟨trivial, e _ (kf_new hf (by omega)) (hC.new hf.1) (kFc.new hf.1 (by omega)) (fun z => by cases z)⟩⟩
      · exact ⟨kf_new hf (by omega), ⟨trivial, e _ (kf_new hf (by omega)) (hC.new hf.1) (kFc.new hf.1 (by omega)) (fun z => by cases z)⟩⟩
    · subst c
      exact ⟨hin, trivial, e (ka_sJ h' 102 0 v.toInt64) f1 f2 f3 (fun _ => rfl)⟩
theorem kw_finish (w : kWA A) (a1 : Int32) : kOq 201 246 199 [.int a1] A := by
  obtain ⟨A', co, ex, v, w1, h1, h2, h3⟩ := ko_finish w a1
  refine ⟨A', co, v, w1, ?_, fun g h R hf hb hC e => ?_, h3.le (by decide)⟩
  · by_cases c : co = 0
    · omega
    · rcases (h1 c).2 with ⟨rfl, rfl⟩ <;> decide
  · have hin : vp_in (0 : Int32) 1 := nI_in (c := 0) (N := 1) (by omega) (by omega)
    refine kq_in (d := 200) hf rfl rfl rfl (kq_seg kp_no 20 ?_)
    refine h2 g h _ hf hb hC (fun c => ?_) (fun c h' f1 f2 f3 => ⟨f1, ?_⟩)
    · obtain ⟨rfl, hm⟩ := h1 c
      obtain ⟨rfl, rfl⟩ := hm
      exact ⟨kf_new hf (by omega), ⟨trivial, e _ (kf_new hf (by omega)) (hC.new hf.1) (kFc.new hf.1 (by omega)) (fun z => by cases z)⟩⟩
    · subst c
      exact ⟨hin, trivial, e (ka_sJ h' 102 0 v.toInt64) f1 f2 f3 (fun _ => rfl)⟩
theorem kw_weight (w : kWA A) (a1 a2 a3 a4 a5 : Int32) : kOq 201 247 209 [.int a1, .int a2, .int a3, .int a4, .int a5] A := by
  obtain ⟨A', co, ex, v, w1, h1, h2, h3⟩ := ko_weight w a1 a2 a3 a4 a5
  refine ⟨A', co, v, w1, ?_, fun g h R hf hb hC e => ?_, h3.le (by decide)⟩
  · by_cases c : co = 0
    · omega
    · rcases (h1 c).2 with ⟨rfl, rfl⟩ | ⟨rfl, rfl⟩ | ⟨rfl, rfl⟩ <;> decide
  · have hin : vp_in (0 : Int32) 1 := nI_in (c := 0) (N := 1) (by omega) (by omega)
    refine kq_in (d := 200) hf rfl rfl rfl (kq_seg kp_no 20 ?_)
    refine h2 g h _ hf hb hC (fun c => ?_) (fun c h' f1 f2 f3 => ⟨f1, ?_⟩)
    · obtain ⟨rfl, hm⟩ := h1 c
      rcases hm with ⟨rfl, rfl⟩ | ⟨rfl, rfl⟩ | ⟨rfl, rfl⟩
      · exact ⟨kf_new hf (by omega), ⟨trivial, e _ (kf_new hf (by omega)) (hC.new hf.1) (kFc.new hf.1 (by omega)) (fun z => by cases z)⟩⟩
      · exact ⟨kf_new hf (by omega), ⟨trivial, e _ (kf_new hf (by omega)) (hC.new hf.1) (kFc.new hf.1 (by omega)) (fun z => by cases z)⟩⟩
      · exact ⟨kf_new hf (by omega), ⟨trivial, e _ (kf_new hf (by omega)) (hC.new hf.1) (kFc.new hf.1 (by omega)) (fun z => by cases z)⟩⟩
    · subst c
      exact ⟨hin, trivial, e (ka_sJ h' 102 0 v.toInt64) f1 f2 f3 (fun _ => rfl)⟩
theorem kw_answer (w : kWA A) (a1 a2 a3 a4 : Int32) : kOq 201 248 212 [.int a1, .int a2, .int a3, .int a4] A := by
  obtain ⟨A', co, ex, v, w1, h1, h2, h3⟩ := ko_answer w a1 a2 a3 a4
  refine ⟨A', co, v, w1, ?_, fun g h R hf hb hC e => ?_, h3.le (by decide)⟩
  · by_cases c : co = 0
    · omega
    · rcases (h1 c).2 with ⟨rfl, rfl⟩ | ⟨rfl, rfl⟩ <;> decide
  · have hin : vp_in (0 : Int32) 1 := nI_in (c := 0) (N := 1) (by omega) (by omega)
    refine kq_in (d := 200) hf rfl rfl rfl (kq_seg kp_no 20 ?_)
    refine h2 g h _ hf hb hC (fun c => ?_) (fun c h' f1 f2 f3 => ⟨f1, ?_⟩)
    · obtain ⟨rfl, hm⟩ := h1 c
      rcases hm with ⟨rfl, rfl⟩ | ⟨rfl, rfl⟩
      · exact ⟨kf_new hf (by omega), ⟨trivial, e _ (kf_new hf (by omega)) (hC.new hf.1) (kFc.new hf.1 (by omega)) (fun z => by cases z)⟩⟩
      · exact ⟨kf_new hf (by omega), ⟨trivial, e _ (kf_new hf (by omega)) (hC.new hf.1) (kFc.new hf.1 (by omega)) (fun z => by cases z)⟩⟩
    · subst c
      exact ⟨hin, trivial, e (ka_sJ h' 102 0 v.toInt64) f1 f2 f3 (fun _ => rfl)⟩
theorem kw_size (w : kWA A) (a1 a2 : Int32) : kOq 201 249 213 [.int a1, .int a2] A := by
  obtain ⟨A', co, ex, v, w1, h1, h2, h3⟩ := ko_size w a1 a2
  refine ⟨A', co, v, w1, ?_, fun g h R hf hb hC e => ?_, h3.le (by decide)⟩
  · by_cases c : co = 0
    · omega
    · rcases (h1 c).2 with ⟨rfl, rfl⟩ <;> decide
  · have hin : vp_in (0 : Int32) 1 := nI_in (c := 0) (N := 1) (by omega) (by omega)
    refine kq_in (d := 200) hf rfl rfl rfl (kq_seg kp_no 20 ?_)
    refine h2 g h _ hf hb hC (fun c => ?_) (fun c h' f1 f2 f3 => ⟨f1, ?_⟩)
    · obtain ⟨rfl, hm⟩ := h1 c
      obtain ⟨rfl, rfl⟩ := hm
      exact ⟨kf_new hf (by omega), ⟨trivial, e _ (kf_new hf (by omega)) (hC.new hf.1) (kFc.new hf.1 (by omega)) (fun z => by cases z)⟩⟩
    · subst c
      exact ⟨hin, trivial, e (ka_sJ h' 102 0 v.toInt64) f1 f2 f3 (fun _ => rfl)⟩
theorem kw_row (w : kWA A) (a1 a2 a3 : Int32) : kOq 201 250 214 [.int a1, .int a2, .int a3] A := by
  obtain ⟨A', co, ex, v, w1, h1, h2, h3⟩ := ko_row w a1 a2 a3
  refine ⟨A', co, v, w1, ?_, fun g h R hf hb hC e => ?_, h3.le (by decide)⟩
  · by_cases c : co = 0
    · omega
    · rcases (h1 c).2 with ⟨rfl, rfl⟩ <;> decide
  · have hin : vp_in (0 : Int32) 1 := nI_in (c := 0) (N := 1) (by omega) (by omega)
    refine kq_in (d := 200) hf rfl rfl rfl (kq_seg kp_no 20 ?_)
    refine h2 g h _ hf hb hC (fun c => ?_) (fun c h' f1 f2 f3 => ⟨f1, ?_⟩)
    · obtain ⟨rfl, hm⟩ := h1 c
      obtain ⟨rfl, rfl⟩ := hm
      exact ⟨kf_new hf (by omega), ⟨trivial, e _ (kf_new hf (by omega)) (hC.new hf.1) (kFc.new hf.1 (by omega)) (fun z => by cases z)⟩⟩
    · subst c
      exact ⟨hin, trivial, e (ka_sJ h' 102 0 v.toInt64) f1 f2 f3 (fun _ => rfl)⟩
theorem kw_changed (w : kWA A) (a1 a2 a3 : Int32) : kOq 201 251 216 [.int a1, .int a2, .int a3] A := by
  obtain ⟨A', co, ex, v, w1, h1, h2, h3⟩ := ko_changed w a1 a2 a3
  refine ⟨A', co, v, w1, ?_, fun g h R hf hb hC e => ?_, h3.le (by decide)⟩
  · by_cases c : co = 0
    · omega
    · rcases (h1 c).2 with ⟨rfl, rfl⟩ | ⟨rfl, rfl⟩ <;> decide
  · have hin : vp_in (0 : Int32) 1 := nI_in (c := 0) (N := 1) (by omega) (by omega)
    refine kq_in (d := 200) hf rfl rfl rfl (kq_seg kp_no 20 ?_)
    refine h2 g h _ hf hb hC (fun c => ?_) (fun c h' f1 f2 f3 => ⟨f1, ?_⟩)
    · obtain ⟨rfl, hm⟩ := h1 c
      rcases hm with ⟨rfl, rfl⟩ | ⟨rfl, rfl⟩
      · exact ⟨kf_new hf (by omega), ⟨trivial, e _ (kf_new hf (by omega)) (hC.new hf.1) (kFc.new hf.1 (by omega)) (fun z => by cases z)⟩⟩
      · exact ⟨kf_new hf (by omega), ⟨trivial, e _ (kf_new hf (by omega)) (hC.new hf.1) (kFc.new hf.1 (by omega)) (fun z => by cases z)⟩⟩
    · subst c
      exact ⟨hin, trivial, e (ka_sJ h' 102 0 v.toInt64) f1 f2 f3 (fun _ => rfl)⟩
theorem kw_since (w : kWA A) (a1 a2 a3 a4 : Int32) : kOq 201 252 217 [.int a1, .int a2, .int a3, .int a4] A := by
  obtain ⟨A', co, ex, v, w1, h1, h2, h3⟩ := ko_since w a1 a2 a3 a4
  refine ⟨A', co, v, w1, ?_, fun g h R hf hb hC e => ?_, h3.le (by decide)⟩
  · by_cases c : co = 0
    · omega
    · rcases (h1 c).2 with ⟨rfl, rfl⟩ | ⟨rfl, rfl⟩ <;> decide
  · have hin : vp_in (0 : Int32) 1 := nI_in (c := 0) (N := 1) (by omega) (by omega)
    refine kq_in (d := 200) hf rfl rfl rfl (kq_seg kp_no 20 ?_)
    refine h2 g h _ hf hb hC (fun c => ?_) (fun c h' f1 f2 f3 => ⟨f1, ?_⟩)
    · obtain ⟨rfl, hm⟩ := h1 c
      rcases hm with ⟨rfl, rfl⟩ | ⟨rfl, rfl⟩
      · exact ⟨kf_new hf (by omega), ⟨trivial, e _ (kf_new hf (by omega)) (hC.new hf.1) (kFc.new hf.1 (by omega)) (fun z => by cases z)⟩⟩
      · exact ⟨kf_new hf (by omega), ⟨trivial, e _ (kf_new hf (by omega)) (hC.new hf.1) (kFc.new hf.1 (by omega)) (fun z => by cases z)⟩⟩
    · subst c
      exact ⟨hin, trivial, e (ka_sJ h' 102 0 v.toInt64) f1 f2 f3 (fun _ => rfl)⟩
theorem kw_fold (w : kWA A) (a1 : Int32) : kOq 201 253 218 [.int a1] A := by
  obtain ⟨A', co, ex, v, w1, h1, h2, h3⟩ := ko_fold w a1
  refine ⟨A', co, v, w1, ?_, fun g h R hf hb hC e => ?_, h3.le (by decide)⟩
  · by_cases c : co = 0
    · omega
    · rcases (h1 c).2 with ⟨rfl, rfl⟩ <;> decide
  · have hin : vp_in (0 : Int32) 1 := nI_in (c := 0) (N := 1) (by omega) (by omega)
    refine kq_in (d := 200) hf rfl rfl rfl (kq_seg kp_no 20 ?_)
    refine h2 g h _ hf hb hC (fun c => ?_) (fun c h' f1 f2 f3 => ⟨f1, ?_⟩)
    · obtain ⟨rfl, hm⟩ := h1 c
      obtain ⟨rfl, rfl⟩ := hm
      exact ⟨kf_new hf (by omega), ⟨trivial, e _ (kf_new hf (by omega)) (hC.new hf.1) (kFc.new hf.1 (by omega)) (fun z => by cases z)⟩⟩
    · subst c
      exact ⟨hin, trivial, e (ka_sJ h' 102 0 v.toInt64) f1 f2 f3 (fun _ => rfl)⟩
theorem kw_reader (w : kWA A) (a1 : Int32) : kOq 201 254 219 [.int a1] A := by
  obtain ⟨A', co, ex, v, w1, h1, h2, h3⟩ := ko_reader w a1
  refine ⟨A', co, v, w1, ?_, fun g h R hf hb hC e => ?_, h3.le (by decide)⟩
  · by_cases c : co = 0
    · omega
    · rcases (h1 c).2 with ⟨rfl, rfl⟩ <;> decide
  · have hin : vp_in (0 : Int32) 1 := nI_in (c := 0) (N := 1) (by omega) (by omega)
    refine kq_in (d := 200) hf rfl rfl rfl (kq_seg kp_no 20 ?_)
    refine h2 g h _ hf hb hC (fun c => ?_) (fun c h' f1 f2 f3 => ⟨f1, ?_⟩)
    · obtain ⟨rfl, hm⟩ := h1 c
      obtain ⟨rfl, rfl⟩ := hm
      exact ⟨kf_new hf (by omega), ⟨trivial, e _ (kf_new hf (by omega)) (hC.new hf.1) (kFc.new hf.1 (by omega)) (fun z => by cases z)⟩⟩
    · subst c
      exact ⟨hin, trivial, e (ka_sJ h' 102 0 v.toInt64) f1 f2 f3 (fun _ => rfl)⟩
theorem kw_gone (w : kWA A) (a1 : Int32) : kOq 201 255 220 [.int a1] A := by
  obtain ⟨A', co, ex, v, w1, h1, h2, h3⟩ := ko_gone w a1
  refine ⟨A', co, v, w1, ?_, fun g h R hf hb hC e => ?_, h3.le (by decide)⟩
  · by_cases c : co = 0
    · omega
    · rcases (h1 c).2 with ⟨rfl, rfl⟩ <;> decide
  · have hin : vp_in (0 : Int32) 1 := nI_in (c := 0) (N := 1) (by omega) (by omega)
    refine kq_in (d := 200) hf rfl rfl rfl (kq_seg kp_no 20 ?_)
    refine h2 g h _ hf hb hC (fun c => ?_) (fun c h' f1 f2 f3 => ⟨f1, ?_⟩)
    · obtain ⟨rfl, hm⟩ := h1 c
      obtain ⟨rfl, rfl⟩ := hm
      exact ⟨kf_new hf (by omega), ⟨trivial, e _ (kf_new hf (by omega)) (hC.new hf.1) (kFc.new hf.1 (by omega)) (fun z => by cases z)⟩⟩
    · subst c
      exact ⟨hin, trivial, e (ka_sJ h' 102 0 v.toInt64) f1 f2 f3 (fun _ => rfl)⟩
theorem kw_way (w : kWA A) (a1 a2 a3 a4 a5 a6 : Int32) : kOq 201 256 222 [.int a1, .int a2, .int a3, .int a4, .int a5, .int a6] A := by
  obtain ⟨A', co, ex, v, w1, h1, h2, h3⟩ := ko_way w a1 a2 a3 a4 a5 a6
  refine ⟨A', co, v, w1, ?_, fun g h R hf hb hC e => ?_, h3.le (by decide)⟩
  · by_cases c : co = 0
    · omega
    · rcases (h1 c).2 with ⟨rfl, rfl⟩ | ⟨rfl, rfl⟩ | ⟨rfl, rfl⟩ <;> decide
  · have hin : vp_in (0 : Int32) 1 := nI_in (c := 0) (N := 1) (by omega) (by omega)
    refine kq_in (d := 200) hf rfl rfl rfl (kq_seg kp_no 20 ?_)
    refine h2 g h _ hf hb hC (fun c => ?_) (fun c h' f1 f2 f3 => ⟨f1, ?_⟩)
    · obtain ⟨rfl, hm⟩ := h1 c
      rcases hm with ⟨rfl, rfl⟩ | ⟨rfl, rfl⟩ | ⟨rfl, rfl⟩
      · exact ⟨kf_new hf (by omega), ⟨trivial, e _ (kf_new hf (by omega)) (hC.new hf.1) (kFc.new hf.1 (by omega)) (fun z => by cases z)⟩⟩
      · exact ⟨kf_new hf (by omega), ⟨trivial, e _ (kf_new hf (by omega)) (hC.new hf.1) (kFc.new hf.1 (by omega)) (fun z => by cases z)⟩⟩
      · exact ⟨kf_new hf (by omega), ⟨trivial, e _ (kf_new hf (by omega)) (hC.new hf.1) (kFc.new hf.1 (by omega)) (fun z => by cases z)⟩⟩
    · subst c
      exact ⟨hin, trivial, e (ka_sJ h' 102 0 v.toInt64) f1 f2 f3 (fun _ => rfl)⟩
theorem kw_without (w : kWA A) (a1 a2 a3 a4 a5 a6 a7 : Int32) : kOq 201 257 223 [.int a1, .int a2, .int a3, .int a4, .int a5, .int a6, .int a7] A := by
  obtain ⟨A', co, ex, v, w1, h1, h2, h3⟩ := ko_without w a1 a2 a3 a4 a5 a6 a7
  refine ⟨A', co, v, w1, ?_, fun g h R hf hb hC e => ?_, h3.le (by decide)⟩
  · by_cases c : co = 0
    · omega
    · rcases (h1 c).2 with ⟨rfl, rfl⟩ | ⟨rfl, rfl⟩ | ⟨rfl, rfl⟩ <;> decide
  · have hin : vp_in (0 : Int32) 1 := nI_in (c := 0) (N := 1) (by omega) (by omega)
    refine kq_in (d := 200) hf rfl rfl rfl (kq_seg kp_no 20 ?_)
    refine h2 g h _ hf hb hC (fun c => ?_) (fun c h' f1 f2 f3 => ⟨f1, ?_⟩)
    · obtain ⟨rfl, hm⟩ := h1 c
      rcases hm with ⟨rfl, rfl⟩ | ⟨rfl, rfl⟩ | ⟨rfl, rfl⟩
      · exact ⟨kf_new hf (by omega), ⟨trivial, e _ (kf_new hf (by omega)) (hC.new hf.1) (kFc.new hf.1 (by omega)) (fun z => by cases z)⟩⟩
      · exact ⟨kf_new hf (by omega), ⟨trivial, e _ (kf_new hf (by omega)) (hC.new hf.1) (kFc.new hf.1 (by omega)) (fun z => by cases z)⟩⟩
      · exact ⟨kf_new hf (by omega), ⟨trivial, e _ (kf_new hf (by omega)) (hC.new hf.1) (kFc.new hf.1 (by omega)) (fun z => by cases z)⟩⟩
    · subst c
      exact ⟨hin, trivial, e (ka_sJ h' 102 0 v.toInt64) f1 f2 f3 (fun _ => rfl)⟩
theorem kw_needed (w : kWA A) (a1 a2 a3 a4 a5 : Int32) : kOq 201 258 224 [.int a1, .int a2, .int a3, .int a4, .int a5] A := by
  obtain ⟨A', co, ex, v, w1, h1, h2, h3⟩ := ko_needed w a1 a2 a3 a4 a5
  refine ⟨A', co, v, w1, ?_, fun g h R hf hb hC e => ?_, h3.le (by decide)⟩
  · by_cases c : co = 0
    · omega
    · rcases (h1 c).2 with ⟨rfl, rfl⟩ | ⟨rfl, rfl⟩ | ⟨rfl, rfl⟩ <;> decide
  · have hin : vp_in (0 : Int32) 1 := nI_in (c := 0) (N := 1) (by omega) (by omega)
    refine kq_in (d := 200) hf rfl rfl rfl (kq_seg kp_no 20 ?_)
    refine h2 g h _ hf hb hC (fun c => ?_) (fun c h' f1 f2 f3 => ⟨f1, ?_⟩)
    · obtain ⟨rfl, hm⟩ := h1 c
      rcases hm with ⟨rfl, rfl⟩ | ⟨rfl, rfl⟩ | ⟨rfl, rfl⟩
      · exact ⟨kf_new hf (by omega), ⟨trivial, e _ (kf_new hf (by omega)) (hC.new hf.1) (kFc.new hf.1 (by omega)) (fun z => by cases z)⟩⟩
      · exact ⟨kf_new hf (by omega), ⟨trivial, e _ (kf_new hf (by omega)) (hC.new hf.1) (kFc.new hf.1 (by omega)) (fun z => by cases z)⟩⟩
      · exact ⟨kf_new hf (by omega), ⟨trivial, e _ (kf_new hf (by omega)) (hC.new hf.1) (kFc.new hf.1 (by omega)) (fun z => by cases z)⟩⟩
    · subst c
      exact ⟨hin, trivial, e (ka_sJ h' 102 0 v.toInt64) f1 f2 f3 (fun _ => rfl)⟩
theorem kw_kern (w : kWA A) (a1 a2 a3 a4 a5 : Int32) : kOq 201 259 225 [.int a1, .int a2, .int a3, .int a4, .int a5] A := by
  obtain ⟨A', co, ex, v, w1, h1, h2, h3⟩ := ko_kern w a1 a2 a3 a4 a5
  refine ⟨A', co, v, w1, ?_, fun g h R hf hb hC e => ?_, h3.le (by decide)⟩
  · by_cases c : co = 0
    · omega
    · rcases (h1 c).2 with ⟨rfl, rfl⟩ | ⟨rfl, rfl⟩ <;> decide
  · have hin : vp_in (0 : Int32) 1 := nI_in (c := 0) (N := 1) (by omega) (by omega)
    refine kq_in (d := 200) hf rfl rfl rfl (kq_seg kp_no 20 ?_)
    refine h2 g h _ hf hb hC (fun c => ?_) (fun c h' f1 f2 f3 => ⟨f1, ?_⟩)
    · obtain ⟨rfl, hm⟩ := h1 c
      rcases hm with ⟨rfl, rfl⟩ | ⟨rfl, rfl⟩
      · exact ⟨kf_new hf (by omega), ⟨trivial, e _ (kf_new hf (by omega)) (hC.new hf.1) (kFc.new hf.1 (by omega)) (fun z => by cases z)⟩⟩
      · exact ⟨kf_new hf (by omega), ⟨trivial, e _ (kf_new hf (by omega)) (hC.new hf.1) (kFc.new hf.1 (by omega)) (fun z => by cases z)⟩⟩
    · subst c
      exact ⟨hin, trivial, e (ka_sJ h' 102 0 v.toInt64) f1 f2 f3 (fun _ => rfl)⟩
theorem kw_wanted (w : kWA A) (a1 a2 a3 a4 a5 a6 : Int32) : kOq 201 260 226 [.int a1, .int a2, .int a3, .int a4, .int a5, .int a6] A := by
  obtain ⟨A', co, ex, v, w1, h1, h2, h3⟩ := ko_wanted w a1 a2 a3 a4 a5 a6
  refine ⟨A', co, v, w1, ?_, fun g h R hf hb hC e => ?_, h3.le (by decide)⟩
  · by_cases c : co = 0
    · omega
    · rcases (h1 c).2 with ⟨rfl, rfl⟩ | ⟨rfl, rfl⟩ | ⟨rfl, rfl⟩ <;> decide
  · have hin : vp_in (0 : Int32) 1 := nI_in (c := 0) (N := 1) (by omega) (by omega)
    refine kq_in (d := 200) hf rfl rfl rfl (kq_seg kp_no 20 ?_)
    refine h2 g h _ hf hb hC (fun c => ?_) (fun c h' f1 f2 f3 => ⟨f1, ?_⟩)
    · obtain ⟨rfl, hm⟩ := h1 c
      rcases hm with ⟨rfl, rfl⟩ | ⟨rfl, rfl⟩ | ⟨rfl, rfl⟩
      · exact ⟨kf_new hf (by omega), ⟨trivial, e _ (kf_new hf (by omega)) (hC.new hf.1) (kFc.new hf.1 (by omega)) (fun z => by cases z)⟩⟩
      · exact ⟨kf_new hf (by omega), ⟨trivial, e _ (kf_new hf (by omega)) (hC.new hf.1) (kFc.new hf.1 (by omega)) (fun z => by cases z)⟩⟩
      · exact ⟨kf_new hf (by omega), ⟨trivial, e _ (kf_new hf (by omega)) (hC.new hf.1) (kFc.new hf.1 (by omega)) (fun z => by cases z)⟩⟩
    · subst c
      exact ⟨hin, trivial, e (ka_sJ h' 102 0 v.toInt64) f1 f2 f3 (fun _ => rfl)⟩
theorem kw_when (w : kWA A) (a1 a2 a3 a4 : Int32) : kOq 201 261 227 [.int a1, .int a2, .int a3, .int a4] A := by
  obtain ⟨A', co, ex, v, w1, h1, h2, h3⟩ := ko_when w a1 a2 a3 a4
  refine ⟨A', co, v, w1, ?_, fun g h R hf hb hC e => ?_, h3.le (by decide)⟩
  · by_cases c : co = 0
    · omega
    · rcases (h1 c).2 with ⟨rfl, rfl⟩ | ⟨rfl, rfl⟩ <;> decide
  · have hin : vp_in (0 : Int32) 1 := nI_in (c := 0) (N := 1) (by omega) (by omega)
    refine kq_in (d := 200) hf rfl rfl rfl (kq_seg kp_no 20 ?_)
    refine h2 g h _ hf hb hC (fun c => ?_) (fun c h' f1 f2 f3 => ⟨f1, ?_⟩)
    · obtain ⟨rfl, hm⟩ := h1 c
      rcases hm with ⟨rfl, rfl⟩ | ⟨rfl, rfl⟩
      · exact ⟨kf_new hf (by omega), ⟨trivial, e _ (kf_new hf (by omega)) (hC.new hf.1) (kFc.new hf.1 (by omega)) (fun z => by cases z)⟩⟩
      · exact ⟨kf_new hf (by omega), ⟨trivial, e _ (kf_new hf (by omega)) (hC.new hf.1) (kFc.new hf.1 (by omega)) (fun z => by cases z)⟩⟩
    · subst c
      exact ⟨hin, trivial, e (ka_sJ h' 102 0 v.toInt64) f1 f2 f3 (fun _ => rfl)⟩
theorem kw_unlike (w : kWA A) (a1 a2 a3 : Int32) : kOq 201 262 228 [.int a1, .int a2, .int a3] A := by
  obtain ⟨A', co, ex, v, w1, h1, h2, h3⟩ := ko_unlike w a1 a2 a3
  refine ⟨A', co, v, w1, ?_, fun g h R hf hb hC e => ?_, h3.le (by decide)⟩
  · by_cases c : co = 0
    · omega
    · rcases (h1 c).2 with ⟨rfl, rfl⟩ <;> decide
  · have hin : vp_in (0 : Int32) 1 := nI_in (c := 0) (N := 1) (by omega) (by omega)
    refine kq_in (d := 200) hf rfl rfl rfl (kq_seg kp_no 20 ?_)
    refine h2 g h _ hf hb hC (fun c => ?_) (fun c h' f1 f2 f3 => ⟨f1, ?_⟩)
    · obtain ⟨rfl, hm⟩ := h1 c
      obtain ⟨rfl, rfl⟩ := hm
      exact ⟨kf_new hf (by omega), ⟨trivial, e _ (kf_new hf (by omega)) (hC.new hf.1) (kFc.new hf.1 (by omega)) (fun z => by cases z)⟩⟩
    · subst c
      exact ⟨hin, trivial, e (ka_sJ h' 102 0 v.toInt64) f1 f2 f3 (fun _ => rfl)⟩
theorem kw_digest (w : kWA A) (a1 a2 a3 : Int32) : kOq 201 263 229 [.int a1, .int a2, .int a3] A := by
  obtain ⟨A', co, ex, v, w1, h1, h2, h3⟩ := ko_digest w a1 a2 a3
  refine ⟨A', co, v, w1, ?_, fun g h R hf hb hC e => ?_, h3.le (by decide)⟩
  · by_cases c : co = 0
    · omega
    · rcases (h1 c).2 with ⟨rfl, rfl⟩ | ⟨rfl, rfl⟩ <;> decide
  · have hin : vp_in (0 : Int32) 1 := nI_in (c := 0) (N := 1) (by omega) (by omega)
    refine kq_in (d := 200) hf rfl rfl rfl (kq_seg kp_no 20 ?_)
    refine h2 g h _ hf hb hC (fun c => ?_) (fun c h' f1 f2 f3 => ⟨f1, ?_⟩)
    · obtain ⟨rfl, hm⟩ := h1 c
      rcases hm with ⟨rfl, rfl⟩ | ⟨rfl, rfl⟩
      · exact ⟨kf_new hf (by omega), ⟨trivial, e _ (kf_new hf (by omega)) (hC.new hf.1) (kFc.new hf.1 (by omega)) (fun z => by cases z)⟩⟩
      · exact ⟨kf_new hf (by omega), ⟨trivial, e _ (kf_new hf (by omega)) (hC.new hf.1) (kFc.new hf.1 (by omega)) (fun z => by cases z)⟩⟩
    · subst c
      exact ⟨hin, trivial, e (ka_sJ h' 102 0 v.toInt64) f1 f2 f3 (fun _ => rfl)⟩
theorem kw_ready (w : kWA A) (a1 a2 : Int32) : kOq 201 264 230 [.int a1, .int a2] A := by
  obtain ⟨A', co, ex, v, w1, h1, h2, h3⟩ := ko_ready w a1 a2
  refine ⟨A', co, v, w1, ?_, fun g h R hf hb hC e => ?_, h3.le (by decide)⟩
  · by_cases c : co = 0
    · omega
    · rcases (h1 c).2 with ⟨rfl, rfl⟩ <;> decide
  · have hin : vp_in (0 : Int32) 1 := nI_in (c := 0) (N := 1) (by omega) (by omega)
    refine kq_in (d := 200) hf rfl rfl rfl (kq_seg kp_no 20 ?_)
    refine h2 g h _ hf hb hC (fun c => ?_) (fun c h' f1 f2 f3 => ⟨f1, ?_⟩)
    · obtain ⟨rfl, hm⟩ := h1 c
      obtain ⟨rfl, rfl⟩ := hm
      exact ⟨kf_new hf (by omega), ⟨trivial, e _ (kf_new hf (by omega)) (hC.new hf.1) (kFc.new hf.1 (by omega)) (fun z => by cases z)⟩⟩
    · subst c
      exact ⟨hin, trivial, e (ka_sJ h' 102 0 v.toInt64) f1 f2 f3 (fun _ => rfl)⟩
theorem kw_lacks (w : kWA A) (a1 a2 : Int32) : kOq 201 265 231 [.int a1, .int a2] A := by
  obtain ⟨A', co, ex, v, w1, h1, h2, h3⟩ := ko_lacks w a1 a2
  refine ⟨A', co, v, w1, ?_, fun g h R hf hb hC e => ?_, h3.le (by decide)⟩
  · by_cases c : co = 0
    · omega
    · rcases (h1 c).2 with ⟨rfl, rfl⟩ <;> decide
  · have hin : vp_in (0 : Int32) 1 := nI_in (c := 0) (N := 1) (by omega) (by omega)
    refine kq_in (d := 200) hf rfl rfl rfl (kq_seg kp_no 20 ?_)
    refine h2 g h _ hf hb hC (fun c => ?_) (fun c h' f1 f2 f3 => ⟨f1, ?_⟩)
    · obtain ⟨rfl, hm⟩ := h1 c
      obtain ⟨rfl, rfl⟩ := hm
      exact ⟨kf_new hf (by omega), ⟨trivial, e _ (kf_new hf (by omega)) (hC.new hf.1) (kFc.new hf.1 (by omega)) (fun z => by cases z)⟩⟩
    · subst c
      exact ⟨hin, trivial, e (ka_sJ h' 102 0 v.toInt64) f1 f2 f3 (fun _ => rfl)⟩
theorem kw_told (w : kWA A) (a1 a2 : Int32) : kOq 201 266 232 [.int a1, .int a2] A := by
  obtain ⟨A', co, ex, v, w1, h1, h2, h3⟩ := ko_told w a1 a2
  refine ⟨A', co, v, w1, ?_, fun g h R hf hb hC e => ?_, h3.le (by decide)⟩
  · by_cases c : co = 0
    · omega
    · rcases (h1 c).2 with ⟨rfl, rfl⟩ | ⟨rfl, rfl⟩ <;> decide
  · have hin : vp_in (0 : Int32) 1 := nI_in (c := 0) (N := 1) (by omega) (by omega)
    refine kq_in (d := 200) hf rfl rfl rfl (kq_seg kp_no 20 ?_)
    refine h2 g h _ hf hb hC (fun c => ?_) (fun c h' f1 f2 f3 => ⟨f1, ?_⟩)
    · obtain ⟨rfl, hm⟩ := h1 c
      rcases hm with ⟨rfl, rfl⟩ | ⟨rfl, rfl⟩
      · exact ⟨kf_new hf (by omega), ⟨trivial, e _ (kf_new hf (by omega)) (hC.new hf.1) (kFc.new hf.1 (by omega)) (fun z => by cases z)⟩⟩
      · exact ⟨kf_new hf (by omega), ⟨trivial, e _ (kf_new hf (by omega)) (hC.new hf.1) (kFc.new hf.1 (by omega)) (fun z => by cases z)⟩⟩
    · subst c
      exact ⟨hin, trivial, e (ka_sJ h' 102 0 v.toInt64) f1 f2 f3 (fun _ => rfl)⟩
end WR
