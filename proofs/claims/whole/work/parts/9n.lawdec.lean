/-! ===== the law's instructions ===== -/
theorem mem_chunk {α : Type} {l : List α} {q : α} (h : q ∈ l) (n : Nat) : q ∈ l.take n ∨ q ∈ l.drop n := by
  rw [← List.take_append_drop n l] at h
  exact List.mem_append.mp h
set_option maxHeartbeats 4000000 in
set_option maxRecDepth 100000 in
theorem dv_W_law_0 : ∀ q ∈ (mt_W_law.2.2.2.2.drop 0).take 60, decode mt_W_law.2.1 q.1 = .ok (q.2.1, q.2.2) := by decide +kernel
set_option maxHeartbeats 4000000 in
set_option maxRecDepth 100000 in
theorem dv_W_law_1 : ∀ q ∈ (mt_W_law.2.2.2.2.drop 60).take 60, decode mt_W_law.2.1 q.1 = .ok (q.2.1, q.2.2) := by decide +kernel
set_option maxHeartbeats 4000000 in
set_option maxRecDepth 100000 in
theorem dv_W_law_2 : ∀ q ∈ (mt_W_law.2.2.2.2.drop 120).take 60, decode mt_W_law.2.1 q.1 = .ok (q.2.1, q.2.2) := by decide +kernel
set_option maxHeartbeats 4000000 in
set_option maxRecDepth 100000 in
theorem dv_W_law_3 : ∀ q ∈ (mt_W_law.2.2.2.2.drop 180).take 60, decode mt_W_law.2.1 q.1 = .ok (q.2.1, q.2.2) := by decide +kernel
set_option maxHeartbeats 4000000 in
set_option maxRecDepth 100000 in
theorem dv_W_law_4 : ∀ q ∈ (mt_W_law.2.2.2.2.drop 240).take 60, decode mt_W_law.2.1 q.1 = .ok (q.2.1, q.2.2) := by decide +kernel
set_option maxHeartbeats 4000000 in
set_option maxRecDepth 100000 in
theorem dv_W_law_5 : ∀ q ∈ (mt_W_law.2.2.2.2.drop 300).take 60, decode mt_W_law.2.1 q.1 = .ok (q.2.1, q.2.2) := by decide +kernel
set_option maxHeartbeats 4000000 in
set_option maxRecDepth 100000 in
theorem dv_W_law_6 : ∀ q ∈ (mt_W_law.2.2.2.2.drop 360).take 60, decode mt_W_law.2.1 q.1 = .ok (q.2.1, q.2.2) := by decide +kernel
set_option maxHeartbeats 4000000 in
set_option maxRecDepth 100000 in
theorem dv_W_law_7 : ∀ q ∈ (mt_W_law.2.2.2.2.drop 420).take 60, decode mt_W_law.2.1 q.1 = .ok (q.2.1, q.2.2) := by decide +kernel
set_option maxHeartbeats 4000000 in
set_option maxRecDepth 100000 in
theorem dv_W_law_8 : ∀ q ∈ (mt_W_law.2.2.2.2.drop 480).take 60, decode mt_W_law.2.1 q.1 = .ok (q.2.1, q.2.2) := by decide +kernel
set_option maxHeartbeats 4000000 in
set_option maxRecDepth 100000 in
theorem dv_W_law_9 : ∀ q ∈ (mt_W_law.2.2.2.2.drop 540).take 60, decode mt_W_law.2.1 q.1 = .ok (q.2.1, q.2.2) := by decide +kernel
set_option maxHeartbeats 4000000 in
set_option maxRecDepth 100000 in
theorem dv_W_law_10 : ∀ q ∈ (mt_W_law.2.2.2.2.drop 600).take 60, decode mt_W_law.2.1 q.1 = .ok (q.2.1, q.2.2) := by decide +kernel
set_option maxHeartbeats 4000000 in
set_option maxRecDepth 100000 in
theorem dv_W_law_11 : ∀ q ∈ (mt_W_law.2.2.2.2.drop 660).take 60, decode mt_W_law.2.1 q.1 = .ok (q.2.1, q.2.2) := by decide +kernel
set_option maxHeartbeats 4000000 in
set_option maxRecDepth 100000 in
theorem dv_W_law_12 : ∀ q ∈ (mt_W_law.2.2.2.2.drop 720).take 60, decode mt_W_law.2.1 q.1 = .ok (q.2.1, q.2.2) := by decide +kernel
set_option maxHeartbeats 4000000 in
set_option maxRecDepth 100000 in
theorem dv_W_law_13 : ∀ q ∈ (mt_W_law.2.2.2.2.drop 780).take 60, decode mt_W_law.2.1 q.1 = .ok (q.2.1, q.2.2) := by decide +kernel
set_option maxHeartbeats 4000000 in
set_option maxRecDepth 100000 in
theorem dv_W_law_14 : ∀ q ∈ (mt_W_law.2.2.2.2.drop 840).take 60, decode mt_W_law.2.1 q.1 = .ok (q.2.1, q.2.2) := by decide +kernel
set_option maxHeartbeats 4000000 in
set_option maxRecDepth 100000 in
theorem dv_W_law_15 : ∀ q ∈ (mt_W_law.2.2.2.2.drop 900).take 60, decode mt_W_law.2.1 q.1 = .ok (q.2.1, q.2.2) := by decide +kernel
set_option maxRecDepth 100000 in
theorem dv_W_law : ∀ q ∈ mt_W_law.2.2.2.2, decode mt_W_law.2.1 q.1 = .ok (q.2.1, q.2.2) := by
  intro q h
  have h : q ∈ mt_W_law.2.2.2.2.drop 0 := h
  rcases mem_chunk h 60 with h | h
  · exact dv_W_law_0 q h
  rw [List.drop_drop] at h
  rcases mem_chunk h 60 with h | h
  · exact dv_W_law_1 q h
  rw [List.drop_drop] at h
  rcases mem_chunk h 60 with h | h
  · exact dv_W_law_2 q h
  rw [List.drop_drop] at h
  rcases mem_chunk h 60 with h | h
  · exact dv_W_law_3 q h
  rw [List.drop_drop] at h
  rcases mem_chunk h 60 with h | h
  · exact dv_W_law_4 q h
  rw [List.drop_drop] at h
  rcases mem_chunk h 60 with h | h
  · exact dv_W_law_5 q h
  rw [List.drop_drop] at h
  rcases mem_chunk h 60 with h | h
  · exact dv_W_law_6 q h
  rw [List.drop_drop] at h
  rcases mem_chunk h 60 with h | h
  · exact dv_W_law_7 q h
  rw [List.drop_drop] at h
  rcases mem_chunk h 60 with h | h
  · exact dv_W_law_8 q h
  rw [List.drop_drop] at h
  rcases mem_chunk h 60 with h | h
  · exact dv_W_law_9 q h
  rw [List.drop_drop] at h
  rcases mem_chunk h 60 with h | h
  · exact dv_W_law_10 q h
  rw [List.drop_drop] at h
  rcases mem_chunk h 60 with h | h
  · exact dv_W_law_11 q h
  rw [List.drop_drop] at h
  rcases mem_chunk h 60 with h | h
  · exact dv_W_law_12 q h
  rw [List.drop_drop] at h
  rcases mem_chunk h 60 with h | h
  · exact dv_W_law_13 q h
  rw [List.drop_drop] at h
  rcases mem_chunk h 60 with h | h
  · exact dv_W_law_14 q h
  rw [List.drop_drop] at h
  rcases mem_chunk h 60 with h | h
  · exact dv_W_law_15 q h
  rw [List.drop_drop] at h
  have e : mt_W_law.2.2.2.2.drop 960 = [] := by decide +kernel
  exact absurd (show q ∈ mt_W_law.2.2.2.2.drop 960 from h) (by rw [e]; exact List.not_mem_nil)
