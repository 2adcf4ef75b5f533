set_option maxRecDepth 100000 in
theorem dv_M_init : ∀ q ∈ mt_M_init.2.2.2.2, decode mt_M_init.2.1 q.1 = .ok (q.2.1, q.2.2) := by decide +kernel
set_option maxRecDepth 100000 in
theorem dv_M_face : ∀ q ∈ mt_M_face.2.2.2.2, decode mt_M_face.2.1 q.1 = .ok (q.2.1, q.2.2) := by decide +kernel
set_option maxRecDepth 100000 in
theorem dv_M_gather : ∀ q ∈ mt_M_gather.2.2.2.2, decode mt_M_gather.2.1 q.1 = .ok (q.2.1, q.2.2) := by decide +kernel
set_option maxRecDepth 100000 in
theorem dv_M_drawArea : ∀ q ∈ mt_M_drawArea.2.2.2.2, decode mt_M_drawArea.2.1 q.1 = .ok (q.2.1, q.2.2) := by decide +kernel
set_option maxRecDepth 100000 in
theorem dv_M_drawCircle : ∀ q ∈ mt_M_drawCircle.2.2.2.2, decode mt_M_drawCircle.2.1 q.1 = .ok (q.2.1, q.2.2) := by decide +kernel
set_option maxRecDepth 100000 in
theorem dv_M_drawAngle : ∀ q ∈ mt_M_drawAngle.2.2.2.2, decode mt_M_drawAngle.2.1 q.1 = .ok (q.2.1, q.2.2) := by decide +kernel
set_option maxRecDepth 100000 in
theorem dv_M_drawObject : ∀ q ∈ mt_M_drawObject.2.2.2.2, decode mt_M_drawObject.2.1 q.1 = .ok (q.2.1, q.2.2) := by decide +kernel
set_option maxRecDepth 100000 in
theorem dv_M_draw : ∀ q ∈ mt_M_draw.2.2.2.2, decode mt_M_draw.2.1 q.1 = .ok (q.2.1, q.2.2) := by decide +kernel
set_option maxRecDepth 100000 in
theorem dv_M_place : ∀ q ∈ mt_M_place.2.2.2.2, decode mt_M_place.2.1 q.1 = .ok (q.2.1, q.2.2) := by decide +kernel
set_option maxRecDepth 100000 in
theorem dv_Pn_paintHatchStroke : ∀ q ∈ mt_Pn_paintHatchStroke.2.2.2.2, decode mt_Pn_paintHatchStroke.2.1 q.1 = .ok (q.2.1, q.2.2) := by decide +kernel
