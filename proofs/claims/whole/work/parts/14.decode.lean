set_option maxRecDepth 100000 in
theorem dv_D_init : ∀ q ∈ mt_D_init.2.2.2.2, decode mt_D_init.2.1 q.1 = .ok (q.2.1, q.2.2) := by decide +kernel
set_option maxRecDepth 100000 in
theorem dv_D_point : ∀ q ∈ mt_D_point.2.2.2.2, decode mt_D_point.2.1 q.1 = .ok (q.2.1, q.2.2) := by decide +kernel
set_option maxRecDepth 100000 in
theorem dv_D_move : ∀ q ∈ mt_D_move.2.2.2.2, decode mt_D_move.2.1 q.1 = .ok (q.2.1, q.2.2) := by decide +kernel
set_option maxRecDepth 100000 in
theorem dv_D_tick : ∀ q ∈ mt_D_tick.2.2.2.2, decode mt_D_tick.2.1 q.1 = .ok (q.2.1, q.2.2) := by decide +kernel
set_option maxRecDepth 100000 in
theorem dv_D_at : ∀ q ∈ mt_D_at.2.2.2.2, decode mt_D_at.2.1 q.1 = .ok (q.2.1, q.2.2) := by decide +kernel
set_option maxRecDepth 100000 in
theorem dv_D_object : ∀ q ∈ mt_D_object.2.2.2.2, decode mt_D_object.2.1 q.1 = .ok (q.2.1, q.2.2) := by decide +kernel
set_option maxRecDepth 100000 in
theorem dv_D_corner : ∀ q ∈ mt_D_corner.2.2.2.2, decode mt_D_corner.2.1 q.1 = .ok (q.2.1, q.2.2) := by decide +kernel
set_option maxRecDepth 100000 in
theorem dv_D_area : ∀ q ∈ mt_D_area.2.2.2.2, decode mt_D_area.2.1 q.1 = .ok (q.2.1, q.2.2) := by decide +kernel
set_option maxRecDepth 100000 in
theorem dv_D_style : ∀ q ∈ mt_D_style.2.2.2.2, decode mt_D_style.2.1 q.1 = .ok (q.2.1, q.2.2) := by decide +kernel
set_option maxRecDepth 100000 in
theorem dv_D_hide : ∀ q ∈ mt_D_hide.2.2.2.2, decode mt_D_hide.2.1 q.1 = .ok (q.2.1, q.2.2) := by decide +kernel
set_option maxRecDepth 100000 in
theorem dv_D_fallen : ∀ q ∈ mt_D_fallen.2.2.2.2, decode mt_D_fallen.2.1 q.1 = .ok (q.2.1, q.2.2) := by decide +kernel
set_option maxRecDepth 100000 in
theorem dv_D_measure : ∀ q ∈ mt_D_measure.2.2.2.2, decode mt_D_measure.2.1 q.1 = .ok (q.2.1, q.2.2) := by decide +kernel
set_option maxRecDepth 100000 in
theorem dv_D_window : ∀ q ∈ mt_D_window.2.2.2.2, decode mt_D_window.2.1 q.1 = .ok (q.2.1, q.2.2) := by decide +kernel
set_option maxRecDepth 100000 in
theorem dv_D_fit : ∀ q ∈ mt_D_fit.2.2.2.2, decode mt_D_fit.2.1 q.1 = .ok (q.2.1, q.2.2) := by decide +kernel
set_option maxRecDepth 100000 in
theorem dv_D_side : ∀ q ∈ mt_D_side.2.2.2.2, decode mt_D_side.2.1 q.1 = .ok (q.2.1, q.2.2) := by decide +kernel
set_option maxRecDepth 100000 in
theorem dv_D_sheet : ∀ q ∈ mt_D_sheet.2.2.2.2, decode mt_D_sheet.2.1 q.1 = .ok (q.2.1, q.2.2) := by decide +kernel
set_option maxRecDepth 100000 in
theorem dv_D_grid : ∀ q ∈ mt_D_grid.2.2.2.2, decode mt_D_grid.2.1 q.1 = .ok (q.2.1, q.2.2) := by decide +kernel
set_option maxRecDepth 100000 in
theorem dv_D_hatch : ∀ q ∈ mt_D_hatch.2.2.2.2, decode mt_D_hatch.2.1 q.1 = .ok (q.2.1, q.2.2) := by decide +kernel
set_option maxRecDepth 100000 in
theorem dv_D_scale : ∀ q ∈ mt_D_scale.2.2.2.2, decode mt_D_scale.2.1 q.1 = .ok (q.2.1, q.2.2) := by decide +kernel
set_option maxRecDepth 100000 in
theorem dv_D_single : ∀ q ∈ mt_D_single.2.2.2.2, decode mt_D_single.2.1 q.1 = .ok (q.2.1, q.2.2) := by decide +kernel
set_option maxRecDepth 100000 in
theorem dv_D_solid : ∀ q ∈ mt_D_solid.2.2.2.2, decode mt_D_solid.2.1 q.1 = .ok (q.2.1, q.2.2) := by decide +kernel
set_option maxRecDepth 100000 in
theorem dv_D_vertex : ∀ q ∈ mt_D_vertex.2.2.2.2, decode mt_D_vertex.2.1 q.1 = .ok (q.2.1, q.2.2) := by decide +kernel
set_option maxRecDepth 100000 in
theorem dv_D_face : ∀ q ∈ mt_D_face.2.2.2.2, decode mt_D_face.2.1 q.1 = .ok (q.2.1, q.2.2) := by decide +kernel
set_option maxRecDepth 100000 in
theorem dv_D_view : ∀ q ∈ mt_D_view.2.2.2.2, decode mt_D_view.2.1 q.1 = .ok (q.2.1, q.2.2) := by decide +kernel
set_option maxRecDepth 100000 in
theorem dv_D_edge : ∀ q ∈ mt_D_edge.2.2.2.2, decode mt_D_edge.2.1 q.1 = .ok (q.2.1, q.2.2) := by decide +kernel
set_option maxRecDepth 100000 in
theorem dv_D_label : ∀ q ∈ mt_D_label.2.2.2.2, decode mt_D_label.2.1 q.1 = .ok (q.2.1, q.2.2) := by decide +kernel
set_option maxRecDepth 100000 in
theorem dv_D_draw : ∀ q ∈ mt_D_draw.2.2.2.2, decode mt_D_draw.2.1 q.1 = .ok (q.2.1, q.2.2) := by decide +kernel
set_option maxRecDepth 100000 in
theorem dv_D_mark : ∀ q ∈ mt_D_mark.2.2.2.2, decode mt_D_mark.2.1 q.1 = .ok (q.2.1, q.2.2) := by decide +kernel
set_option maxRecDepth 100000 in
theorem dv_D_placed : ∀ q ∈ mt_D_placed.2.2.2.2, decode mt_D_placed.2.1 q.1 = .ok (q.2.1, q.2.2) := by decide +kernel
set_option maxRecDepth 100000 in
theorem dv_D_octet : ∀ q ∈ mt_D_octet.2.2.2.2, decode mt_D_octet.2.1 q.1 = .ok (q.2.1, q.2.2) := by decide +kernel
set_option maxRecDepth 100000 in
theorem dv_D_digest : ∀ q ∈ mt_D_digest.2.2.2.2, decode mt_D_digest.2.1 q.1 = .ok (q.2.1, q.2.2) := by decide +kernel
set_option maxRecDepth 100000 in
theorem dv_D_count : ∀ q ∈ mt_D_count.2.2.2.2, decode mt_D_count.2.1 q.1 = .ok (q.2.1, q.2.2) := by decide +kernel
set_option maxRecDepth 100000 in
theorem dv_D_code : ∀ q ∈ mt_D_code.2.2.2.2, decode mt_D_code.2.1 q.1 = .ok (q.2.1, q.2.2) := by decide +kernel
set_option maxRecDepth 100000 in
theorem dv_D_group : ∀ q ∈ mt_D_group.2.2.2.2, decode mt_D_group.2.1 q.1 = .ok (q.2.1, q.2.2) := by decide +kernel
set_option maxRecDepth 100000 in
theorem dv_D_put : ∀ q ∈ mt_D_put.2.2.2.2, decode mt_D_put.2.1 q.1 = .ok (q.2.1, q.2.2) := by decide +kernel
set_option maxRecDepth 100000 in
theorem dv_D_member : ∀ q ∈ mt_D_member.2.2.2.2, decode mt_D_member.2.1 q.1 = .ok (q.2.1, q.2.2) := by decide +kernel
set_option maxRecDepth 100000 in
theorem dv_D_paint : ∀ q ∈ mt_D_paint.2.2.2.2, decode mt_D_paint.2.1 q.1 = .ok (q.2.1, q.2.2) := by decide +kernel
set_option maxRecDepth 100000 in
theorem dv_D_reach : ∀ q ∈ mt_D_reach.2.2.2.2, decode mt_D_reach.2.1 q.1 = .ok (q.2.1, q.2.2) := by decide +kernel
set_option maxRecDepth 100000 in
theorem dv_D_endWith : ∀ q ∈ mt_D_endWith.2.2.2.2, decode mt_D_endWith.2.1 q.1 = .ok (q.2.1, q.2.2) := by decide +kernel
set_option maxRecDepth 100000 in
theorem dv_D_isWithin : ∀ q ∈ mt_D_isWithin.2.2.2.2, decode mt_D_isWithin.2.1 q.1 = .ok (q.2.1, q.2.2) := by decide +kernel
set_option maxRecDepth 100000 in
theorem dv_D_rounded : ∀ q ∈ mt_D_rounded.2.2.2.2, decode mt_D_rounded.2.1 q.1 = .ok (q.2.1, q.2.2) := by decide +kernel
set_option maxRecDepth 100000 in
theorem dv_D_roundedDown : ∀ q ∈ mt_D_roundedDown.2.2.2.2, decode mt_D_roundedDown.2.1 q.1 = .ok (q.2.1, q.2.2) := by decide +kernel
set_option maxRecDepth 100000 in
theorem dv_D_commonDivisor : ∀ q ∈ mt_D_commonDivisor.2.2.2.2, decode mt_D_commonDivisor.2.1 q.1 = .ok (q.2.1, q.2.2) := by decide +kernel
set_option maxRecDepth 100000 in
theorem dv_D_squareRoot : ∀ q ∈ mt_D_squareRoot.2.2.2.2, decode mt_D_squareRoot.2.1 q.1 = .ok (q.2.1, q.2.2) := by decide +kernel
set_option maxRecDepth 100000 in
theorem dv_D_multipleFrom : ∀ q ∈ mt_D_multipleFrom.2.2.2.2, decode mt_D_multipleFrom.2.1 q.1 = .ok (q.2.1, q.2.2) := by decide +kernel
set_option maxRecDepth 100000 in
theorem dv_D_multiplesWithin : ∀ q ∈ mt_D_multiplesWithin.2.2.2.2, decode mt_D_multiplesWithin.2.1 q.1 = .ok (q.2.1, q.2.2) := by decide +kernel
set_option maxRecDepth 100000 in
theorem dv_D_octant : ∀ q ∈ mt_D_octant.2.2.2.2, decode mt_D_octant.2.1 q.1 = .ok (q.2.1, q.2.2) := by decide +kernel
set_option maxRecDepth 100000 in
theorem dv_M_in : ∀ q ∈ mt_M_in.2.2.2.2, decode mt_M_in.2.1 q.1 = .ok (q.2.1, q.2.2) := by decide +kernel
set_option maxRecDepth 100000 in
theorem dv_M_isPoint : ∀ q ∈ mt_M_isPoint.2.2.2.2, decode mt_M_isPoint.2.1 q.1 = .ok (q.2.1, q.2.2) := by decide +kernel
set_option maxRecDepth 100000 in
theorem dv_M_isObject : ∀ q ∈ mt_M_isObject.2.2.2.2, decode mt_M_isObject.2.1 q.1 = .ok (q.2.1, q.2.2) := by decide +kernel
set_option maxRecDepth 100000 in
theorem dv_M_isSolid : ∀ q ∈ mt_M_isSolid.2.2.2.2, decode mt_M_isSolid.2.1 q.1 = .ok (q.2.1, q.2.2) := by decide +kernel
set_option maxRecDepth 100000 in
theorem dv_M_point : ∀ q ∈ mt_M_point.2.2.2.2, decode mt_M_point.2.1 q.1 = .ok (q.2.1, q.2.2) := by decide +kernel
set_option maxRecDepth 100000 in
theorem dv_M_move : ∀ q ∈ mt_M_move.2.2.2.2, decode mt_M_move.2.1 q.1 = .ok (q.2.1, q.2.2) := by decide +kernel
set_option maxRecDepth 100000 in
theorem dv_M_tick : ∀ q ∈ mt_M_tick.2.2.2.2, decode mt_M_tick.2.1 q.1 = .ok (q.2.1, q.2.2) := by decide +kernel
set_option maxRecDepth 100000 in
theorem dv_M_nowX : ∀ q ∈ mt_M_nowX.2.2.2.2, decode mt_M_nowX.2.1 q.1 = .ok (q.2.1, q.2.2) := by decide +kernel
set_option maxRecDepth 100000 in
theorem dv_M_nowY : ∀ q ∈ mt_M_nowY.2.2.2.2, decode mt_M_nowY.2.1 q.1 = .ok (q.2.1, q.2.2) := by decide +kernel
set_option maxRecDepth 100000 in
theorem dv_M_at : ∀ q ∈ mt_M_at.2.2.2.2, decode mt_M_at.2.1 q.1 = .ok (q.2.1, q.2.2) := by decide +kernel
set_option maxRecDepth 100000 in
theorem dv_M_wanted : ∀ q ∈ mt_M_wanted.2.2.2.2, decode mt_M_wanted.2.1 q.1 = .ok (q.2.1, q.2.2) := by decide +kernel
set_option maxRecDepth 100000 in
theorem dv_M_object : ∀ q ∈ mt_M_object.2.2.2.2, decode mt_M_object.2.1 q.1 = .ok (q.2.1, q.2.2) := by decide +kernel
set_option maxRecDepth 100000 in
theorem dv_M_corner : ∀ q ∈ mt_M_corner.2.2.2.2, decode mt_M_corner.2.1 q.1 = .ok (q.2.1, q.2.2) := by decide +kernel
set_option maxRecDepth 100000 in
theorem dv_M_area : ∀ q ∈ mt_M_area.2.2.2.2, decode mt_M_area.2.1 q.1 = .ok (q.2.1, q.2.2) := by decide +kernel
set_option maxRecDepth 100000 in
theorem dv_M_style : ∀ q ∈ mt_M_style.2.2.2.2, decode mt_M_style.2.1 q.1 = .ok (q.2.1, q.2.2) := by decide +kernel
set_option maxRecDepth 100000 in
theorem dv_M_hide : ∀ q ∈ mt_M_hide.2.2.2.2, decode mt_M_hide.2.1 q.1 = .ok (q.2.1, q.2.2) := by decide +kernel
set_option maxRecDepth 100000 in
theorem dv_M_cornerX : ∀ q ∈ mt_M_cornerX.2.2.2.2, decode mt_M_cornerX.2.1 q.1 = .ok (q.2.1, q.2.2) := by decide +kernel
set_option maxRecDepth 100000 in
theorem dv_M_cornerY : ∀ q ∈ mt_M_cornerY.2.2.2.2, decode mt_M_cornerY.2.1 q.1 = .ok (q.2.1, q.2.2) := by decide +kernel
set_option maxRecDepth 100000 in
theorem dv_M_measured : ∀ q ∈ mt_M_measured.2.2.2.2, decode mt_M_measured.2.1 q.1 = .ok (q.2.1, q.2.2) := by decide +kernel
set_option maxRecDepth 100000 in
theorem dv_M_isSame : ∀ q ∈ mt_M_isSame.2.2.2.2, decode mt_M_isSame.2.1 q.1 = .ok (q.2.1, q.2.2) := by decide +kernel
set_option maxRecDepth 100000 in
theorem dv_M_isFallen : ∀ q ∈ mt_M_isFallen.2.2.2.2, decode mt_M_isFallen.2.1 q.1 = .ok (q.2.1, q.2.2) := by decide +kernel
set_option maxRecDepth 100000 in
theorem dv_M_fallen : ∀ q ∈ mt_M_fallen.2.2.2.2, decode mt_M_fallen.2.1 q.1 = .ok (q.2.1, q.2.2) := by decide +kernel
set_option maxRecDepth 100000 in
theorem dv_M_measure : ∀ q ∈ mt_M_measure.2.2.2.2, decode mt_M_measure.2.1 q.1 = .ok (q.2.1, q.2.2) := by decide +kernel
set_option maxRecDepth 100000 in
theorem dv_M_isSide : ∀ q ∈ mt_M_isSide.2.2.2.2, decode mt_M_isSide.2.1 q.1 = .ok (q.2.1, q.2.2) := by decide +kernel
set_option maxRecDepth 100000 in
theorem dv_M_window : ∀ q ∈ mt_M_window.2.2.2.2, decode mt_M_window.2.1 q.1 = .ok (q.2.1, q.2.2) := by decide +kernel
set_option maxRecDepth 100000 in
theorem dv_M_fit : ∀ q ∈ mt_M_fit.2.2.2.2, decode mt_M_fit.2.1 q.1 = .ok (q.2.1, q.2.2) := by decide +kernel
set_option maxRecDepth 100000 in
theorem dv_M_side : ∀ q ∈ mt_M_side.2.2.2.2, decode mt_M_side.2.1 q.1 = .ok (q.2.1, q.2.2) := by decide +kernel
set_option maxRecDepth 100000 in
theorem dv_M_sheet : ∀ q ∈ mt_M_sheet.2.2.2.2, decode mt_M_sheet.2.1 q.1 = .ok (q.2.1, q.2.2) := by decide +kernel
set_option maxRecDepth 100000 in
theorem dv_M_grid : ∀ q ∈ mt_M_grid.2.2.2.2, decode mt_M_grid.2.1 q.1 = .ok (q.2.1, q.2.2) := by decide +kernel
set_option maxRecDepth 100000 in
theorem dv_M_hatch : ∀ q ∈ mt_M_hatch.2.2.2.2, decode mt_M_hatch.2.1 q.1 = .ok (q.2.1, q.2.2) := by decide +kernel
set_option maxRecDepth 100000 in
theorem dv_M_common : ∀ q ∈ mt_M_common.2.2.2.2, decode mt_M_common.2.1 q.1 = .ok (q.2.1, q.2.2) := by decide +kernel
set_option maxRecDepth 100000 in
theorem dv_M_hasScale : ∀ q ∈ mt_M_hasScale.2.2.2.2, decode mt_M_hasScale.2.1 q.1 = .ok (q.2.1, q.2.2) := by decide +kernel
set_option maxRecDepth 100000 in
theorem dv_M_scale : ∀ q ∈ mt_M_scale.2.2.2.2, decode mt_M_scale.2.1 q.1 = .ok (q.2.1, q.2.2) := by decide +kernel
set_option maxRecDepth 100000 in
theorem dv_M_floor : ∀ q ∈ mt_M_floor.2.2.2.2, decode mt_M_floor.2.1 q.1 = .ok (q.2.1, q.2.2) := by decide +kernel
set_option maxRecDepth 100000 in
theorem dv_M_topOn : ∀ q ∈ mt_M_topOn.2.2.2.2, decode mt_M_topOn.2.1 q.1 = .ok (q.2.1, q.2.2) := by decide +kernel
set_option maxRecDepth 100000 in
theorem dv_M_on : ∀ q ∈ mt_M_on.2.2.2.2, decode mt_M_on.2.1 q.1 = .ok (q.2.1, q.2.2) := by decide +kernel
set_option maxRecDepth 100000 in
theorem dv_M_single : ∀ q ∈ mt_M_single.2.2.2.2, decode mt_M_single.2.1 q.1 = .ok (q.2.1, q.2.2) := by decide +kernel
set_option maxRecDepth 100000 in
theorem dv_M_solid : ∀ q ∈ mt_M_solid.2.2.2.2, decode mt_M_solid.2.1 q.1 = .ok (q.2.1, q.2.2) := by decide +kernel
set_option maxRecDepth 100000 in
theorem dv_M_vertex : ∀ q ∈ mt_M_vertex.2.2.2.2, decode mt_M_vertex.2.1 q.1 = .ok (q.2.1, q.2.2) := by decide +kernel
set_option maxRecDepth 100000 in
theorem dv_M_view : ∀ q ∈ mt_M_view.2.2.2.2, decode mt_M_view.2.1 q.1 = .ok (q.2.1, q.2.2) := by decide +kernel
set_option maxRecDepth 100000 in
theorem dv_M_less : ∀ q ∈ mt_M_less.2.2.2.2, decode mt_M_less.2.1 q.1 = .ok (q.2.1, q.2.2) := by decide +kernel
set_option maxRecDepth 100000 in
theorem dv_M_isSeen : ∀ q ∈ mt_M_isSeen.2.2.2.2, decode mt_M_isSeen.2.1 q.1 = .ok (q.2.1, q.2.2) := by decide +kernel
set_option maxRecDepth 100000 in
theorem dv_M_edge : ∀ q ∈ mt_M_edge.2.2.2.2, decode mt_M_edge.2.1 q.1 = .ok (q.2.1, q.2.2) := by decide +kernel
set_option maxRecDepth 100000 in
theorem dv_M_narrow : ∀ q ∈ mt_M_narrow.2.2.2.2, decode mt_M_narrow.2.1 q.1 = .ok (q.2.1, q.2.2) := by decide +kernel
set_option maxRecDepth 100000 in
theorem dv_M_along : ∀ q ∈ mt_M_along.2.2.2.2, decode mt_M_along.2.1 q.1 = .ok (q.2.1, q.2.2) := by decide +kernel
set_option maxRecDepth 100000 in
theorem dv_M_clips : ∀ q ∈ mt_M_clips.2.2.2.2, decode mt_M_clips.2.1 q.1 = .ok (q.2.1, q.2.2) := by decide +kernel
set_option maxRecDepth 100000 in
theorem dv_M_add : ∀ q ∈ mt_M_add.2.2.2.2, decode mt_M_add.2.1 q.1 = .ok (q.2.1, q.2.2) := by decide +kernel
set_option maxRecDepth 100000 in
theorem dv_M_stroke : ∀ q ∈ mt_M_stroke.2.2.2.2, decode mt_M_stroke.2.1 q.1 = .ok (q.2.1, q.2.2) := by decide +kernel
set_option maxRecDepth 100000 in
theorem dv_M_way : ∀ q ∈ mt_M_way.2.2.2.2, decode mt_M_way.2.1 q.1 = .ok (q.2.1, q.2.2) := by decide +kernel
set_option maxRecDepth 100000 in
theorem dv_M_ceiling : ∀ q ∈ mt_M_ceiling.2.2.2.2, decode mt_M_ceiling.2.1 q.1 = .ok (q.2.1, q.2.2) := by decide +kernel
set_option maxRecDepth 100000 in
theorem dv_M_drawGrid : ∀ q ∈ mt_M_drawGrid.2.2.2.2, decode mt_M_drawGrid.2.1 q.1 = .ok (q.2.1, q.2.2) := by decide +kernel
set_option maxRecDepth 100000 in
theorem dv_M_cross : ∀ q ∈ mt_M_cross.2.2.2.2, decode mt_M_cross.2.1 q.1 = .ok (q.2.1, q.2.2) := by decide +kernel
set_option maxRecDepth 100000 in
theorem dv_M_show : ∀ q ∈ mt_M_show.2.2.2.2, decode mt_M_show.2.1 q.1 = .ok (q.2.1, q.2.2) := by decide +kernel
set_option maxRecDepth 100000 in
theorem dv_M_has : ∀ q ∈ mt_M_has.2.2.2.2, decode mt_M_has.2.1 q.1 = .ok (q.2.1, q.2.2) := by decide +kernel
set_option maxRecDepth 100000 in
theorem dv_M_octant : ∀ q ∈ mt_M_octant.2.2.2.2, decode mt_M_octant.2.1 q.1 = .ok (q.2.1, q.2.2) := by decide +kernel
set_option maxRecDepth 100000 in
theorem dv_M_root : ∀ q ∈ mt_M_root.2.2.2.2, decode mt_M_root.2.1 q.1 = .ok (q.2.1, q.2.2) := by decide +kernel
set_option maxRecDepth 100000 in
theorem dv_M_squareOf : ∀ q ∈ mt_M_squareOf.2.2.2.2, decode mt_M_squareOf.2.1 q.1 = .ok (q.2.1, q.2.2) := by decide +kernel
set_option maxRecDepth 100000 in
theorem dv_M_far : ∀ q ∈ mt_M_far.2.2.2.2, decode mt_M_far.2.1 q.1 = .ok (q.2.1, q.2.2) := by decide +kernel
set_option maxRecDepth 100000 in
theorem dv_M_near : ∀ q ∈ mt_M_near.2.2.2.2, decode mt_M_near.2.1 q.1 = .ok (q.2.1, q.2.2) := by decide +kernel
set_option maxRecDepth 100000 in
theorem dv_M_drawTicks : ∀ q ∈ mt_M_drawTicks.2.2.2.2, decode mt_M_drawTicks.2.1 q.1 = .ok (q.2.1, q.2.2) := by decide +kernel
set_option maxRecDepth 100000 in
theorem dv_M_flatX : ∀ q ∈ mt_M_flatX.2.2.2.2, decode mt_M_flatX.2.1 q.1 = .ok (q.2.1, q.2.2) := by decide +kernel
set_option maxRecDepth 100000 in
theorem dv_M_flatY : ∀ q ∈ mt_M_flatY.2.2.2.2, decode mt_M_flatY.2.1 q.1 = .ok (q.2.1, q.2.2) := by decide +kernel
set_option maxRecDepth 100000 in
theorem dv_M_drawSolid : ∀ q ∈ mt_M_drawSolid.2.2.2.2, decode mt_M_drawSolid.2.1 q.1 = .ok (q.2.1, q.2.2) := by decide +kernel
set_option maxRecDepth 100000 in
theorem dv_M_isDrawable : ∀ q ∈ mt_M_isDrawable.2.2.2.2, decode mt_M_isDrawable.2.1 q.1 = .ok (q.2.1, q.2.2) := by decide +kernel
set_option maxRecDepth 100000 in
theorem dv_M_boxLeft : ∀ q ∈ mt_M_boxLeft.2.2.2.2, decode mt_M_boxLeft.2.1 q.1 = .ok (q.2.1, q.2.2) := by decide +kernel
set_option maxRecDepth 100000 in
theorem dv_M_boxTop : ∀ q ∈ mt_M_boxTop.2.2.2.2, decode mt_M_boxTop.2.1 q.1 = .ok (q.2.1, q.2.2) := by decide +kernel
set_option maxRecDepth 100000 in
theorem dv_M_isOpen : ∀ q ∈ mt_M_isOpen.2.2.2.2, decode mt_M_isOpen.2.1 q.1 = .ok (q.2.1, q.2.2) := by decide +kernel
set_option maxRecDepth 100000 in
theorem dv_M_cost : ∀ q ∈ mt_M_cost.2.2.2.2, decode mt_M_cost.2.1 q.1 = .ok (q.2.1, q.2.2) := by decide +kernel
set_option maxRecDepth 100000 in
theorem dv_M_meet : ∀ q ∈ mt_M_meet.2.2.2.2, decode mt_M_meet.2.1 q.1 = .ok (q.2.1, q.2.2) := by decide +kernel
set_option maxRecDepth 100000 in
theorem dv_M_isFine : ∀ q ∈ mt_M_isFine.2.2.2.2, decode mt_M_isFine.2.1 q.1 = .ok (q.2.1, q.2.2) := by decide +kernel
set_option maxRecDepth 100000 in
theorem dv_M_findBest : ∀ q ∈ mt_M_findBest.2.2.2.2, decode mt_M_findBest.2.1 q.1 = .ok (q.2.1, q.2.2) := by decide +kernel
set_option maxRecDepth 100000 in
theorem dv_M_outsOf : ∀ q ∈ mt_M_outsOf.2.2.2.2, decode mt_M_outsOf.2.1 q.1 = .ok (q.2.1, q.2.2) := by decide +kernel
set_option maxRecDepth 100000 in
theorem dv_M_costsOf : ∀ q ∈ mt_M_costsOf.2.2.2.2, decode mt_M_costsOf.2.1 q.1 = .ok (q.2.1, q.2.2) := by decide +kernel
set_option maxRecDepth 100000 in
theorem dv_M_isBetter : ∀ q ∈ mt_M_isBetter.2.2.2.2, decode mt_M_isBetter.2.1 q.1 = .ok (q.2.1, q.2.2) := by decide +kernel
set_option maxRecDepth 100000 in
theorem dv_M_reached : ∀ q ∈ mt_M_reached.2.2.2.2, decode mt_M_reached.2.1 q.1 = .ok (q.2.1, q.2.2) := by decide +kernel
set_option maxRecDepth 100000 in
theorem dv_M_taken : ∀ q ∈ mt_M_taken.2.2.2.2, decode mt_M_taken.2.1 q.1 = .ok (q.2.1, q.2.2) := by decide +kernel
set_option maxRecDepth 100000 in
theorem dv_M_goRound : ∀ q ∈ mt_M_goRound.2.2.2.2, decode mt_M_goRound.2.1 q.1 = .ok (q.2.1, q.2.2) := by decide +kernel
set_option maxRecDepth 100000 in
theorem dv_M_label : ∀ q ∈ mt_M_label.2.2.2.2, decode mt_M_label.2.1 q.1 = .ok (q.2.1, q.2.2) := by decide +kernel
set_option maxRecDepth 100000 in
theorem dv_M_numbersOf : ∀ q ∈ mt_M_numbersOf.2.2.2.2, decode mt_M_numbersOf.2.1 q.1 = .ok (q.2.1, q.2.2) := by decide +kernel
set_option maxRecDepth 100000 in
theorem dv_M_octet0 : ∀ q ∈ mt_M_octet0.2.2.2.2, decode mt_M_octet0.2.1 q.1 = .ok (q.2.1, q.2.2) := by decide +kernel
set_option maxRecDepth 100000 in
theorem dv_M_lay : ∀ q ∈ mt_M_lay.2.2.2.2, decode mt_M_lay.2.1 q.1 = .ok (q.2.1, q.2.2) := by decide +kernel
set_option maxRecDepth 100000 in
theorem dv_M_mark : ∀ q ∈ mt_M_mark.2.2.2.2, decode mt_M_mark.2.1 q.1 = .ok (q.2.1, q.2.2) := by decide +kernel
set_option maxRecDepth 100000 in
theorem dv_M_placed : ∀ q ∈ mt_M_placed.2.2.2.2, decode mt_M_placed.2.1 q.1 = .ok (q.2.1, q.2.2) := by decide +kernel
set_option maxRecDepth 100000 in
theorem dv_M_octet : ∀ q ∈ mt_M_octet.2.2.2.2, decode mt_M_octet.2.1 q.1 = .ok (q.2.1, q.2.2) := by decide +kernel
set_option maxRecDepth 100000 in
theorem dv_M_digest : ∀ q ∈ mt_M_digest.2.2.2.2, decode mt_M_digest.2.1 q.1 = .ok (q.2.1, q.2.2) := by decide +kernel
set_option maxRecDepth 100000 in
theorem dv_M_count : ∀ q ∈ mt_M_count.2.2.2.2, decode mt_M_count.2.1 q.1 = .ok (q.2.1, q.2.2) := by decide +kernel
set_option maxRecDepth 100000 in
theorem dv_M_code : ∀ q ∈ mt_M_code.2.2.2.2, decode mt_M_code.2.1 q.1 = .ok (q.2.1, q.2.2) := by decide +kernel
set_option maxRecDepth 100000 in
theorem dv_M_group : ∀ q ∈ mt_M_group.2.2.2.2, decode mt_M_group.2.1 q.1 = .ok (q.2.1, q.2.2) := by decide +kernel
set_option maxRecDepth 100000 in
theorem dv_M_put : ∀ q ∈ mt_M_put.2.2.2.2, decode mt_M_put.2.1 q.1 = .ok (q.2.1, q.2.2) := by decide +kernel
set_option maxRecDepth 100000 in
theorem dv_M_member : ∀ q ∈ mt_M_member.2.2.2.2, decode mt_M_member.2.1 q.1 = .ok (q.2.1, q.2.2) := by decide +kernel
set_option maxRecDepth 100000 in
theorem dv_M_paint : ∀ q ∈ mt_M_paint.2.2.2.2, decode mt_M_paint.2.1 q.1 = .ok (q.2.1, q.2.2) := by decide +kernel
set_option maxRecDepth 100000 in
theorem dv_M_reach : ∀ q ∈ mt_M_reach.2.2.2.2, decode mt_M_reach.2.1 q.1 = .ok (q.2.1, q.2.2) := by decide +kernel
set_option maxRecDepth 100000 in
theorem dv_Cu_init : ∀ q ∈ mt_Cu_init.2.2.2.2, decode mt_Cu_init.2.1 q.1 = .ok (q.2.1, q.2.2) := by decide +kernel
set_option maxRecDepth 100000 in
theorem dv_Cu_setWay : ∀ q ∈ mt_Cu_setWay.2.2.2.2, decode mt_Cu_setWay.2.1 q.1 = .ok (q.2.1, q.2.2) := by decide +kernel
set_option maxRecDepth 100000 in
theorem dv_Cu_cut : ∀ q ∈ mt_Cu_cut.2.2.2.2, decode mt_Cu_cut.2.1 q.1 = .ok (q.2.1, q.2.2) := by decide +kernel
set_option maxRecDepth 100000 in
theorem dv_Cu_cutAxis : ∀ q ∈ mt_Cu_cutAxis.2.2.2.2, decode mt_Cu_cutAxis.2.1 q.1 = .ok (q.2.1, q.2.2) := by decide +kernel
set_option maxRecDepth 100000 in
theorem dv_Cu_startNotBefore : ∀ q ∈ mt_Cu_startNotBefore.2.2.2.2, decode mt_Cu_startNotBefore.2.1 q.1 = .ok (q.2.1, q.2.2) := by decide +kernel
set_option maxRecDepth 100000 in
theorem dv_Cu_endNotBehind : ∀ q ∈ mt_Cu_endNotBehind.2.2.2.2, decode mt_Cu_endNotBehind.2.1 q.1 = .ok (q.2.1, q.2.2) := by decide +kernel
set_option maxRecDepth 100000 in
theorem dv_Cu_firstX : ∀ q ∈ mt_Cu_firstX.2.2.2.2, decode mt_Cu_firstX.2.1 q.1 = .ok (q.2.1, q.2.2) := by decide +kernel
set_option maxRecDepth 100000 in
theorem dv_Cu_firstY : ∀ q ∈ mt_Cu_firstY.2.2.2.2, decode mt_Cu_firstY.2.1 q.1 = .ok (q.2.1, q.2.2) := by decide +kernel
set_option maxRecDepth 100000 in
theorem dv_Cu_lastX : ∀ q ∈ mt_Cu_lastX.2.2.2.2, decode mt_Cu_lastX.2.1 q.1 = .ok (q.2.1, q.2.2) := by decide +kernel
set_option maxRecDepth 100000 in
theorem dv_Cu_lastY : ∀ q ∈ mt_Cu_lastY.2.2.2.2, decode mt_Cu_lastY.2.1 q.1 = .ok (q.2.1, q.2.2) := by decide +kernel
set_option maxRecDepth 100000 in
theorem dv_Fg_init : ∀ q ∈ mt_Fg_init.2.2.2.2, decode mt_Fg_init.2.1 q.1 = .ok (q.2.1, q.2.2) := by decide +kernel
set_option maxRecDepth 100000 in
theorem dv_Fg_has : ∀ q ∈ mt_Fg_has.2.2.2.2, decode mt_Fg_has.2.1 q.1 = .ok (q.2.1, q.2.2) := by decide +kernel
set_option maxRecDepth 100000 in
theorem dv_Fg_isFull : ∀ q ∈ mt_Fg_isFull.2.2.2.2, decode mt_Fg_isFull.2.1 q.1 = .ok (q.2.1, q.2.2) := by decide +kernel
set_option maxRecDepth 100000 in
theorem dv_Fg_chainIsFull : ∀ q ∈ mt_Fg_chainIsFull.2.2.2.2, decode mt_Fg_chainIsFull.2.1 q.1 = .ok (q.2.1, q.2.2) := by decide +kernel
set_option maxRecDepth 100000 in
theorem dv_Fg_lengthenChain : ∀ q ∈ mt_Fg_lengthenChain.2.2.2.2, decode mt_Fg_lengthenChain.2.1 q.1 = .ok (q.2.1, q.2.2) := by decide +kernel
set_option maxRecDepth 100000 in
theorem dv_Fg_add : ∀ q ∈ mt_Fg_add.2.2.2.2, decode mt_Fg_add.2.1 q.1 = .ok (q.2.1, q.2.2) := by decide +kernel
set_option maxRecDepth 100000 in
theorem dv_Fg_addArea : ∀ q ∈ mt_Fg_addArea.2.2.2.2, decode mt_Fg_addArea.2.1 q.1 = .ok (q.2.1, q.2.2) := by decide +kernel
set_option maxRecDepth 100000 in
theorem dv_Fg_kindOf : ∀ q ∈ mt_Fg_kindOf.2.2.2.2, decode mt_Fg_kindOf.2.1 q.1 = .ok (q.2.1, q.2.2) := by decide +kernel
set_option maxRecDepth 100000 in
theorem dv_Fg_styleOf : ∀ q ∈ mt_Fg_styleOf.2.2.2.2, decode mt_Fg_styleOf.2.1 q.1 = .ok (q.2.1, q.2.2) := by decide +kernel
set_option maxRecDepth 100000 in
theorem dv_Fg_setStyle : ∀ q ∈ mt_Fg_setStyle.2.2.2.2, decode mt_Fg_setStyle.2.1 q.1 = .ok (q.2.1, q.2.2) := by decide +kernel
set_option maxRecDepth 100000 in
theorem dv_Fg_strokesOf : ∀ q ∈ mt_Fg_strokesOf.2.2.2.2, decode mt_Fg_strokesOf.2.1 q.1 = .ok (q.2.1, q.2.2) := by decide +kernel
set_option maxRecDepth 100000 in
theorem dv_Fg_cornersOf : ∀ q ∈ mt_Fg_cornersOf.2.2.2.2, decode mt_Fg_cornersOf.2.1 q.1 = .ok (q.2.1, q.2.2) := by decide +kernel
set_option maxRecDepth 100000 in
theorem dv_Fg_xOf : ∀ q ∈ mt_Fg_xOf.2.2.2.2, decode mt_Fg_xOf.2.1 q.1 = .ok (q.2.1, q.2.2) := by decide +kernel
set_option maxRecDepth 100000 in
theorem dv_Fg_yOf : ∀ q ∈ mt_Fg_yOf.2.2.2.2, decode mt_Fg_yOf.2.1 q.1 = .ok (q.2.1, q.2.2) := by decide +kernel
set_option maxRecDepth 100000 in
theorem dv_Fg_isHidden : ∀ q ∈ mt_Fg_isHidden.2.2.2.2, decode mt_Fg_isHidden.2.1 q.1 = .ok (q.2.1, q.2.2) := by decide +kernel
set_option maxRecDepth 100000 in
theorem dv_Fg_setHidden : ∀ q ∈ mt_Fg_setHidden.2.2.2.2, decode mt_Fg_setHidden.2.1 q.1 = .ok (q.2.1, q.2.2) := by decide +kernel
set_option maxRecDepth 100000 in
theorem dv_Fg_hasFallen : ∀ q ∈ mt_Fg_hasFallen.2.2.2.2, decode mt_Fg_hasFallen.2.1 q.1 = .ok (q.2.1, q.2.2) := by decide +kernel
set_option maxRecDepth 100000 in
theorem dv_Fg_isDrawn : ∀ q ∈ mt_Fg_isDrawn.2.2.2.2, decode mt_Fg_isDrawn.2.1 q.1 = .ok (q.2.1, q.2.2) := by decide +kernel
set_option maxRecDepth 100000 in
theorem dv_Fg_isAtOnePlace : ∀ q ∈ mt_Fg_isAtOnePlace.2.2.2.2, decode mt_Fg_isAtOnePlace.2.1 q.1 = .ok (q.2.1, q.2.2) := by decide +kernel
set_option maxRecDepth 100000 in
theorem dv_Fg_turnOf : ∀ q ∈ mt_Fg_turnOf.2.2.2.2, decode mt_Fg_turnOf.2.1 q.1 = .ok (q.2.1, q.2.2) := by decide +kernel
set_option maxRecDepth 100000 in
theorem dv_Fg_squareOfSpan : ∀ q ∈ mt_Fg_squareOfSpan.2.2.2.2, decode mt_Fg_squareOfSpan.2.1 q.1 = .ok (q.2.1, q.2.2) := by decide +kernel
set_option maxRecDepth 100000 in
theorem dv_Fr_init : ∀ q ∈ mt_Fr_init.2.2.2.2, decode mt_Fr_init.2.1 q.1 = .ok (q.2.1, q.2.2) := by decide +kernel
set_option maxRecDepth 100000 in
theorem dv_Fr_setWindow : ∀ q ∈ mt_Fr_setWindow.2.2.2.2, decode mt_Fr_setWindow.2.1 q.1 = .ok (q.2.1, q.2.2) := by decide +kernel
set_option maxRecDepth 100000 in
theorem dv_Fr_setSheet : ∀ q ∈ mt_Fr_setSheet.2.2.2.2, decode mt_Fr_setSheet.2.1 q.1 = .ok (q.2.1, q.2.2) := by decide +kernel
set_option maxRecDepth 100000 in
theorem dv_Fr_rescale : ∀ q ∈ mt_Fr_rescale.2.2.2.2, decode mt_Fr_rescale.2.1 q.1 = .ok (q.2.1, q.2.2) := by decide +kernel
set_option maxRecDepth 100000 in
theorem dv_Fr_hasScale : ∀ q ∈ mt_Fr_hasScale.2.2.2.2, decode mt_Fr_hasScale.2.1 q.1 = .ok (q.2.1, q.2.2) := by decide +kernel
set_option maxRecDepth 100000 in
theorem dv_Fr_aboveX : ∀ q ∈ mt_Fr_aboveX.2.2.2.2, decode mt_Fr_aboveX.2.1 q.1 = .ok (q.2.1, q.2.2) := by decide +kernel
set_option maxRecDepth 100000 in
theorem dv_Fr_aboveY : ∀ q ∈ mt_Fr_aboveY.2.2.2.2, decode mt_Fr_aboveY.2.1 q.1 = .ok (q.2.1, q.2.2) := by decide +kernel
set_option maxRecDepth 100000 in
theorem dv_Fr_below : ∀ q ∈ mt_Fr_below.2.2.2.2, decode mt_Fr_below.2.1 q.1 = .ok (q.2.1, q.2.2) := by decide +kernel
set_option maxRecDepth 100000 in
theorem dv_Fr_sheetX : ∀ q ∈ mt_Fr_sheetX.2.2.2.2, decode mt_Fr_sheetX.2.1 q.1 = .ok (q.2.1, q.2.2) := by decide +kernel
set_option maxRecDepth 100000 in
theorem dv_Fr_sheetY : ∀ q ∈ mt_Fr_sheetY.2.2.2.2, decode mt_Fr_sheetY.2.1 q.1 = .ok (q.2.1, q.2.2) := by decide +kernel
set_option maxRecDepth 100000 in
theorem dv_Fr_sheetLength : ∀ q ∈ mt_Fr_sheetLength.2.2.2.2, decode mt_Fr_sheetLength.2.1 q.1 = .ok (q.2.1, q.2.2) := by decide +kernel
set_option maxRecDepth 100000 in
theorem dv_Fr_holds : ∀ q ∈ mt_Fr_holds.2.2.2.2, decode mt_Fr_holds.2.1 q.1 = .ok (q.2.1, q.2.2) := by decide +kernel
set_option maxRecDepth 100000 in
theorem dv_Fr_meetsCircle : ∀ q ∈ mt_Fr_meetsCircle.2.2.2.2, decode mt_Fr_meetsCircle.2.1 q.1 = .ok (q.2.1, q.2.2) := by decide +kernel
set_option maxRecDepth 100000 in
theorem dv_Fr_holdsCircle : ∀ q ∈ mt_Fr_holdsCircle.2.2.2.2, decode mt_Fr_holdsCircle.2.1 q.1 = .ok (q.2.1, q.2.2) := by decide +kernel
set_option maxRecDepth 100000 in
theorem dv_Gr_init : ∀ q ∈ mt_Gr_init.2.2.2.2, decode mt_Gr_init.2.1 q.1 = .ok (q.2.1, q.2.2) := by decide +kernel
set_option maxRecDepth 100000 in
theorem dv_Gr_isNumber : ∀ q ∈ mt_Gr_isNumber.2.2.2.2, decode mt_Gr_isNumber.2.1 q.1 = .ok (q.2.1, q.2.2) := by decide +kernel
set_option maxRecDepth 100000 in
theorem dv_Gr_isMade : ∀ q ∈ mt_Gr_isMade.2.2.2.2, decode mt_Gr_isMade.2.1 q.1 = .ok (q.2.1, q.2.2) := by decide +kernel
set_option maxRecDepth 100000 in
theorem dv_Gr_placesOf : ∀ q ∈ mt_Gr_placesOf.2.2.2.2, decode mt_Gr_placesOf.2.1 q.1 = .ok (q.2.1, q.2.2) := by decide +kernel
set_option maxRecDepth 100000 in
theorem dv_Gr_hasPlace : ∀ q ∈ mt_Gr_hasPlace.2.2.2.2, decode mt_Gr_hasPlace.2.1 q.1 = .ok (q.2.1, q.2.2) := by decide +kernel
set_option maxRecDepth 100000 in
theorem dv_Gr_takes : ∀ q ∈ mt_Gr_takes.2.2.2.2, decode mt_Gr_takes.2.1 q.1 = .ok (q.2.1, q.2.2) := by decide +kernel
set_option maxRecDepth 100000 in
theorem dv_Gr_make : ∀ q ∈ mt_Gr_make.2.2.2.2, decode mt_Gr_make.2.1 q.1 = .ok (q.2.1, q.2.2) := by decide +kernel
set_option maxRecDepth 100000 in
theorem dv_Gr_memberAt : ∀ q ∈ mt_Gr_memberAt.2.2.2.2, decode mt_Gr_memberAt.2.1 q.1 = .ok (q.2.1, q.2.2) := by decide +kernel
set_option maxRecDepth 100000 in
theorem dv_Gr_setMember : ∀ q ∈ mt_Gr_setMember.2.2.2.2, decode mt_Gr_setMember.2.1 q.1 = .ok (q.2.1, q.2.2) := by decide +kernel
set_option maxRecDepth 100000 in
theorem dv_Lb_init : ∀ q ∈ mt_Lb_init.2.2.2.2, decode mt_Lb_init.2.1 q.1 = .ok (q.2.1, q.2.2) := by decide +kernel
set_option maxRecDepth 100000 in
theorem dv_Lb_has : ∀ q ∈ mt_Lb_has.2.2.2.2, decode mt_Lb_has.2.1 q.1 = .ok (q.2.1, q.2.2) := by decide +kernel
set_option maxRecDepth 100000 in
theorem dv_Lb_isFull : ∀ q ∈ mt_Lb_isFull.2.2.2.2, decode mt_Lb_isFull.2.1 q.1 = .ok (q.2.1, q.2.2) := by decide +kernel
set_option maxRecDepth 100000 in
theorem dv_Lb_add : ∀ q ∈ mt_Lb_add.2.2.2.2, decode mt_Lb_add.2.1 q.1 = .ok (q.2.1, q.2.2) := by decide +kernel
set_option maxRecDepth 100000 in
theorem dv_Lb_objectOf : ∀ q ∈ mt_Lb_objectOf.2.2.2.2, decode mt_Lb_objectOf.2.1 q.1 = .ok (q.2.1, q.2.2) := by decide +kernel
set_option maxRecDepth 100000 in
theorem dv_Lb_lettersOf : ∀ q ∈ mt_Lb_lettersOf.2.2.2.2, decode mt_Lb_lettersOf.2.1 q.1 = .ok (q.2.1, q.2.2) := by decide +kernel
set_option maxRecDepth 100000 in
theorem dv_Lb_drawnPlaceOf : ∀ q ∈ mt_Lb_drawnPlaceOf.2.2.2.2, decode mt_Lb_drawnPlaceOf.2.1 q.1 = .ok (q.2.1, q.2.2) := by decide +kernel
set_option maxRecDepth 100000 in
theorem dv_Lb_beginDrawing : ∀ q ∈ mt_Lb_beginDrawing.2.2.2.2, decode mt_Lb_beginDrawing.2.1 q.1 = .ok (q.2.1, q.2.2) := by decide +kernel
set_option maxRecDepth 100000 in
theorem dv_Lb_place : ∀ q ∈ mt_Lb_place.2.2.2.2, decode mt_Lb_place.2.1 q.1 = .ok (q.2.1, q.2.2) := by decide +kernel
set_option maxRecDepth 100000 in
theorem dv_Mk_init : ∀ q ∈ mt_Mk_init.2.2.2.2, decode mt_Mk_init.2.1 q.1 = .ok (q.2.1, q.2.2) := by decide +kernel
set_option maxRecDepth 100000 in
theorem dv_Mk_clear : ∀ q ∈ mt_Mk_clear.2.2.2.2, decode mt_Mk_clear.2.1 q.1 = .ok (q.2.1, q.2.2) := by decide +kernel
set_option maxRecDepth 100000 in
theorem dv_Mk_has : ∀ q ∈ mt_Mk_has.2.2.2.2, decode mt_Mk_has.2.1 q.1 = .ok (q.2.1, q.2.2) := by decide +kernel
set_option maxRecDepth 100000 in
theorem dv_Mk_isFull : ∀ q ∈ mt_Mk_isFull.2.2.2.2, decode mt_Mk_isFull.2.1 q.1 = .ok (q.2.1, q.2.2) := by decide +kernel
set_option maxRecDepth 100000 in
theorem dv_Mk_lose : ∀ q ∈ mt_Mk_lose.2.2.2.2, decode mt_Mk_lose.2.1 q.1 = .ok (q.2.1, q.2.2) := by decide +kernel
set_option maxRecDepth 100000 in
theorem dv_Mk_add : ∀ q ∈ mt_Mk_add.2.2.2.2, decode mt_Mk_add.2.1 q.1 = .ok (q.2.1, q.2.2) := by decide +kernel
set_option maxRecDepth 100000 in
theorem dv_Mk_valueAt : ∀ q ∈ mt_Mk_valueAt.2.2.2.2, decode mt_Mk_valueAt.2.1 q.1 = .ok (q.2.1, q.2.2) := by decide +kernel
set_option maxRecDepth 100000 in
theorem dv_Mk_numbersOf : ∀ q ∈ mt_Mk_numbersOf.2.2.2.2, decode mt_Mk_numbersOf.2.1 q.1 = .ok (q.2.1, q.2.2) := by decide +kernel
set_option maxRecDepth 100000 in
theorem dv_Mk_seal : ∀ q ∈ mt_Mk_seal.2.2.2.2, decode mt_Mk_seal.2.1 q.1 = .ok (q.2.1, q.2.2) := by decide +kernel
set_option maxRecDepth 100000 in
theorem dv_Mk_octetCount : ∀ q ∈ mt_Mk_octetCount.2.2.2.2, decode mt_Mk_octetCount.2.1 q.1 = .ok (q.2.1, q.2.2) := by decide +kernel
set_option maxRecDepth 100000 in
theorem dv_Mk_octetAt : ∀ q ∈ mt_Mk_octetAt.2.2.2.2, decode mt_Mk_octetAt.2.1 q.1 = .ok (q.2.1, q.2.2) := by decide +kernel
set_option maxRecDepth 100000 in
theorem dv_Mk_write : ∀ q ∈ mt_Mk_write.2.2.2.2, decode mt_Mk_write.2.1 q.1 = .ok (q.2.1, q.2.2) := by decide +kernel
set_option maxRecDepth 100000 in
theorem dv_Mk_writeOctet : ∀ q ∈ mt_Mk_writeOctet.2.2.2.2, decode mt_Mk_writeOctet.2.1 q.1 = .ok (q.2.1, q.2.2) := by decide +kernel
set_option maxRecDepth 100000 in
theorem dv_Mk_writeNumber : ∀ q ∈ mt_Mk_writeNumber.2.2.2.2, decode mt_Mk_writeNumber.2.1 q.1 = .ok (q.2.1, q.2.2) := by decide +kernel
set_option maxRecDepth 100000 in
theorem dv_Pn_init : ∀ q ∈ mt_Pn_init.2.2.2.2, decode mt_Pn_init.2.1 q.1 = .ok (q.2.1, q.2.2) := by decide +kernel
set_option maxRecDepth 100000 in
theorem dv_Pn_begin : ∀ q ∈ mt_Pn_begin.2.2.2.2, decode mt_Pn_begin.2.1 q.1 = .ok (q.2.1, q.2.2) := by decide +kernel
set_option maxRecDepth 100000 in
theorem dv_Pn_anchor : ∀ q ∈ mt_Pn_anchor.2.2.2.2, decode mt_Pn_anchor.2.1 q.1 = .ok (q.2.1, q.2.2) := by decide +kernel
set_option maxRecDepth 100000 in
theorem dv_Pn_hasDrawn : ∀ q ∈ mt_Pn_hasDrawn.2.2.2.2, decode mt_Pn_hasDrawn.2.1 q.1 = .ok (q.2.1, q.2.2) := by decide +kernel
set_option maxRecDepth 100000 in
theorem dv_Pn_anchorXOf : ∀ q ∈ mt_Pn_anchorXOf.2.2.2.2, decode mt_Pn_anchorXOf.2.1 q.1 = .ok (q.2.1, q.2.2) := by decide +kernel
set_option maxRecDepth 100000 in
theorem dv_Pn_anchorYOf : ∀ q ∈ mt_Pn_anchorYOf.2.2.2.2, decode mt_Pn_anchorYOf.2.1 q.1 = .ok (q.2.1, q.2.2) := by decide +kernel
set_option maxRecDepth 100000 in
theorem dv_Pn_paintGrid : ∀ q ∈ mt_Pn_paintGrid.2.2.2.2, decode mt_Pn_paintGrid.2.1 q.1 = .ok (q.2.1, q.2.2) := by decide +kernel
set_option maxRecDepth 100000 in
theorem dv_Pn_paintGridWay : ∀ q ∈ mt_Pn_paintGridWay.2.2.2.2, decode mt_Pn_paintGridWay.2.1 q.1 = .ok (q.2.1, q.2.2) := by decide +kernel
set_option maxRecDepth 100000 in
theorem dv_Pn_paintGridStroke : ∀ q ∈ mt_Pn_paintGridStroke.2.2.2.2, decode mt_Pn_paintGridStroke.2.1 q.1 = .ok (q.2.1, q.2.2) := by decide +kernel
set_option maxRecDepth 100000 in
theorem dv_Pn_paintAreas : ∀ q ∈ mt_Pn_paintAreas.2.2.2.2, decode mt_Pn_paintAreas.2.1 q.1 = .ok (q.2.1, q.2.2) := by decide +kernel
set_option maxRecDepth 100000 in
theorem dv_Pn_paintArea : ∀ q ∈ mt_Pn_paintArea.2.2.2.2, decode mt_Pn_paintArea.2.1 q.1 = .ok (q.2.1, q.2.2) := by decide +kernel
set_option maxRecDepth 100000 in
theorem dv_Pn_anchorArea : ∀ q ∈ mt_Pn_anchorArea.2.2.2.2, decode mt_Pn_anchorArea.2.1 q.1 = .ok (q.2.1, q.2.2) := by decide +kernel
set_option maxRecDepth 100000 in
theorem dv_Pn_hatchStrokes : ∀ q ∈ mt_Pn_hatchStrokes.2.2.2.2, decode mt_Pn_hatchStrokes.2.1 q.1 = .ok (q.2.1, q.2.2) := by decide +kernel
set_option maxRecDepth 100000 in
theorem dv_Pn_takeCorners : ∀ q ∈ mt_Pn_takeCorners.2.2.2.2, decode mt_Pn_takeCorners.2.1 q.1 = .ok (q.2.1, q.2.2) := by decide +kernel
set_option maxRecDepth 100000 in
theorem dv_Pn_paintHatch : ∀ q ∈ mt_Pn_paintHatch.2.2.2.2, decode mt_Pn_paintHatch.2.1 q.1 = .ok (q.2.1, q.2.2) := by decide +kernel
set_option maxRecDepth 100000 in
theorem dv_Pn_meetSide : ∀ q ∈ mt_Pn_meetSide.2.2.2.2, decode mt_Pn_meetSide.2.1 q.1 = .ok (q.2.1, q.2.2) := by decide +kernel
set_option maxRecDepth 100000 in
theorem dv_Pn_paintOthers : ∀ q ∈ mt_Pn_paintOthers.2.2.2.2, decode mt_Pn_paintOthers.2.1 q.1 = .ok (q.2.1, q.2.2) := by decide +kernel
set_option maxRecDepth 100000 in
theorem dv_Pn_paintOther : ∀ q ∈ mt_Pn_paintOther.2.2.2.2, decode mt_Pn_paintOther.2.1 q.1 = .ok (q.2.1, q.2.2) := by decide +kernel
set_option maxRecDepth 100000 in
theorem dv_Pn_paintDot : ∀ q ∈ mt_Pn_paintDot.2.2.2.2, decode mt_Pn_paintDot.2.1 q.1 = .ok (q.2.1, q.2.2) := by decide +kernel
set_option maxRecDepth 100000 in
theorem dv_Pn_paintStraight : ∀ q ∈ mt_Pn_paintStraight.2.2.2.2, decode mt_Pn_paintStraight.2.1 q.1 = .ok (q.2.1, q.2.2) := by decide +kernel
set_option maxRecDepth 100000 in
theorem dv_Pn_paintCircle : ∀ q ∈ mt_Pn_paintCircle.2.2.2.2, decode mt_Pn_paintCircle.2.1 q.1 = .ok (q.2.1, q.2.2) := by decide +kernel
set_option maxRecDepth 100000 in
theorem dv_Pn_paintAngle : ∀ q ∈ mt_Pn_paintAngle.2.2.2.2, decode mt_Pn_paintAngle.2.1 q.1 = .ok (q.2.1, q.2.2) := by decide +kernel
set_option maxRecDepth 100000 in
theorem dv_Pn_openingOf : ∀ q ∈ mt_Pn_openingOf.2.2.2.2, decode mt_Pn_openingOf.2.1 q.1 = .ok (q.2.1, q.2.2) := by decide +kernel
set_option maxRecDepth 100000 in
theorem dv_Pn_paintTicks : ∀ q ∈ mt_Pn_paintTicks.2.2.2.2, decode mt_Pn_paintTicks.2.1 q.1 = .ok (q.2.1, q.2.2) := by decide +kernel
set_option maxRecDepth 100000 in
theorem dv_Pn_paintSolids : ∀ q ∈ mt_Pn_paintSolids.2.2.2.2, decode mt_Pn_paintSolids.2.1 q.1 = .ok (q.2.1, q.2.2) := by decide +kernel
set_option maxRecDepth 100000 in
theorem dv_Pn_paintSolid : ∀ q ∈ mt_Pn_paintSolid.2.2.2.2, decode mt_Pn_paintSolid.2.1 q.1 = .ok (q.2.1, q.2.2) := by decide +kernel
set_option maxRecDepth 100000 in
theorem dv_Pn_paintEdge : ∀ q ∈ mt_Pn_paintEdge.2.2.2.2, decode mt_Pn_paintEdge.2.1 q.1 = .ok (q.2.1, q.2.2) := by decide +kernel
set_option maxRecDepth 100000 in
theorem dv_Pl_init : ∀ q ∈ mt_Pl_init.2.2.2.2, decode mt_Pl_init.2.1 q.1 = .ok (q.2.1, q.2.2) := by decide +kernel
set_option maxRecDepth 100000 in
theorem dv_Pl_placeAll : ∀ q ∈ mt_Pl_placeAll.2.2.2.2, decode mt_Pl_placeAll.2.1 q.1 = .ok (q.2.1, q.2.2) := by decide +kernel
set_option maxRecDepth 100000 in
theorem dv_Pl_gatherGuests : ∀ q ∈ mt_Pl_gatherGuests.2.2.2.2, decode mt_Pl_gatherGuests.2.1 q.1 = .ok (q.2.1, q.2.2) := by decide +kernel
set_option maxRecDepth 100000 in
theorem dv_Pl_setBoxes : ∀ q ∈ mt_Pl_setBoxes.2.2.2.2, decode mt_Pl_setBoxes.2.1 q.1 = .ok (q.2.1, q.2.2) := by decide +kernel
set_option maxRecDepth 100000 in
theorem dv_Pl_leftFromAnchor : ∀ q ∈ mt_Pl_leftFromAnchor.2.2.2.2, decode mt_Pl_leftFromAnchor.2.1 q.1 = .ok (q.2.1, q.2.2) := by decide +kernel
set_option maxRecDepth 100000 in
theorem dv_Pl_addCostsOfMarks : ∀ q ∈ mt_Pl_addCostsOfMarks.2.2.2.2, decode mt_Pl_addCostsOfMarks.2.1 q.1 = .ok (q.2.1, q.2.2) := by decide +kernel
set_option maxRecDepth 100000 in
theorem dv_Pl_addCostOfStroke : ∀ q ∈ mt_Pl_addCostOfStroke.2.2.2.2, decode mt_Pl_addCostOfStroke.2.1 q.1 = .ok (q.2.1, q.2.2) := by decide +kernel
set_option maxRecDepth 100000 in
theorem dv_Pl_isAside : ∀ q ∈ mt_Pl_isAside.2.2.2.2, decode mt_Pl_isAside.2.1 q.1 = .ok (q.2.1, q.2.2) := by decide +kernel
set_option maxRecDepth 100000 in
theorem dv_Pl_costOf : ∀ q ∈ mt_Pl_costOf.2.2.2.2, decode mt_Pl_costOf.2.1 q.1 = .ok (q.2.1, q.2.2) := by decide +kernel
set_option maxRecDepth 100000 in
theorem dv_Pl_isFree : ∀ q ∈ mt_Pl_isFree.2.2.2.2, decode mt_Pl_isFree.2.1 q.1 = .ok (q.2.1, q.2.2) := by decide +kernel
set_option maxRecDepth 100000 in
theorem dv_Pl_meet : ∀ q ∈ mt_Pl_meet.2.2.2.2, decode mt_Pl_meet.2.1 q.1 = .ok (q.2.1, q.2.2) := by decide +kernel
set_option maxRecDepth 100000 in
theorem dv_Pl_findBest : ∀ q ∈ mt_Pl_findBest.2.2.2.2, decode mt_Pl_findBest.2.1 q.1 = .ok (q.2.1, q.2.2) := by decide +kernel
set_option maxRecDepth 100000 in
theorem dv_Pl_boundByRounds : ∀ q ∈ mt_Pl_boundByRounds.2.2.2.2, decode mt_Pl_boundByRounds.2.1 q.1 = .ok (q.2.1, q.2.2) := by decide +kernel
set_option maxRecDepth 100000 in
theorem dv_Pl_leastCostOf : ∀ q ∈ mt_Pl_leastCostOf.2.2.2.2, decode mt_Pl_leastCostOf.2.1 q.1 = .ok (q.2.1, q.2.2) := by decide +kernel
set_option maxRecDepth 100000 in
theorem dv_Pl_search : ∀ q ∈ mt_Pl_search.2.2.2.2, decode mt_Pl_search.2.1 q.1 = .ok (q.2.1, q.2.2) := by decide +kernel
set_option maxRecDepth 100000 in
theorem dv_Pl_keepAsBest : ∀ q ∈ mt_Pl_keepAsBest.2.2.2.2, decode mt_Pl_keepAsBest.2.1 q.1 = .ok (q.2.1, q.2.2) := by decide +kernel
set_option maxRecDepth 100000 in
theorem dv_Pl_goRounds : ∀ q ∈ mt_Pl_goRounds.2.2.2.2, decode mt_Pl_goRounds.2.1 q.1 = .ok (q.2.1, q.2.2) := by decide +kernel
set_option maxRecDepth 100000 in
theorem dv_Pl_cheapestFree : ∀ q ∈ mt_Pl_cheapestFree.2.2.2.2, decode mt_Pl_cheapestFree.2.1 q.1 = .ok (q.2.1, q.2.2) := by decide +kernel
set_option maxRecDepth 100000 in
theorem dv_Pl_markGuest : ∀ q ∈ mt_Pl_markGuest.2.2.2.2, decode mt_Pl_markGuest.2.1 q.1 = .ok (q.2.1, q.2.2) := by decide +kernel
set_option maxRecDepth 100000 in
theorem dv_Pt_init : ∀ q ∈ mt_Pt_init.2.2.2.2, decode mt_Pt_init.2.1 q.1 = .ok (q.2.1, q.2.2) := by decide +kernel
set_option maxRecDepth 100000 in
theorem dv_Pt_has : ∀ q ∈ mt_Pt_has.2.2.2.2, decode mt_Pt_has.2.1 q.1 = .ok (q.2.1, q.2.2) := by decide +kernel
set_option maxRecDepth 100000 in
theorem dv_Pt_isFull : ∀ q ∈ mt_Pt_isFull.2.2.2.2, decode mt_Pt_isFull.2.1 q.1 = .ok (q.2.1, q.2.2) := by decide +kernel
set_option maxRecDepth 100000 in
theorem dv_Pt_add : ∀ q ∈ mt_Pt_add.2.2.2.2, decode mt_Pt_add.2.1 q.1 = .ok (q.2.1, q.2.2) := by decide +kernel
set_option maxRecDepth 100000 in
theorem dv_Pt_goBy : ∀ q ∈ mt_Pt_goBy.2.2.2.2, decode mt_Pt_goBy.2.1 q.1 = .ok (q.2.1, q.2.2) := by decide +kernel
set_option maxRecDepth 100000 in
theorem dv_Pt_xNow : ∀ q ∈ mt_Pt_xNow.2.2.2.2, decode mt_Pt_xNow.2.1 q.1 = .ok (q.2.1, q.2.2) := by decide +kernel
set_option maxRecDepth 100000 in
theorem dv_Pt_yNow : ∀ q ∈ mt_Pt_yNow.2.2.2.2, decode mt_Pt_yNow.2.1 q.1 = .ok (q.2.1, q.2.2) := by decide +kernel
set_option maxRecDepth 100000 in
theorem dv_Pt_squareFromBefore : ∀ q ∈ mt_Pt_squareFromBefore.2.2.2.2, decode mt_Pt_squareFromBefore.2.1 q.1 = .ok (q.2.1, q.2.2) := by decide +kernel
set_option maxRecDepth 100000 in
theorem dv_So_init : ∀ q ∈ mt_So_init.2.2.2.2, decode mt_So_init.2.1 q.1 = .ok (q.2.1, q.2.2) := by decide +kernel
set_option maxRecDepth 100000 in
theorem dv_So_verticesAreFull : ∀ q ∈ mt_So_verticesAreFull.2.2.2.2, decode mt_So_verticesAreFull.2.1 q.1 = .ok (q.2.1, q.2.2) := by decide +kernel
set_option maxRecDepth 100000 in
theorem dv_So_facesAreFull : ∀ q ∈ mt_So_facesAreFull.2.2.2.2, decode mt_So_facesAreFull.2.1 q.1 = .ok (q.2.1, q.2.2) := by decide +kernel
set_option maxRecDepth 100000 in
theorem dv_So_addVertex : ∀ q ∈ mt_So_addVertex.2.2.2.2, decode mt_So_addVertex.2.1 q.1 = .ok (q.2.1, q.2.2) := by decide +kernel
set_option maxRecDepth 100000 in
theorem dv_So_vertexIn : ∀ q ∈ mt_So_vertexIn.2.2.2.2, decode mt_So_vertexIn.2.1 q.1 = .ok (q.2.1, q.2.2) := by decide +kernel
set_option maxRecDepth 100000 in
theorem dv_So_hasVertices : ∀ q ∈ mt_So_hasVertices.2.2.2.2, decode mt_So_hasVertices.2.1 q.1 = .ok (q.2.1, q.2.2) := by decide +kernel
set_option maxRecDepth 100000 in
theorem dv_So_hasOneTwice : ∀ q ∈ mt_So_hasOneTwice.2.2.2.2, decode mt_So_hasOneTwice.2.1 q.1 = .ok (q.2.1, q.2.2) := by decide +kernel
set_option maxRecDepth 100000 in
theorem dv_So_addFace : ∀ q ∈ mt_So_addFace.2.2.2.2, decode mt_So_addFace.2.1 q.1 = .ok (q.2.1, q.2.2) := by decide +kernel
set_option maxRecDepth 100000 in
theorem dv_So_setNormal : ∀ q ∈ mt_So_setNormal.2.2.2.2, decode mt_So_setNormal.2.1 q.1 = .ok (q.2.1, q.2.2) := by decide +kernel
set_option maxRecDepth 100000 in
theorem dv_So_facesSeen : ∀ q ∈ mt_So_facesSeen.2.2.2.2, decode mt_So_facesSeen.2.1 q.1 = .ok (q.2.1, q.2.2) := by decide +kernel
set_option maxRecDepth 100000 in
theorem dv_So_towardsEye : ∀ q ∈ mt_So_towardsEye.2.2.2.2, decode mt_So_towardsEye.2.1 q.1 = .ok (q.2.1, q.2.2) := by decide +kernel
set_option maxRecDepth 100000 in
theorem dv_So_acrossOf : ∀ q ∈ mt_So_acrossOf.2.2.2.2, decode mt_So_acrossOf.2.1 q.1 = .ok (q.2.1, q.2.2) := by decide +kernel
set_option maxRecDepth 100000 in
theorem dv_So_risingOf : ∀ q ∈ mt_So_risingOf.2.2.2.2, decode mt_So_risingOf.2.1 q.1 = .ok (q.2.1, q.2.2) := by decide +kernel
set_option maxRecDepth 100000 in
theorem dv_So_edgeCount : ∀ q ∈ mt_So_edgeCount.2.2.2.2, decode mt_So_edgeCount.2.1 q.1 = .ok (q.2.1, q.2.2) := by decide +kernel
set_option maxRecDepth 100000 in
theorem dv_So_edgeNumbered : ∀ q ∈ mt_So_edgeNumbered.2.2.2.2, decode mt_So_edgeNumbered.2.1 q.1 = .ok (q.2.1, q.2.2) := by decide +kernel
set_option maxRecDepth 100000 in
theorem dv_So_lesserOf : ∀ q ∈ mt_So_lesserOf.2.2.2.2, decode mt_So_lesserOf.2.1 q.1 = .ok (q.2.1, q.2.2) := by decide +kernel
set_option maxRecDepth 100000 in
theorem dv_So_greaterOf : ∀ q ∈ mt_So_greaterOf.2.2.2.2, decode mt_So_greaterOf.2.1 q.1 = .ok (q.2.1, q.2.2) := by decide +kernel
set_option maxRecDepth 100000 in
theorem dv_So_isEdge : ∀ q ∈ mt_So_isEdge.2.2.2.2, decode mt_So_isEdge.2.1 q.1 = .ok (q.2.1, q.2.2) := by decide +kernel
set_option maxRecDepth 100000 in
theorem dv_So_facesWith : ∀ q ∈ mt_So_facesWith.2.2.2.2, decode mt_So_facesWith.2.1 q.1 = .ok (q.2.1, q.2.2) := by decide +kernel
set_option maxRecDepth 100000 in
theorem dv_So_isBehind : ∀ q ∈ mt_So_isBehind.2.2.2.2, decode mt_So_isBehind.2.1 q.1 = .ok (q.2.1, q.2.2) := by decide +kernel
set_option maxRecDepth 100000 in
theorem dv_Ss_init : ∀ q ∈ mt_Ss_init.2.2.2.2, decode mt_Ss_init.2.1 q.1 = .ok (q.2.1, q.2.2) := by decide +kernel
set_option maxRecDepth 100000 in
theorem dv_Ss_isFull : ∀ q ∈ mt_Ss_isFull.2.2.2.2, decode mt_Ss_isFull.2.1 q.1 = .ok (q.2.1, q.2.2) := by decide +kernel
set_option maxRecDepth 100000 in
theorem dv_Ss_add : ∀ q ∈ mt_Ss_add.2.2.2.2, decode mt_Ss_add.2.1 q.1 = .ok (q.2.1, q.2.2) := by decide +kernel
set_option maxRecDepth 100000 in
theorem dv_Ss_find : ∀ q ∈ mt_Ss_find.2.2.2.2, decode mt_Ss_find.2.1 q.1 = .ok (q.2.1, q.2.2) := by decide +kernel
set_option maxRecDepth 100000 in
theorem dv_Ji_bitCount_I : ∀ q ∈ mt_Ji_bitCount_I.2.2.2.2, decode mt_Ji_bitCount_I.2.1 q.1 = .ok (q.2.1, q.2.2) := by decide +kernel
set_option maxRecDepth 100000 in
theorem dv_Jm_abs_I : ∀ q ∈ mt_Jm_abs_I.2.2.2.2, decode mt_Jm_abs_I.2.1 q.1 = .ok (q.2.1, q.2.2) := by decide +kernel
set_option maxRecDepth 100000 in
theorem dv_Jm_abs_J : ∀ q ∈ mt_Jm_abs_J.2.2.2.2, decode mt_Jm_abs_J.2.1 q.1 = .ok (q.2.1, q.2.2) := by decide +kernel
set_option maxRecDepth 100000 in
theorem dv_Jm_floorDiv_I : ∀ q ∈ mt_Jm_floorDiv_I.2.2.2.2, decode mt_Jm_floorDiv_I.2.1 q.1 = .ok (q.2.1, q.2.2) := by decide +kernel
set_option maxRecDepth 100000 in
theorem dv_Jm_floorDiv_J : ∀ q ∈ mt_Jm_floorDiv_J.2.2.2.2, decode mt_Jm_floorDiv_J.2.1 q.1 = .ok (q.2.1, q.2.2) := by decide +kernel
set_option maxRecDepth 100000 in
theorem dv_Jm_max_I : ∀ q ∈ mt_Jm_max_I.2.2.2.2, decode mt_Jm_max_I.2.1 q.1 = .ok (q.2.1, q.2.2) := by decide +kernel
set_option maxRecDepth 100000 in
theorem dv_Jm_min_I : ∀ q ∈ mt_Jm_min_I.2.2.2.2, decode mt_Jm_min_I.2.1 q.1 = .ok (q.2.1, q.2.2) := by decide +kernel
