/-! ===== the constructors ===== -/
def IKl (sc : xm_I) : List (Nat × Nat × Int32) → xm_I
  | [] => sc
  | e :: es => up2 (IKl sc es) e.1 e.2.1 e.2.2
def RKl : List (Nat × Nat × Nat) → xm_R
  | [] => fun _ _ => none
  | e :: es => up2 (RKl es) e.1 e.2.1 (some e.2.2)
def L0 : xm_L := fun _ _ => 0
theorem IKl_out {sc : xm_I} : ∀ {li : List (Nat × Nat × Int32)} {n : Nat}, li.all (fun e => Nat.blt e.1 n) = true → ∀ a, n ≤ a → ∀ k, IKl sc li a k = sc a k
  | [], _, _, _, _, _ => rfl
  | e :: es, n, h, a, ha, k => by
    simp only [List.all_cons, Bool.and_eq_true] at h
    have h1 : e.1 < n := Nat.le_of_ble_eq_true h.1
    have : ¬ (a = e.1 ∧ k = e.2.1) := fun q => by omega
    simp only [IKl, up2, if_neg this]
    exact IKl_out h.2 a ha k
theorem RKl_out : ∀ {lr : List (Nat × Nat × Nat)} {n : Nat}, lr.all (fun e => Nat.blt e.1 n) = true → ∀ a, n ≤ a → ∀ k, RKl lr a k = none
  | [], _, _, _, _, _ => rfl
  | e :: es, n, h, a, ha, k => by
    simp only [List.all_cons, Bool.and_eq_true] at h
    have h1 : e.1 < n := Nat.le_of_ble_eq_true h.1
    have : ¬ (a = e.1 ∧ k = e.2.1) := fun q => by omega
    simp only [RKl, up2, if_neg this]
    exact RKl_out h.2 a ha k
theorem KFz {sc : xm_I} {li : List (Nat × Nat × Int32)} {lr : List (Nat × Nat × Nat)} {n : Nat} (hsc : ∀ a, a < 1000 → ∀ k, sc a k = 0) (h1 : li.all (fun e => Nat.blt e.1 n) = true) (h2 : lr.all (fun e => Nat.blt e.1 n) = true) : Fz (IKl sc li) L0 (RKl lr) n := fun a ha h9 => ⟨fun k => (IKl_out h1 a ha k).trans (hsc a h9 k), fun _ => rfl, RKl_out h2 a ha⟩
section XY
variable {d : Nat} {M : xm_M} {pc : Nat} {Ls : List (Nat × Value)} {S : List Value} {I : xm_I} {L : xm_L} {R : xm_R} {n kc ks : Nat} {Q : Option Value → xm_H → Prop} {i index a c k : Nat} {sc : xm_I} {li li' : List (Nat × Nat × Int32)} {lr lr' : List (Nat × Nat × Nat)}
theorem k_puti {x : Int32} {fin : Bool} (hd : M.2.2.2.2[i]? = some (pc, .putfield index, 3)) (hf : xm_Fl M.1.cls index c k .int fin) (hfin : fin = true → M.1.name = "<init>" ∧ (vwCl[c]?).map (fun q => q.1) = some M.1.cls) (ha : a < n) (hl0 : xm_lay a = (c, 0)) (hli : li' = (a, k, x) :: li) (kk : xm_J d M (pc + 3) Ls S (IKl sc li', L, R, n) kc ks Q) : xm_J d M pc Ls (.int x :: .ref a :: S) (IKl sc li, L, R, n) kc ks Q := by
  subst hli
  exact q_puti hd hf hfin ha hl0 kk
theorem k_putr {x : Nat} {ty : FieldType} {fin : Bool} (hd : M.2.2.2.2[i]? = some (pc, .putfield index, 3)) (hf : xm_Fl M.1.cls index c k ty fin) (hty : ty.isReference = true) (hfin : fin = true → M.1.name = "<init>" ∧ (vwCl[c]?).map (fun q => q.1) = some M.1.cls) (ha : a < n) (hl0 : xm_lay a = (c, 0)) (hlr : lr' = (a, k, x) :: lr) (kk : xm_J d M (pc + 3) Ls S (I, L, RKl lr', n) kc ks Q) : xm_J d M pc Ls (.ref x :: .ref a :: S) (I, L, RKl lr, n) kc ks Q := by
  subst hlr
  exact q_putr hd hf hty hfin ha hl0 kk
theorem k_iastore {x v : Int32} {N : Nat} (hd : M.2.2.2.2[i]? = some (pc, .iastore, 1)) (ha : a < n) (hl0 : xm_lay a = (100, N)) (hin : 0 ≤ x.toInt ∧ x.toInt < (N : Int)) (hli : li' = (a, x.toNatClampNeg, v) :: li) (kk : xm_J d M (pc + 1) Ls S (IKl sc li', L, R, n) kc ks Q) : xm_J d M pc Ls (.int v :: .int x :: .ref a :: S) (IKl sc li, L, R, n) kc ks Q := by
  subst hli
  exact q_iastore hd ha hl0 hin kk
end XY
def mt_W_law : xm_M := (yL_law, cL_law, 8, some Jvm.ClassFile.FieldType.boolean, [(0, .new 7, 3), (3, .dup, 1), (4, .invokespecial 9, 3), (7, .astore_n 1, 1), (8, .new 10, 3), (11, .dup, 1), (12, .invokespecial 12, 3), (15, .astore_n 2, 1), (16, .iconst 0, 1), (17, .istore_n 3, 1), (18, .iload_n 3, 1), (19, .aload_n 0, 1), (20, .arraylength, 1), (21, .iconst 5, 1), (22, .isub, 1), (23, .if_icmp .gt 1354, 3), (26, .aload_n 0, 1), (27, .iload_n 3, 1), (28, .iaload, 1), (29, .bipush 63, 2), (31, .iand, 1), (32, .tableswitch 1339 0 36 #[164, 197, 240, 263, 296, 349, 372, 385, 418, 467, 490, 514, 567, 580, 603, 646, 669, 692, 731, 794, 827, 880, 923, 946, 989, 1022, 1035, 1068, 1091, 1114, 1127, 1150, 1163, 1206, 1249, 1282, 1315], 164), (196, .aload_n 1, 1), (197, .aload_n 0, 1), (198, .iload_n 3, 1), (199, .iconst 1, 1), (200, .iadd, 1), (201, .iaload, 1), (202, .aload_n 0, 1), (203, .iload_n 3, 1), (204, .iconst 2, 1), (205, .iadd, 1), (206, .iaload, 1), (207, .invokevirtual 13, 3), (210, .aload_n 2, 1), (211, .aload_n 0, 1), (212, .iload_n 3, 1), (213, .iconst 1, 1), (214, .iadd, 1), (215, .iaload, 1), (216, .aload_n 0, 1), (217, .iload_n 3, 1), (218, .iconst 2, 1), (219, .iadd, 1), (220, .iaload, 1), (221, .invokevirtual 17, 3), (224, .if_icmp .eq 1147, 3), (227, .iconst 0, 1), (228, .ireturn, 1), (229, .aload_n 1, 1), (230, .aload_n 0, 1), (231, .iload_n 3, 1), (232, .iconst 1, 1), (233, .iadd, 1), (234, .iaload, 1), (235, .aload_n 0, 1), (236, .iload_n 3, 1), (237, .iconst 2, 1), (238, .iadd, 1), (239, .iaload, 1), (240, .aload_n 0, 1), (241, .iload_n 3, 1), (242, .iconst 3, 1), (243, .iadd, 1), (244, .iaload, 1), (245, .invokevirtual 18, 3), (248, .aload_n 2, 1), (249, .aload_n 0, 1), (250, .iload_n 3, 1), (251, .iconst 1, 1), (252, .iadd, 1), (253, .iaload, 1), (254, .aload_n 0, 1), (255, .iload_n 3, 1), (256, .iconst 2, 1), (257, .iadd, 1), (258, .iaload, 1), (259, .aload_n 0, 1), (260, .iload_n 3, 1), (261, .iconst 3, 1), (262, .iadd, 1), (263, .iaload, 1), (264, .invokevirtual 22, 3), (267, .if_icmp .eq 1104, 3), (270, .iconst 0, 1), (271, .ireturn, 1), (272, .aload_n 1, 1), (273, .aload_n 0, 1), (274, .iload_n 3, 1), (275, .iconst 1, 1), (276, .iadd, 1), (277, .iaload, 1), (278, .invokevirtual 23, 3), (281, .aload_n 2, 1), (282, .aload_n 0, 1), (283, .iload_n 3, 1), (284, .iconst 1, 1), (285, .iadd, 1), (286, .iaload, 1), (287, .invokevirtual 27, 3), (290, .if_icmp .eq 1081, 3), (293, .iconst 0, 1), (294, .ireturn, 1), (295, .aload_n 1, 1), (296, .aload_n 0, 1), (297, .iload_n 3, 1), (298, .iconst 1, 1), (299, .iadd, 1), (300, .iaload, 1), (301, .aload_n 0, 1), (302, .iload_n 3, 1), (303, .iconst 2, 1), (304, .iadd, 1), (305, .iaload, 1), (306, .invokevirtual 28, 3), (309, .aload_n 2, 1), (310, .aload_n 0, 1), (311, .iload_n 3, 1), (312, .iconst 1, 1), (313, .iadd, 1), (314, .iaload, 1), (315, .aload_n 0, 1), (316, .iload_n 3, 1), (317, .iconst 2, 1), (318, .iadd, 1), (319, .iaload, 1), (320, .invokevirtual 31, 3), (323, .if_icmp .eq 1048, 3), (326, .iconst 0, 1), (327, .ireturn, 1), (328, .aload_n 1, 1), (329, .aload_n 0, 1), (330, .iload_n 3, 1), (331, .iconst 1, 1), (332, .iadd, 1), (333, .iaload, 1), (334, .aload_n 0, 1), (335, .iload_n 3, 1), (336, .iconst 2, 1), (337, .iadd, 1), (338, .iaload, 1), (339, .aload_n 0, 1), (340, .iload_n 3, 1), (341, .iconst 3, 1), (342, .iadd, 1), (343, .iaload, 1), (344, .aload_n 0, 1), (345, .iload_n 3, 1), (346, .iconst 4, 1), (347, .iadd, 1), (348, .iaload, 1), (349, .invokevirtual 32, 3), (352, .aload_n 2, 1), (353, .aload_n 0, 1), (354, .iload_n 3, 1), (355, .iconst 1, 1), (356, .iadd, 1), (357, .iaload, 1), (358, .aload_n 0, 1), (359, .iload_n 3, 1), (360, .iconst 2, 1), (361, .iadd, 1), (362, .iaload, 1), (363, .aload_n 0, 1), (364, .iload_n 3, 1), (365, .iconst 3, 1), (366, .iadd, 1), (367, .iaload, 1), (368, .aload_n 0, 1), (369, .iload_n 3, 1), (370, .iconst 4, 1), (371, .iadd, 1), (372, .iaload, 1), (373, .invokevirtual 36, 3), (376, .if_icmp .eq 995, 3), (379, .iconst 0, 1), (380, .ireturn, 1), (381, .aload_n 1, 1), (382, .aload_n 0, 1), (383, .iload_n 3, 1), (384, .iconst 1, 1), (385, .iadd, 1), (386, .iaload, 1), (387, .invokevirtual 37, 3), (390, .aload_n 2, 1), (391, .aload_n 0, 1), (392, .iload_n 3, 1), (393, .iconst 1, 1), (394, .iadd, 1), (395, .iaload, 1), (396, .invokevirtual 40, 3), (399, .if_icmp .eq 972, 3), (402, .iconst 0, 1), (403, .ireturn, 1), (404, .aload_n 1, 1), (405, .invokevirtual 41, 3), (408, .aload_n 2, 1), (409, .invokevirtual 45, 3), (412, .if_icmp .eq 959, 3), (415, .iconst 0, 1), (416, .ireturn, 1), (417, .aload_n 1, 1), (418, .aload_n 0, 1), (419, .iload_n 3, 1), (420, .iconst 1, 1), (421, .iadd, 1), (422, .iaload, 1), (423, .aload_n 0, 1), (424, .iload_n 3, 1), (425, .iconst 2, 1), (426, .iadd, 1), (427, .iaload, 1), (428, .invokevirtual 46, 3), (431, .aload_n 2, 1), (432, .aload_n 0, 1), (433, .iload_n 3, 1), (434, .iconst 1, 1), (435, .iadd, 1), (436, .iaload, 1), (437, .aload_n 0, 1), (438, .iload_n 3, 1), (439, .iconst 2, 1), (440, .iadd, 1), (441, .iaload, 1), (442, .invokevirtual 49, 3), (445, .if_icmp .eq 926, 3), (448, .iconst 0, 1), (449, .ireturn, 1), (450, .aload_n 1, 1), (451, .aload_n 0, 1), (452, .iload_n 3, 1), (453, .iconst 1, 1), (454, .iadd, 1), (455, .iaload, 1), (456, .aload_n 0, 1), (457, .iload_n 3, 1), (458, .iconst 2, 1), (459, .iadd, 1), (460, .iaload, 1), (461, .ifCond .eq 7, 3), (464, .iconst 1, 1), (465, .goto 4, 3), (468, .iconst 0, 1), (469, .invokevirtual 50, 3), (472, .aload_n 2, 1), (473, .aload_n 0, 1), (474, .iload_n 3, 1), (475, .iconst 1, 1), (476, .iadd, 1), (477, .iaload, 1), (478, .aload_n 0, 1), (479, .iload_n 3, 1), (480, .iconst 2, 1), (481, .iadd, 1), (482, .iaload, 1), (483, .ifCond .eq 7, 3), (486, .iconst 1, 1), (487, .goto 4, 3), (490, .iconst 0, 1), (491, .invokevirtual 54, 3), (494, .if_icmp .eq 877, 3), (497, .iconst 0, 1), (498, .ireturn, 1), (499, .aload_n 1, 1), (500, .aload_n 0, 1), (501, .iload_n 3, 1), (502, .iconst 1, 1), (503, .iadd, 1), (504, .iaload, 1), (505, .invokevirtual 55, 3), (508, .aload_n 2, 1), (509, .aload_n 0, 1), (510, .iload_n 3, 1), (511, .iconst 1, 1), (512, .iadd, 1), (513, .iaload, 1), (514, .invokevirtual 58, 3), (517, .if_icmp .eq 854, 3), (520, .iconst 0, 1), (521, .ireturn, 1), (522, .aload_n 1, 1), (523, .aload_n 0, 1), (524, .iload_n 3, 1), (525, .iconst 1, 1), (526, .iadd, 1), (527, .iaload, 1), (528, .invokevirtual 59, 3), (531, .aload_n 2, 1), (532, .aload_n 0, 1), (533, .iload_n 3, 1), (534, .iconst 1, 1), (535, .iadd, 1), (536, .iaload, 1), (537, .invokevirtual 63, 3), (540, .lcmp, 1), (541, .ifCond .eq 830, 3), (544, .iconst 0, 1), (545, .ireturn, 1), (546, .aload_n 1, 1), (547, .aload_n 0, 1), (548, .iload_n 3, 1), (549, .iconst 1, 1), (550, .iadd, 1), (551, .iaload, 1), (552, .aload_n 0, 1), (553, .iload_n 3, 1), (554, .iconst 2, 1), (555, .iadd, 1), (556, .iaload, 1), (557, .aload_n 0, 1), (558, .iload_n 3, 1), (559, .iconst 3, 1), (560, .iadd, 1), (561, .iaload, 1), (562, .aload_n 0, 1), (563, .iload_n 3, 1), (564, .iconst 4, 1), (565, .iadd, 1), (566, .iaload, 1), (567, .invokevirtual 64, 3), (570, .aload_n 2, 1), (571, .aload_n 0, 1), (572, .iload_n 3, 1), (573, .iconst 1, 1), (574, .iadd, 1), (575, .iaload, 1), (576, .aload_n 0, 1), (577, .iload_n 3, 1), (578, .iconst 2, 1), (579, .iadd, 1), (580, .iaload, 1), (581, .aload_n 0, 1), (582, .iload_n 3, 1), (583, .iconst 3, 1), (584, .iadd, 1), (585, .iaload, 1), (586, .aload_n 0, 1), (587, .iload_n 3, 1), (588, .iconst 4, 1), (589, .iadd, 1), (590, .iaload, 1), (591, .invokevirtual 67, 3), (594, .if_icmp .eq 777, 3), (597, .iconst 0, 1), (598, .ireturn, 1), (599, .aload_n 1, 1), (600, .invokevirtual 68, 3), (603, .aload_n 2, 1), (604, .invokevirtual 71, 3), (607, .if_icmp .eq 764, 3), (610, .iconst 0, 1), (611, .ireturn, 1), (612, .aload_n 1, 1), (613, .aload_n 0, 1), (614, .iload_n 3, 1), (615, .iconst 1, 1), (616, .iadd, 1), (617, .iaload, 1), (618, .invokevirtual 72, 3), (621, .aload_n 2, 1), (622, .aload_n 0, 1), (623, .iload_n 3, 1), (624, .iconst 1, 1), (625, .iadd, 1), (626, .iaload, 1), (627, .invokevirtual 75, 3), (630, .if_icmp .eq 741, 3), (633, .iconst 0, 1), (634, .ireturn, 1), (635, .aload_n 1, 1), (636, .aload_n 0, 1), (637, .iload_n 3, 1), (638, .iconst 1, 1), (639, .iadd, 1), (640, .iaload, 1), (641, .aload_n 0, 1), (642, .iload_n 3, 1), (643, .iconst 2, 1), (644, .iadd, 1), (645, .iaload, 1), (646, .aload_n 0, 1), (647, .iload_n 3, 1), (648, .iconst 3, 1), (649, .iadd, 1), (650, .iaload, 1), (651, .invokevirtual 76, 3), (654, .aload_n 2, 1), (655, .aload_n 0, 1), (656, .iload_n 3, 1), (657, .iconst 1, 1), (658, .iadd, 1), (659, .iaload, 1), (660, .aload_n 0, 1), (661, .iload_n 3, 1), (662, .iconst 2, 1), (663, .iadd, 1), (664, .iaload, 1), (665, .aload_n 0, 1), (666, .iload_n 3, 1), (667, .iconst 3, 1), (668, .iadd, 1), (669, .iaload, 1), (670, .invokevirtual 79, 3), (673, .if_icmp .eq 698, 3), (676, .iconst 0, 1), (677, .ireturn, 1), (678, .aload_n 1, 1), (679, .aload_n 0, 1), (680, .iload_n 3, 1), (681, .iconst 1, 1), (682, .iadd, 1), (683, .iaload, 1), (684, .invokevirtual 80, 3), (687, .aload_n 2, 1), (688, .aload_n 0, 1), (689, .iload_n 3, 1), (690, .iconst 1, 1), (691, .iadd, 1), (692, .iaload, 1), (693, .invokevirtual 83, 3), (696, .if_icmp .eq 675, 3), (699, .iconst 0, 1), (700, .ireturn, 1), (701, .aload_n 1, 1), (702, .aload_n 0, 1), (703, .iload_n 3, 1), (704, .iconst 1, 1), (705, .iadd, 1), (706, .iaload, 1), (707, .invokevirtual 84, 3), (710, .aload_n 2, 1), (711, .aload_n 0, 1), (712, .iload_n 3, 1), (713, .iconst 1, 1), (714, .iadd, 1), (715, .iaload, 1), (716, .invokevirtual 87, 3), (719, .if_icmp .eq 652, 3), (722, .iconst 0, 1), (723, .ireturn, 1), (724, .aload_n 1, 1), (725, .aload_n 0, 1), (726, .iload_n 3, 1), (727, .iconst 1, 1), (728, .iadd, 1), (729, .iaload, 1), (730, .ifCond .eq 7, 3), (733, .iconst 1, 1), (734, .goto 4, 3), (737, .iconst 0, 1), (738, .invokevirtual 88, 3), (741, .aload_n 2, 1), (742, .aload_n 0, 1), (743, .iload_n 3, 1), (744, .iconst 1, 1), (745, .iadd, 1), (746, .iaload, 1), (747, .ifCond .eq 7, 3), (750, .iconst 1, 1), (751, .goto 4, 3), (754, .iconst 0, 1), (755, .invokevirtual 92, 3), (758, .if_icmp .eq 613, 3), (761, .iconst 0, 1), (762, .ireturn, 1), (763, .aload_n 1, 1), (764, .aload_n 0, 1), (765, .iload_n 3, 1), (766, .iconst 1, 1), (767, .iadd, 1), (768, .iaload, 1), (769, .aload_n 0, 1), (770, .iload_n 3, 1), (771, .iconst 2, 1), (772, .iadd, 1), (773, .iaload, 1), (774, .invokevirtual 93, 3), (777, .f2d, 1), (778, .dstore 4, 2), (780, .aload_n 2, 1), (781, .aload_n 0, 1), (782, .iload_n 3, 1), (783, .iconst 1, 1), (784, .iadd, 1), (785, .iaload, 1), (786, .aload_n 0, 1), (787, .iload_n 3, 1), (788, .iconst 2, 1), (789, .iadd, 1), (790, .iaload, 1), (791, .invokevirtual 97, 3), (794, .f2d, 1), (795, .dstore 6, 2), (797, .dload 4, 2), (799, .dload 6, 2), (801, .dcmp .l, 1), (802, .ifCond .eq 21, 3), (805, .dload 4, 2), (807, .dload 4, 2), (809, .dcmp .l, 1), (810, .ifCond .eq 11, 3), (813, .dload 6, 2), (815, .dload 6, 2), (817, .dcmp .l, 1), (818, .ifCond .ne 5, 3), (821, .iconst 0, 1), (822, .ireturn, 1), (823, .goto 548, 3), (826, .aload_n 1, 1), (827, .aload_n 0, 1), (828, .iload_n 3, 1), (829, .iconst 1, 1), (830, .iadd, 1), (831, .iaload, 1), (832, .aload_n 0, 1), (833, .iload_n 3, 1), (834, .iconst 2, 1), (835, .iadd, 1), (836, .iaload, 1), (837, .invokevirtual 98, 3), (840, .aload_n 2, 1), (841, .aload_n 0, 1), (842, .iload_n 3, 1), (843, .iconst 1, 1), (844, .iadd, 1), (845, .iaload, 1), (846, .aload_n 0, 1), (847, .iload_n 3, 1), (848, .iconst 2, 1), (849, .iadd, 1), (850, .iaload, 1), (851, .invokevirtual 101, 3), (854, .if_icmp .eq 517, 3), (857, .iconst 0, 1), (858, .ireturn, 1), (859, .aload_n 1, 1), (860, .aload_n 0, 1), (861, .iload_n 3, 1), (862, .iconst 1, 1), (863, .iadd, 1), (864, .iaload, 1), (865, .aload_n 0, 1), (866, .iload_n 3, 1), (867, .iconst 2, 1), (868, .iadd, 1), (869, .iaload, 1), (870, .aload_n 0, 1), (871, .iload_n 3, 1), (872, .iconst 3, 1), (873, .iadd, 1), (874, .iaload, 1), (875, .aload_n 0, 1), (876, .iload_n 3, 1), (877, .iconst 4, 1), (878, .iadd, 1), (879, .iaload, 1), (880, .invokevirtual 102, 3), (883, .aload_n 2, 1), (884, .aload_n 0, 1), (885, .iload_n 3, 1), (886, .iconst 1, 1), (887, .iadd, 1), (888, .iaload, 1), (889, .aload_n 0, 1), (890, .iload_n 3, 1), (891, .iconst 2, 1), (892, .iadd, 1), (893, .iaload, 1), (894, .aload_n 0, 1), (895, .iload_n 3, 1), (896, .iconst 3, 1), (897, .iadd, 1), (898, .iaload, 1), (899, .aload_n 0, 1), (900, .iload_n 3, 1), (901, .iconst 4, 1), (902, .iadd, 1), (903, .iaload, 1), (904, .invokevirtual 105, 3), (907, .if_icmp .eq 464, 3), (910, .iconst 0, 1), (911, .ireturn, 1), (912, .aload_n 1, 1), (913, .aload_n 0, 1), (914, .iload_n 3, 1), (915, .iconst 1, 1), (916, .iadd, 1), (917, .iaload, 1), (918, .aload_n 0, 1), (919, .iload_n 3, 1), (920, .iconst 2, 1), (921, .iadd, 1), (922, .iaload, 1), (923, .aload_n 0, 1), (924, .iload_n 3, 1), (925, .iconst 3, 1), (926, .iadd, 1), (927, .iaload, 1), (928, .invokevirtual 106, 3), (931, .aload_n 2, 1), (932, .aload_n 0, 1), (933, .iload_n 3, 1), (934, .iconst 1, 1), (935, .iadd, 1), (936, .iaload, 1), (937, .aload_n 0, 1), (938, .iload_n 3, 1), (939, .iconst 2, 1), (940, .iadd, 1), (941, .iaload, 1), (942, .aload_n 0, 1), (943, .iload_n 3, 1), (944, .iconst 3, 1), (945, .iadd, 1), (946, .iaload, 1), (947, .invokevirtual 109, 3), (950, .if_icmp .eq 421, 3), (953, .iconst 0, 1), (954, .ireturn, 1), (955, .aload_n 1, 1), (956, .aload_n 0, 1), (957, .iload_n 3, 1), (958, .iconst 1, 1), (959, .iadd, 1), (960, .iaload, 1), (961, .invokevirtual 110, 3), (964, .aload_n 2, 1), (965, .aload_n 0, 1), (966, .iload_n 3, 1), (967, .iconst 1, 1), (968, .iadd, 1), (969, .iaload, 1), (970, .invokevirtual 113, 3), (973, .if_icmp .eq 398, 3), (976, .iconst 0, 1), (977, .ireturn, 1), (978, .aload_n 1, 1), (979, .aload_n 0, 1), (980, .iload_n 3, 1), (981, .iconst 1, 1), (982, .iadd, 1), (983, .iaload, 1), (984, .aload_n 0, 1), (985, .iload_n 3, 1), (986, .iconst 2, 1), (987, .iadd, 1), (988, .iaload, 1), (989, .aload_n 0, 1), (990, .iload_n 3, 1), (991, .iconst 3, 1), (992, .iadd, 1), (993, .iaload, 1), (994, .invokevirtual 114, 3), (997, .aload_n 2, 1), (998, .aload_n 0, 1), (999, .iload_n 3, 1), (1000, .iconst 1, 1), (1001, .iadd, 1), (1002, .iaload, 1), (1003, .aload_n 0, 1), (1004, .iload_n 3, 1), (1005, .iconst 2, 1), (1006, .iadd, 1), (1007, .iaload, 1), (1008, .aload_n 0, 1), (1009, .iload_n 3, 1), (1010, .iconst 3, 1), (1011, .iadd, 1), (1012, .iaload, 1), (1013, .invokevirtual 117, 3), (1016, .if_icmp .eq 355, 3), (1019, .iconst 0, 1), (1020, .ireturn, 1), (1021, .aload_n 1, 1), (1022, .aload_n 0, 1), (1023, .iload_n 3, 1), (1024, .iconst 1, 1), (1025, .iadd, 1), (1026, .iaload, 1), (1027, .aload_n 0, 1), (1028, .iload_n 3, 1), (1029, .iconst 2, 1), (1030, .iadd, 1), (1031, .iaload, 1), (1032, .invokevirtual 118, 3), (1035, .aload_n 2, 1), (1036, .aload_n 0, 1), (1037, .iload_n 3, 1), (1038, .iconst 1, 1), (1039, .iadd, 1), (1040, .iaload, 1), (1041, .aload_n 0, 1), (1042, .iload_n 3, 1), (1043, .iconst 2, 1), (1044, .iadd, 1), (1045, .iaload, 1), (1046, .invokevirtual 121, 3), (1049, .if_icmp .eq 322, 3), (1052, .iconst 0, 1), (1053, .ireturn, 1), (1054, .aload_n 1, 1), (1055, .invokevirtual 122, 3), (1058, .aload_n 2, 1), (1059, .invokevirtual 125, 3), (1062, .if_icmp .eq 309, 3), (1065, .iconst 0, 1), (1066, .ireturn, 1), (1067, .aload_n 1, 1), (1068, .aload_n 0, 1), (1069, .iload_n 3, 1), (1070, .iconst 1, 1), (1071, .iadd, 1), (1072, .iaload, 1), (1073, .aload_n 0, 1), (1074, .iload_n 3, 1), (1075, .iconst 2, 1), (1076, .iadd, 1), (1077, .iaload, 1), (1078, .invokevirtual 126, 3), (1081, .aload_n 2, 1), (1082, .aload_n 0, 1), (1083, .iload_n 3, 1), (1084, .iconst 1, 1), (1085, .iadd, 1), (1086, .iaload, 1), (1087, .aload_n 0, 1), (1088, .iload_n 3, 1), (1089, .iconst 2, 1), (1090, .iadd, 1), (1091, .iaload, 1), (1092, .invokevirtual 129, 3), (1095, .if_icmp .eq 276, 3), (1098, .iconst 0, 1), (1099, .ireturn, 1), (1100, .aload_n 1, 1), (1101, .aload_n 0, 1), (1102, .iload_n 3, 1), (1103, .iconst 1, 1), (1104, .iadd, 1), (1105, .iaload, 1), (1106, .invokevirtual 130, 3), (1109, .aload_n 2, 1), (1110, .aload_n 0, 1), (1111, .iload_n 3, 1), (1112, .iconst 1, 1), (1113, .iadd, 1), (1114, .iaload, 1), (1115, .invokevirtual 133, 3), (1118, .if_icmp .eq 253, 3), (1121, .iconst 0, 1), (1122, .ireturn, 1), (1123, .aload_n 1, 1), (1124, .aload_n 0, 1), (1125, .iload_n 3, 1), (1126, .iconst 1, 1), (1127, .iadd, 1), (1128, .iaload, 1), (1129, .invokevirtual 134, 3), (1132, .aload_n 2, 1), (1133, .aload_n 0, 1), (1134, .iload_n 3, 1), (1135, .iconst 1, 1), (1136, .iadd, 1), (1137, .iaload, 1), (1138, .invokevirtual 137, 3), (1141, .if_icmp .eq 230, 3), (1144, .iconst 0, 1), (1145, .ireturn, 1), (1146, .aload_n 1, 1), (1147, .invokevirtual 138, 3), (1150, .aload_n 2, 1), (1151, .invokevirtual 141, 3), (1154, .if_icmp .eq 217, 3), (1157, .iconst 0, 1), (1158, .ireturn, 1), (1159, .aload_n 1, 1), (1160, .aload_n 0, 1), (1161, .iload_n 3, 1), (1162, .iconst 1, 1), (1163, .iadd, 1), (1164, .iaload, 1), (1165, .invokevirtual 142, 3), (1168, .aload_n 2, 1), (1169, .aload_n 0, 1), (1170, .iload_n 3, 1), (1171, .iconst 1, 1), (1172, .iadd, 1), (1173, .iaload, 1), (1174, .invokevirtual 145, 3), (1177, .if_icmp .eq 194, 3), (1180, .iconst 0, 1), (1181, .ireturn, 1), (1182, .aload_n 1, 1), (1183, .invokevirtual 146, 3), (1186, .aload_n 2, 1), (1187, .invokevirtual 149, 3), (1190, .if_icmp .eq 181, 3), (1193, .iconst 0, 1), (1194, .ireturn, 1), (1195, .aload_n 1, 1), (1196, .aload_n 0, 1), (1197, .iload_n 3, 1), (1198, .iconst 1, 1), (1199, .iadd, 1), (1200, .iaload, 1), (1201, .aload_n 0, 1), (1202, .iload_n 3, 1), (1203, .iconst 2, 1), (1204, .iadd, 1), (1205, .iaload, 1), (1206, .aload_n 0, 1), (1207, .iload_n 3, 1), (1208, .iconst 3, 1), (1209, .iadd, 1), (1210, .iaload, 1), (1211, .invokevirtual 150, 3), (1214, .aload_n 2, 1), (1215, .aload_n 0, 1), (1216, .iload_n 3, 1), (1217, .iconst 1, 1), (1218, .iadd, 1), (1219, .iaload, 1), (1220, .aload_n 0, 1), (1221, .iload_n 3, 1), (1222, .iconst 2, 1), (1223, .iadd, 1), (1224, .iaload, 1), (1225, .aload_n 0, 1), (1226, .iload_n 3, 1), (1227, .iconst 3, 1), (1228, .iadd, 1), (1229, .iaload, 1), (1230, .invokevirtual 153, 3), (1233, .if_icmp .eq 138, 3), (1236, .iconst 0, 1), (1237, .ireturn, 1), (1238, .aload_n 1, 1), (1239, .aload_n 0, 1), (1240, .iload_n 3, 1), (1241, .iconst 1, 1), (1242, .iadd, 1), (1243, .iaload, 1), (1244, .aload_n 0, 1), (1245, .iload_n 3, 1), (1246, .iconst 2, 1), (1247, .iadd, 1), (1248, .iaload, 1), (1249, .aload_n 0, 1), (1250, .iload_n 3, 1), (1251, .iconst 3, 1), (1252, .iadd, 1), (1253, .iaload, 1), (1254, .invokevirtual 154, 3), (1257, .aload_n 2, 1), (1258, .aload_n 0, 1), (1259, .iload_n 3, 1), (1260, .iconst 1, 1), (1261, .iadd, 1), (1262, .iaload, 1), (1263, .aload_n 0, 1), (1264, .iload_n 3, 1), (1265, .iconst 2, 1), (1266, .iadd, 1), (1267, .iaload, 1), (1268, .aload_n 0, 1), (1269, .iload_n 3, 1), (1270, .iconst 3, 1), (1271, .iadd, 1), (1272, .iaload, 1), (1273, .invokevirtual 157, 3), (1276, .if_icmp .eq 95, 3), (1279, .iconst 0, 1), (1280, .ireturn, 1), (1281, .aload_n 1, 1), (1282, .aload_n 0, 1), (1283, .iload_n 3, 1), (1284, .iconst 1, 1), (1285, .iadd, 1), (1286, .iaload, 1), (1287, .aload_n 0, 1), (1288, .iload_n 3, 1), (1289, .iconst 2, 1), (1290, .iadd, 1), (1291, .iaload, 1), (1292, .invokevirtual 158, 3), (1295, .aload_n 2, 1), (1296, .aload_n 0, 1), (1297, .iload_n 3, 1), (1298, .iconst 1, 1), (1299, .iadd, 1), (1300, .iaload, 1), (1301, .aload_n 0, 1), (1302, .iload_n 3, 1), (1303, .iconst 2, 1), (1304, .iadd, 1), (1305, .iaload, 1), (1306, .invokevirtual 161, 3), (1309, .if_icmp .eq 62, 3), (1312, .iconst 0, 1), (1313, .ireturn, 1), (1314, .aload_n 1, 1), (1315, .aload_n 0, 1), (1316, .iload_n 3, 1), (1317, .iconst 1, 1), (1318, .iadd, 1), (1319, .iaload, 1), (1320, .aload_n 0, 1), (1321, .iload_n 3, 1), (1322, .iconst 2, 1), (1323, .iadd, 1), (1324, .iaload, 1), (1325, .invokevirtual 162, 3), (1328, .aload_n 2, 1), (1329, .aload_n 0, 1), (1330, .iload_n 3, 1), (1331, .iconst 1, 1), (1332, .iadd, 1), (1333, .iaload, 1), (1334, .aload_n 0, 1), (1335, .iload_n 3, 1), (1336, .iconst 2, 1), (1337, .iadd, 1), (1338, .iaload, 1), (1339, .invokevirtual 165, 3), (1342, .if_icmp .eq 29, 3), (1345, .iconst 0, 1), (1346, .ireturn, 1), (1347, .aload_n 1, 1), (1348, .aload_n 0, 1), (1349, .iload_n 3, 1), (1350, .iconst 1, 1), (1351, .iadd, 1), (1352, .iaload, 1), (1353, .invokevirtual 166, 3), (1356, .aload_n 2, 1), (1357, .aload_n 0, 1), (1358, .iload_n 3, 1), (1359, .iconst 1, 1), (1360, .iadd, 1), (1361, .iaload, 1), (1362, .invokevirtual 169, 3), (1365, .lcmp, 1), (1366, .ifCond .eq 5, 3), (1369, .iconst 0, 1), (1370, .ireturn, 1), (1371, .iinc 3 5, 3), (1374, .goto (-1356), 3), (1377, .iconst 1, 1), (1378, .ireturn, 1)])
def li_0 : List (Nat × Nat × Int32) := []
def li_1 : List (Nat × Nat × Int32) := (14, 0, 0) :: li_0
def li_2 : List (Nat × Nat × Int32) := (14, 1, 100) :: li_1
def li_3 : List (Nat × Nat × Int32) := (14, 2, 0) :: li_2
def li_4 : List (Nat × Nat × Int32) := (14, 3, 100) :: li_3
def li_5 : List (Nat × Nat × Int32) := (14, 4, 100) :: li_4
def li_6 : List (Nat × Nat × Int32) := (14, 5, 100) :: li_5
def li_7 : List (Nat × Nat × Int32) := (14, 6, 0) :: li_6
def li_8 : List (Nat × Nat × Int32) := (14, 7, 0) :: li_7
def li_9 : List (Nat × Nat × Int32) := (14, 8, 10) :: li_8
def li_10 : List (Nat × Nat × Int32) := (14, 9, 1) :: li_9
def li_11 : List (Nat × Nat × Int32) := (14, 10, 1) :: li_10
def li_12 : List (Nat × Nat × Int32) := (17, 6, 17) :: li_11
def li_13 : List (Nat × Nat × Int32) := (0, 9, 0) :: li_12
def li_14 : List (Nat × Nat × Int32) := (49, 16, 100) :: li_13
def li_15 : List (Nat × Nat × Int32) := (49, 18, 100) :: li_14
def li_16 : List (Nat × Nat × Int32) := (49, 19, 100) :: li_15
def li_17 : List (Nat × Nat × Int32) := (49, 20, 100) :: li_16
def li_18 : List (Nat × Nat × Int32) := (49, 23, 10) :: li_17
def li_19 : List (Nat × Nat × Int32) := (84, 0, (-1)) :: li_18
def li_20 : List (Nat × Nat × Int32) := (84, 1, (-1)) :: li_19
def li_21 : List (Nat × Nat × Int32) := (84, 2, (-1)) :: li_20
def li_22 : List (Nat × Nat × Int32) := (84, 3, (-1)) :: li_21
def li_23 : List (Nat × Nat × Int32) := (84, 4, (-1)) :: li_22
def li_24 : List (Nat × Nat × Int32) := (84, 5, (-1)) :: li_23
def lr_0 : List (Nat × Nat × Nat) := []
def lr_1 : List (Nat × Nat × Nat) := (1, 0, 2) :: lr_0
def lr_2 : List (Nat × Nat × Nat) := (1, 1, 3) :: lr_1
def lr_3 : List (Nat × Nat × Nat) := (1, 2, 4) :: lr_2
def lr_4 : List (Nat × Nat × Nat) := (1, 3, 5) :: lr_3
def lr_5 : List (Nat × Nat × Nat) := (0, 0, 1) :: lr_4
def lr_6 : List (Nat × Nat × Nat) := (6, 1, 7) :: lr_5
def lr_7 : List (Nat × Nat × Nat) := (6, 2, 8) :: lr_6
def lr_8 : List (Nat × Nat × Nat) := (6, 3, 9) :: lr_7
def lr_9 : List (Nat × Nat × Nat) := (6, 4, 10) :: lr_8
def lr_10 : List (Nat × Nat × Nat) := (6, 5, 11) :: lr_9
def lr_11 : List (Nat × Nat × Nat) := (6, 6, 12) :: lr_10
def lr_12 : List (Nat × Nat × Nat) := (6, 7, 13) :: lr_11
def lr_13 : List (Nat × Nat × Nat) := (6, 0, 1) :: lr_12
def lr_14 : List (Nat × Nat × Nat) := (0, 1, 6) :: lr_13
def lr_15 : List (Nat × Nat × Nat) := (0, 2, 14) :: lr_14
def lr_16 : List (Nat × Nat × Nat) := (15, 0, 16) :: lr_15
def lr_17 : List (Nat × Nat × Nat) := (0, 3, 15) :: lr_16
def lr_18 : List (Nat × Nat × Nat) := (17, 0, 18) :: lr_17
def lr_19 : List (Nat × Nat × Nat) := (17, 1, 19) :: lr_18
def lr_20 : List (Nat × Nat × Nat) := (17, 2, 20) :: lr_19
def lr_21 : List (Nat × Nat × Nat) := (0, 4, 17) :: lr_20
def lr_22 : List (Nat × Nat × Nat) := (21, 0, 22) :: lr_21
def lr_23 : List (Nat × Nat × Nat) := (21, 1, 23) :: lr_22
def lr_24 : List (Nat × Nat × Nat) := (21, 2, 24) :: lr_23
def lr_25 : List (Nat × Nat × Nat) := (0, 5, 21) :: lr_24
def lr_26 : List (Nat × Nat × Nat) := (25, 0, 26) :: lr_25
def lr_27 : List (Nat × Nat × Nat) := (25, 1, 27) :: lr_26
def lr_28 : List (Nat × Nat × Nat) := (25, 2, 28) :: lr_27
def lr_29 : List (Nat × Nat × Nat) := (25, 3, 29) :: lr_28
def lr_30 : List (Nat × Nat × Nat) := (0, 6, 25) :: lr_29
def lr_31 : List (Nat × Nat × Nat) := (30, 5, 31) :: lr_30
def lr_32 : List (Nat × Nat × Nat) := (30, 6, 32) :: lr_31
def lr_33 : List (Nat × Nat × Nat) := (30, 7, 33) :: lr_32
def lr_34 : List (Nat × Nat × Nat) := (30, 8, 34) :: lr_33
def lr_35 : List (Nat × Nat × Nat) := (30, 9, 35) :: lr_34
def lr_36 : List (Nat × Nat × Nat) := (30, 10, 36) :: lr_35
def lr_37 : List (Nat × Nat × Nat) := (30, 11, 37) :: lr_36
def lr_38 : List (Nat × Nat × Nat) := (30, 0, 6) :: lr_37
def lr_39 : List (Nat × Nat × Nat) := (30, 1, 1) :: lr_38
def lr_40 : List (Nat × Nat × Nat) := (30, 2, 14) :: lr_39
def lr_41 : List (Nat × Nat × Nat) := (30, 3, 17) :: lr_40
def lr_42 : List (Nat × Nat × Nat) := (38, 0, 14) :: lr_41
def lr_43 : List (Nat × Nat × Nat) := (30, 4, 38) :: lr_42
def lr_44 : List (Nat × Nat × Nat) := (0, 7, 30) :: lr_43
def lr_45 : List (Nat × Nat × Nat) := (39, 4, 40) :: lr_44
def lr_46 : List (Nat × Nat × Nat) := (39, 5, 41) :: lr_45
def lr_47 : List (Nat × Nat × Nat) := (39, 6, 42) :: lr_46
def lr_48 : List (Nat × Nat × Nat) := (39, 7, 43) :: lr_47
def lr_49 : List (Nat × Nat × Nat) := (39, 8, 44) :: lr_48
def lr_50 : List (Nat × Nat × Nat) := (39, 9, 45) :: lr_49
def lr_51 : List (Nat × Nat × Nat) := (39, 10, 46) :: lr_50
def lr_52 : List (Nat × Nat × Nat) := (39, 11, 47) :: lr_51
def lr_53 : List (Nat × Nat × Nat) := (39, 12, 48) :: lr_52
def lr_54 : List (Nat × Nat × Nat) := (39, 0, 21) :: lr_53
def lr_55 : List (Nat × Nat × Nat) := (39, 1, 30) :: lr_54
def lr_56 : List (Nat × Nat × Nat) := (39, 2, 17) :: lr_55
def lr_57 : List (Nat × Nat × Nat) := (39, 3, 14) :: lr_56
def lr_58 : List (Nat × Nat × Nat) := (0, 8, 39) :: lr_57
def lr_59 : List (Nat × Nat × Nat) := (49, 0, 50) :: lr_58
def lr_60 : List (Nat × Nat × Nat) := (49, 1, 51) :: lr_59
def lr_61 : List (Nat × Nat × Nat) := (49, 2, 52) :: lr_60
def lr_62 : List (Nat × Nat × Nat) := (49, 3, 53) :: lr_61
def lr_63 : List (Nat × Nat × Nat) := (49, 6, 54) :: lr_62
def lr_64 : List (Nat × Nat × Nat) := (49, 7, 55) :: lr_63
def lr_65 : List (Nat × Nat × Nat) := (49, 8, 56) :: lr_64
def lr_66 : List (Nat × Nat × Nat) := (49, 9, 57) :: lr_65
def lr_67 : List (Nat × Nat × Nat) := (49, 10, 58) :: lr_66
def lr_68 : List (Nat × Nat × Nat) := (49, 12, 59) :: lr_67
def lr_69 : List (Nat × Nat × Nat) := (49, 14, 60) :: lr_68
def lr_70 : List (Nat × Nat × Nat) := (49, 24, 61) :: lr_69
def lr_71 : List (Nat × Nat × Nat) := (49, 25, 62) :: lr_70
def lr_72 : List (Nat × Nat × Nat) := (49, 26, 63) :: lr_71
def lr_73 : List (Nat × Nat × Nat) := (49, 27, 64) :: lr_72
def lr_74 : List (Nat × Nat × Nat) := (49, 28, 65) :: lr_73
def lr_75 : List (Nat × Nat × Nat) := (49, 29, 66) :: lr_74
def lr_76 : List (Nat × Nat × Nat) := (49, 30, 67) :: lr_75
def lr_77 : List (Nat × Nat × Nat) := (49, 33, 68) :: lr_76
def lr_78 : List (Nat × Nat × Nat) := (49, 35, 69) :: lr_77
def lr_79 : List (Nat × Nat × Nat) := (49, 36, 70) :: lr_78
def lr_80 : List (Nat × Nat × Nat) := (49, 48, 71) :: lr_79
def lr_81 : List (Nat × Nat × Nat) := (49, 51, 72) :: lr_80
def lr_82 : List (Nat × Nat × Nat) := (49, 53, 73) :: lr_81
def lr_83 : List (Nat × Nat × Nat) := (49, 54, 74) :: lr_82
def lr_84 : List (Nat × Nat × Nat) := (49, 55, 75) :: lr_83
def lr_85 : List (Nat × Nat × Nat) := (49, 57, 76) :: lr_84
def lr_86 : List (Nat × Nat × Nat) := (49, 65, 77) :: lr_85
def lr_87 : List (Nat × Nat × Nat) := (49, 66, 78) :: lr_86
def lr_88 : List (Nat × Nat × Nat) := (49, 68, 79) :: lr_87
def lr_89 : List (Nat × Nat × Nat) := (49, 69, 80) :: lr_88
def lr_90 : List (Nat × Nat × Nat) := (49, 71, 81) :: lr_89
def lr_91 : List (Nat × Nat × Nat) := (49, 72, 82) :: lr_90
def lr_92 : List (Nat × Nat × Nat) := (49, 75, 83) :: lr_91
def lr_93 : List (Nat × Nat × Nat) := (49, 76, 84) :: lr_92
def lr_94 : List (Nat × Nat × Nat) := (49, 77, 85) :: lr_93
theorem lk_W_9 : Cond.methodLink RL 9 mt_D_init.1 ∈ xm_tb := xm_tb_in (in_t1 _ (List.mem_of_getElem? (i := 19) rfl)) rfl
theorem lk_W_12 : Cond.methodLink RL 12 mt_M_init.1 ∈ xm_tb := xm_tb_in (in_t6 _ (List.mem_of_getElem? (i := 144) rfl)) rfl
theorem lk_W_13 : Cond.methodLink RL 13 mt_D_point.1 ∈ xm_tb := xm_tb_in (in_t2 _ (List.mem_of_getElem? (i := 198) rfl)) rfl
theorem lk_W_17 : Cond.methodLink RL 17 mt_M_point.1 ∈ xm_tb := xm_tb_in (in_t7 _ (List.mem_of_getElem? (i := 144) rfl)) rfl
theorem lk_W_18 : Cond.methodLink RL 18 mt_D_move.1 ∈ xm_tb := xm_tb_in (in_t2 _ (List.mem_of_getElem? (i := 217) rfl)) rfl
theorem lk_W_22 : Cond.methodLink RL 22 mt_M_move.1 ∈ xm_tb := xm_tb_in (in_t7 _ (List.mem_of_getElem? (i := 155) rfl)) rfl
theorem lk_W_23 : Cond.methodLink RL 23 mt_D_tick.1 ∈ xm_tb := xm_tb_in (in_t2 _ (List.mem_of_getElem? (i := 231) rfl)) rfl
theorem lk_W_27 : Cond.methodLink RL 27 mt_M_tick.1 ∈ xm_tb := xm_tb_in (in_t7 _ (List.mem_of_getElem? (i := 166) rfl)) rfl
theorem lk_W_28 : Cond.methodLink RL 28 mt_D_at.1 ∈ xm_tb := xm_tb_in (in_t2 _ (List.mem_of_getElem? (i := 235) rfl)) rfl
theorem lk_W_31 : Cond.methodLink RL 31 mt_M_at.1 ∈ xm_tb := xm_tb_in (in_t7 _ (List.mem_of_getElem? (i := 170) rfl)) rfl
theorem lk_W_32 : Cond.methodLink RL 32 mt_D_object.1 ∈ xm_tb := xm_tb_in (in_t3 _ (List.mem_of_getElem? (i := 7) rfl)) rfl
theorem lk_W_36 : Cond.methodLink RL 36 mt_M_object.1 ∈ xm_tb := xm_tb_in (in_t7 _ (List.mem_of_getElem? (i := 182) rfl)) rfl
theorem lk_W_37 : Cond.methodLink RL 37 mt_D_corner.1 ∈ xm_tb := xm_tb_in (in_t3 _ (List.mem_of_getElem? (i := 21) rfl)) rfl
theorem lk_W_40 : Cond.methodLink RL 40 mt_M_corner.1 ∈ xm_tb := xm_tb_in (in_t7 _ (List.mem_of_getElem? (i := 191) rfl)) rfl
theorem lk_W_41 : Cond.methodLink RL 41 mt_D_area.1 ∈ xm_tb := xm_tb_in (in_t3 _ (List.mem_of_getElem? (i := 34) rfl)) rfl
theorem lk_W_45 : Cond.methodLink RL 45 mt_M_area.1 ∈ xm_tb := xm_tb_in (in_t7 _ (List.mem_of_getElem? (i := 195) rfl)) rfl
theorem lk_W_46 : Cond.methodLink RL 46 mt_D_style.1 ∈ xm_tb := xm_tb_in (in_t3 _ (List.mem_of_getElem? (i := 46) rfl)) rfl
theorem lk_W_49 : Cond.methodLink RL 49 mt_M_style.1 ∈ xm_tb := xm_tb_in (in_t7 _ (List.mem_of_getElem? (i := 200) rfl)) rfl
theorem lk_W_50 : Cond.methodLink RL 50 mt_D_hide.1 ∈ xm_tb := xm_tb_in (in_t3 _ (List.mem_of_getElem? (i := 63) rfl)) rfl
theorem lk_W_54 : Cond.methodLink RL 54 mt_M_hide.1 ∈ xm_tb := xm_tb_in (in_t7 _ (List.mem_of_getElem? (i := 209) rfl)) rfl
theorem lk_W_55 : Cond.methodLink RL 55 mt_D_fallen.1 ∈ xm_tb := xm_tb_in (in_t3 _ (List.mem_of_getElem? (i := 75) rfl)) rfl
theorem lk_W_58 : Cond.methodLink RL 58 mt_M_fallen.1 ∈ xm_tb := xm_tb_in (in_t7 _ (List.mem_of_getElem? (i := 214) rfl)) rfl
theorem lk_W_59 : Cond.methodLink RL 59 mt_D_measure.1 ∈ xm_tb := xm_tb_in (in_t3 _ (List.mem_of_getElem? (i := 109) rfl)) rfl
theorem lk_W_63 : Cond.methodLink RL 63 mt_M_measure.1 ∈ xm_tb := xm_tb_in (in_t7 _ (List.mem_of_getElem? (i := 238) rfl)) rfl
theorem lk_W_64 : Cond.methodLink RL 64 mt_D_window.1 ∈ xm_tb := xm_tb_in (in_t3 _ (List.mem_of_getElem? (i := 116) rfl)) rfl
theorem lk_W_67 : Cond.methodLink RL 67 mt_M_window.1 ∈ xm_tb := xm_tb_in (in_t8 _ (List.mem_of_getElem? (i := 3) rfl)) rfl
theorem lk_W_68 : Cond.methodLink RL 68 mt_D_fit.1 ∈ xm_tb := xm_tb_in (in_t3 _ (List.mem_of_getElem? (i := 135) rfl)) rfl
theorem lk_W_71 : Cond.methodLink RL 71 mt_M_fit.1 ∈ xm_tb := xm_tb_in (in_t8 _ (List.mem_of_getElem? (i := 12) rfl)) rfl
theorem lk_W_72 : Cond.methodLink RL 72 mt_D_side.1 ∈ xm_tb := xm_tb_in (in_t3 _ (List.mem_of_getElem? (i := 149) rfl)) rfl
theorem lk_W_75 : Cond.methodLink RL 75 mt_M_side.1 ∈ xm_tb := xm_tb_in (in_t8 _ (List.mem_of_getElem? (i := 16) rfl)) rfl
theorem lk_W_76 : Cond.methodLink RL 76 mt_D_sheet.1 ∈ xm_tb := xm_tb_in (in_t3 _ (List.mem_of_getElem? (i := 153) rfl)) rfl
theorem lk_W_79 : Cond.methodLink RL 79 mt_M_sheet.1 ∈ xm_tb := xm_tb_in (in_t8 _ (List.mem_of_getElem? (i := 20) rfl)) rfl
theorem lk_W_80 : Cond.methodLink RL 80 mt_D_grid.1 ∈ xm_tb := xm_tb_in (in_t3 _ (List.mem_of_getElem? (i := 161) rfl)) rfl
theorem lk_W_83 : Cond.methodLink RL 83 mt_M_grid.1 ∈ xm_tb := xm_tb_in (in_t8 _ (List.mem_of_getElem? (i := 27) rfl)) rfl
theorem lk_W_84 : Cond.methodLink RL 84 mt_D_hatch.1 ∈ xm_tb := xm_tb_in (in_t3 _ (List.mem_of_getElem? (i := 165) rfl)) rfl
theorem lk_W_87 : Cond.methodLink RL 87 mt_M_hatch.1 ∈ xm_tb := xm_tb_in (in_t8 _ (List.mem_of_getElem? (i := 32) rfl)) rfl
theorem lk_W_88 : Cond.methodLink RL 88 mt_D_scale.1 ∈ xm_tb := xm_tb_in (in_t3 _ (List.mem_of_getElem? (i := 169) rfl)) rfl
theorem lk_W_92 : Cond.methodLink RL 92 mt_M_scale.1 ∈ xm_tb := xm_tb_in (in_t8 _ (List.mem_of_getElem? (i := 38) rfl)) rfl
theorem lk_W_93 : Cond.methodLink RL 93 mt_D_single.1 ∈ xm_tb := xm_tb_in (in_t3 _ (List.mem_of_getElem? (i := 181) rfl)) rfl
theorem lk_W_97 : Cond.methodLink RL 97 mt_M_single.1 ∈ xm_tb := xm_tb_in (in_t8 _ (List.mem_of_getElem? (i := 49) rfl)) rfl
theorem lk_W_98 : Cond.methodLink RL 98 mt_D_solid.1 ∈ xm_tb := xm_tb_in (in_t3 _ (List.mem_of_getElem? (i := 207) rfl)) rfl
theorem lk_W_101 : Cond.methodLink RL 101 mt_M_solid.1 ∈ xm_tb := xm_tb_in (in_t8 _ (List.mem_of_getElem? (i := 59) rfl)) rfl
theorem lk_W_102 : Cond.methodLink RL 102 mt_D_vertex.1 ∈ xm_tb := xm_tb_in (in_t4 _ (List.mem_of_getElem? (i := 21) rfl)) rfl
theorem lk_W_105 : Cond.methodLink RL 105 mt_M_vertex.1 ∈ xm_tb := xm_tb_in (in_t8 _ (List.mem_of_getElem? (i := 64) rfl)) rfl
theorem lk_W_106 : Cond.methodLink RL 106 mt_D_face.1 ∈ xm_tb := xm_tb_in (in_t4 _ (List.mem_of_getElem? (i := 39) rfl)) rfl
theorem lk_W_109 : Cond.methodLink RL 109 mt_M_face.1 ∈ xm_tb := xm_tb_in (in_t8 _ (List.mem_of_getElem? (i := 72) rfl)) rfl
theorem lk_W_110 : Cond.methodLink RL 110 mt_D_view.1 ∈ xm_tb := xm_tb_in (in_t4 _ (List.mem_of_getElem? (i := 75) rfl)) rfl
theorem lk_W_113 : Cond.methodLink RL 113 mt_M_view.1 ∈ xm_tb := xm_tb_in (in_t8 _ (List.mem_of_getElem? (i := 76) rfl)) rfl
theorem lk_W_114 : Cond.methodLink RL 114 mt_D_edge.1 ∈ xm_tb := xm_tb_in (in_t4 _ (List.mem_of_getElem? (i := 79) rfl)) rfl
theorem lk_W_117 : Cond.methodLink RL 117 mt_M_edge.1 ∈ xm_tb := xm_tb_in (in_t8 _ (List.mem_of_getElem? (i := 81) rfl)) rfl
theorem lk_W_118 : Cond.methodLink RL 118 mt_D_label.1 ∈ xm_tb := xm_tb_in (in_t4 _ (List.mem_of_getElem? (i := 117) rfl)) rfl
theorem lk_W_121 : Cond.methodLink RL 121 mt_M_label.1 ∈ xm_tb := xm_tb_in (in_t9 _ (List.mem_of_getElem? (i := 32) rfl)) rfl
theorem lk_W_122 : Cond.methodLink RL 122 mt_D_draw.1 ∈ xm_tb := xm_tb_in (in_t4 _ (List.mem_of_getElem? (i := 131) rfl)) rfl
theorem lk_W_125 : Cond.methodLink RL 125 mt_M_draw.1 ∈ xm_tb := xm_tb_in (in_t8 _ (List.mem_of_getElem? (i := 97) rfl)) rfl
theorem lk_W_126 : Cond.methodLink RL 126 mt_D_mark.1 ∈ xm_tb := xm_tb_in (in_t6 _ (List.mem_of_getElem? (i := 46) rfl)) rfl
theorem lk_W_129 : Cond.methodLink RL 129 mt_M_mark.1 ∈ xm_tb := xm_tb_in (in_t9 _ (List.mem_of_getElem? (i := 37) rfl)) rfl
theorem lk_W_130 : Cond.methodLink RL 130 mt_D_placed.1 ∈ xm_tb := xm_tb_in (in_t6 _ (List.mem_of_getElem? (i := 52) rfl)) rfl
theorem lk_W_133 : Cond.methodLink RL 133 mt_M_placed.1 ∈ xm_tb := xm_tb_in (in_t9 _ (List.mem_of_getElem? (i := 41) rfl)) rfl
theorem lk_W_134 : Cond.methodLink RL 134 mt_D_octet.1 ∈ xm_tb := xm_tb_in (in_t6 _ (List.mem_of_getElem? (i := 61) rfl)) rfl
theorem lk_W_137 : Cond.methodLink RL 137 mt_M_octet.1 ∈ xm_tb := xm_tb_in (in_t9 _ (List.mem_of_getElem? (i := 45) rfl)) rfl
theorem lk_W_138 : Cond.methodLink RL 138 mt_D_digest.1 ∈ xm_tb := xm_tb_in (in_t6 _ (List.mem_of_getElem? (i := 73) rfl)) rfl
theorem lk_W_141 : Cond.methodLink RL 141 mt_M_digest.1 ∈ xm_tb := xm_tb_in (in_t9 _ (List.mem_of_getElem? (i := 49) rfl)) rfl
theorem lk_W_142 : Cond.methodLink RL 142 mt_D_count.1 ∈ xm_tb := xm_tb_in (in_t6 _ (List.mem_of_getElem? (i := 77) rfl)) rfl
theorem lk_W_145 : Cond.methodLink RL 145 mt_M_count.1 ∈ xm_tb := xm_tb_in (in_t9 _ (List.mem_of_getElem? (i := 53) rfl)) rfl
theorem lk_W_146 : Cond.methodLink RL 146 mt_D_code.1 ∈ xm_tb := xm_tb_in (in_t6 _ (List.mem_of_getElem? (i := 82) rfl)) rfl
theorem lk_W_149 : Cond.methodLink RL 149 mt_M_code.1 ∈ xm_tb := xm_tb_in (in_t9 _ (List.mem_of_getElem? (i := 57) rfl)) rfl
theorem lk_W_150 : Cond.methodLink RL 150 mt_D_group.1 ∈ xm_tb := xm_tb_in (in_t6 _ (List.mem_of_getElem? (i := 86) rfl)) rfl
theorem lk_W_153 : Cond.methodLink RL 153 mt_M_group.1 ∈ xm_tb := xm_tb_in (in_t9 _ (List.mem_of_getElem? (i := 61) rfl)) rfl
theorem lk_W_154 : Cond.methodLink RL 154 mt_D_put.1 ∈ xm_tb := xm_tb_in (in_t6 _ (List.mem_of_getElem? (i := 98) rfl)) rfl
theorem lk_W_157 : Cond.methodLink RL 157 mt_M_put.1 ∈ xm_tb := xm_tb_in (in_t9 _ (List.mem_of_getElem? (i := 66) rfl)) rfl
theorem lk_W_158 : Cond.methodLink RL 158 mt_D_member.1 ∈ xm_tb := xm_tb_in (in_t6 _ (List.mem_of_getElem? (i := 124) rfl)) rfl
theorem lk_W_161 : Cond.methodLink RL 161 mt_M_member.1 ∈ xm_tb := xm_tb_in (in_t9 _ (List.mem_of_getElem? (i := 70) rfl)) rfl
theorem lk_W_162 : Cond.methodLink RL 162 mt_D_paint.1 ∈ xm_tb := xm_tb_in (in_t6 _ (List.mem_of_getElem? (i := 132) rfl)) rfl
theorem lk_W_165 : Cond.methodLink RL 165 mt_M_paint.1 ∈ xm_tb := xm_tb_in (in_t9 _ (List.mem_of_getElem? (i := 74) rfl)) rfl
theorem lk_W_166 : Cond.methodLink RL 166 mt_D_reach.1 ∈ xm_tb := xm_tb_in (in_t6 _ (List.mem_of_getElem? (i := 137) rfl)) rfl
theorem lk_W_169 : Cond.methodLink RL 169 mt_M_reach.1 ∈ xm_tb := xm_tb_in (in_t9 _ (List.mem_of_getElem? (i := 78) rfl)) rfl
set_option maxHeartbeats 4000000 in
set_option maxRecDepth 100000 in
theorem t_Pt_init {sc : xm_I} (hsc : ∀ a, a < 1000 → ∀ k, sc a k = 0) : xm_C 1 mt_Pt_init [.ref 1] (IKl sc li_0, L0, RKl lr_0, 2) 4 240 (fun v h => v = none ∧ h = (IKl sc li_0, L0, RKl lr_4, 6)) := by
  refine xm_enter (by decide +kernel) dv_Pt_init (Nat.le_of_ble_eq_true rfl) ?_
  show xm_J 1 mt_Pt_init 0 [(0, .ref 1)] [] (IKl sc li_0, L0, RKl lr_0, 2) 4 240 _
  refine r_aload_n (i := 0) (k0 := 0) rfl rfl rfl ?_
  refine r_objInit (i := 1) rfl ct_oi_Pt ct_oi2 ct_oi3 (by decide) (Nat.le_of_ble_eq_true rfl) ?_
  refine r_aload_n (i := 2) (k0 := 0) rfl rfl rfl ?_
  refine r_bipush (v := 60) (i := 3) rfl (by decide) ?_
  refine q_newi (N := 60) (i := 4) rfl (KFz hsc rfl rfl) (by decide) rfl (by decide) (by decide) (by decide) ct_arr_int ?_
  refine k_putr (lr' := lr_1) (i := 5) rfl fl_Pt_11 rfl (fun _ => ⟨rfl, rfl⟩) (by decide) rfl rfl ?_
  refine r_aload_n (i := 6) (k0 := 0) rfl rfl rfl ?_
  refine r_bipush (v := 60) (i := 7) rfl (by decide) ?_
  refine q_newi (N := 60) (i := 8) rfl (KFz hsc rfl rfl) (by decide) rfl (by decide) (by decide) (by decide) ct_arr_int ?_
  refine k_putr (lr' := lr_2) (i := 9) rfl fl_Pt_15 rfl (fun _ => ⟨rfl, rfl⟩) (by decide) rfl rfl ?_
  refine r_aload_n (i := 10) (k0 := 0) rfl rfl rfl ?_
  refine r_bipush (v := 60) (i := 11) rfl (by decide) ?_
  refine q_newi (N := 60) (i := 12) rfl (KFz hsc rfl rfl) (by decide) rfl (by decide) (by decide) (by decide) ct_arr_int ?_
  refine k_putr (lr' := lr_3) (i := 13) rfl fl_Pt_18 rfl (fun _ => ⟨rfl, rfl⟩) (by decide) rfl rfl ?_
  refine r_aload_n (i := 14) (k0 := 0) rfl rfl rfl ?_
  refine r_bipush (v := 60) (i := 15) rfl (by decide) ?_
  refine q_newi (N := 60) (i := 16) rfl (KFz hsc rfl rfl) (by decide) rfl (by decide) (by decide) (by decide) ct_arr_int ?_
  refine k_putr (lr' := lr_4) (i := 17) rfl fl_Pt_21 rfl (fun _ => ⟨rfl, rfl⟩) (by decide) rfl rfl ?_
  exact r_return (i := 18) rfl rfl ⟨rfl, rfl⟩
set_option maxHeartbeats 4000000 in
set_option maxRecDepth 100000 in
theorem t_Fg_init {sc : xm_I} (hsc : ∀ a, a < 1000 → ∀ k, sc a k = 0) : xm_C 1 mt_Fg_init [.ref 6, .ref 1] (IKl sc li_0, L0, RKl lr_5, 7) 7 662 (fun v h => v = none ∧ h = (IKl sc li_0, L0, RKl lr_13, 14)) := by
  refine xm_enter (by decide +kernel) dv_Fg_init (Nat.le_of_ble_eq_true rfl) ?_
  show xm_J 1 mt_Fg_init 0 [(0, .ref 6), (1, .ref 1)] [] (IKl sc li_0, L0, RKl lr_5, 7) 7 662 _
  refine r_aload_n (i := 0) (k0 := 0) rfl rfl rfl ?_
  refine r_objInit (i := 1) rfl ct_oi_Fg ct_oi2 ct_oi3 (by decide) (Nat.le_of_ble_eq_true rfl) ?_
  refine r_aload_n (i := 2) (k0 := 0) rfl rfl rfl ?_
  refine r_bipush (v := 40) (i := 3) rfl (by decide) ?_
  refine q_newi (N := 40) (i := 4) rfl (KFz hsc rfl rfl) (by decide) rfl (by decide) (by decide) (by decide) ct_arr_int ?_
  refine k_putr (lr' := lr_6) (i := 5) rfl fl_Fg_11 rfl (fun _ => ⟨rfl, rfl⟩) (by decide) rfl rfl ?_
  refine r_aload_n (i := 6) (k0 := 0) rfl rfl rfl ?_
  refine r_bipush (v := 40) (i := 7) rfl (by decide) ?_
  refine q_newi (N := 40) (i := 8) rfl (KFz hsc rfl rfl) (by decide) rfl (by decide) (by decide) (by decide) ct_arr_int ?_
  refine k_putr (lr' := lr_7) (i := 9) rfl fl_Fg_15 rfl (fun _ => ⟨rfl, rfl⟩) (by decide) rfl rfl ?_
  refine r_aload_n (i := 10) (k0 := 0) rfl rfl rfl ?_
  refine r_bipush (v := 40) (i := 11) rfl (by decide) ?_
  refine q_newi (N := 40) (i := 12) rfl (KFz hsc rfl rfl) (by decide) rfl (by decide) (by decide) (by decide) ct_arr_int ?_
  refine k_putr (lr' := lr_8) (i := 13) rfl fl_Fg_18 rfl (fun _ => ⟨rfl, rfl⟩) (by decide) rfl rfl ?_
  refine r_aload_n (i := 14) (k0 := 0) rfl rfl rfl ?_
  refine r_bipush (v := 40) (i := 15) rfl (by decide) ?_
  refine q_newi (N := 40) (i := 16) rfl (KFz hsc rfl rfl) (by decide) rfl (by decide) (by decide) (by decide) ct_arr_int ?_
  refine k_putr (lr' := lr_9) (i := 17) rfl fl_Fg_21 rfl (fun _ => ⟨rfl, rfl⟩) (by decide) rfl rfl ?_
  refine r_aload_n (i := 18) (k0 := 0) rfl rfl rfl ?_
  refine r_sipush (v := 480) (i := 19) rfl (by decide) ?_
  refine q_newi (N := 480) (i := 20) rfl (KFz hsc rfl rfl) (by decide) rfl (by decide) (by decide) (by decide) ct_arr_int ?_
  refine k_putr (lr' := lr_10) (i := 21) rfl fl_Fg_24 rfl (fun _ => ⟨rfl, rfl⟩) (by decide) rfl rfl ?_
  refine r_aload_n (i := 22) (k0 := 0) rfl rfl rfl ?_
  refine r_bipush (v := 10) (i := 23) rfl (by decide) ?_
  refine q_newz (N := 10) (i := 24) rfl (KFz hsc rfl rfl) (by decide) rfl (by decide) (by decide) (by decide) ct_arr_boolean ?_
  refine k_putr (lr' := lr_11) (i := 25) rfl fl_Fg_27 rfl (fun _ => ⟨rfl, rfl⟩) (by decide) rfl rfl ?_
  refine r_aload_n (i := 26) (k0 := 0) rfl rfl rfl ?_
  refine r_bipush (v := 12) (i := 27) rfl (by decide) ?_
  refine q_newi (N := 12) (i := 28) rfl (KFz hsc rfl rfl) (by decide) rfl (by decide) (by decide) (by decide) ct_arr_int ?_
  refine k_putr (lr' := lr_12) (i := 29) rfl fl_Fg_31 rfl (fun _ => ⟨rfl, rfl⟩) (by decide) rfl rfl ?_
  refine r_aload_n (i := 30) (k0 := 0) rfl rfl rfl ?_
  refine r_aload_n (i := 31) (k0 := 1) rfl rfl rfl ?_
  refine k_putr (lr' := lr_13) (i := 32) rfl fl_Fg_34 rfl (fun _ => ⟨rfl, rfl⟩) (by decide) rfl rfl ?_
  exact r_return (i := 33) rfl rfl ⟨rfl, rfl⟩
set_option maxHeartbeats 4000000 in
set_option maxRecDepth 100000 in
theorem t_Fr_init {sc : xm_I} (hsc : ∀ a, a < 1000 → ∀ k, sc a k = 0) : xm_C 1 mt_Fr_init [.ref 14] (IKl sc li_0, L0, RKl lr_14, 15) 0 0 (fun v h => v = none ∧ h = (IKl sc li_11, L0, RKl lr_14, 15)) := by
  refine xm_enter (by decide +kernel) dv_Fr_init (Nat.le_of_ble_eq_true rfl) ?_
  show xm_J 1 mt_Fr_init 0 [(0, .ref 14)] [] (IKl sc li_0, L0, RKl lr_14, 15) 0 0 _
  refine r_aload_n (i := 0) (k0 := 0) rfl rfl rfl ?_
  refine r_objInit (i := 1) rfl ct_oi_Fr ct_oi2 ct_oi3 (by decide) (Nat.le_of_ble_eq_true rfl) ?_
  refine r_aload_n (i := 2) (k0 := 0) rfl rfl rfl ?_
  refine r_iconst (v := 0) (i := 3) rfl (by decide) ?_
  refine k_puti (li' := li_1) (i := 4) rfl fl_Fr_7 (fun h => Bool.noConfusion h) (by decide) rfl rfl ?_
  refine r_aload_n (i := 5) (k0 := 0) rfl rfl rfl ?_
  refine r_bipush (v := 100) (i := 6) rfl (by decide) ?_
  refine k_puti (li' := li_2) (i := 7) rfl fl_Fr_13 (fun h => Bool.noConfusion h) (by decide) rfl rfl ?_
  refine r_aload_n (i := 8) (k0 := 0) rfl rfl rfl ?_
  refine r_iconst (v := 0) (i := 9) rfl (by decide) ?_
  refine k_puti (li' := li_3) (i := 10) rfl fl_Fr_16 (fun h => Bool.noConfusion h) (by decide) rfl rfl ?_
  refine r_aload_n (i := 11) (k0 := 0) rfl rfl rfl ?_
  refine r_bipush (v := 100) (i := 12) rfl (by decide) ?_
  refine k_puti (li' := li_4) (i := 13) rfl fl_Fr_19 (fun h => Bool.noConfusion h) (by decide) rfl rfl ?_
  refine r_aload_n (i := 14) (k0 := 0) rfl rfl rfl ?_
  refine r_bipush (v := 100) (i := 15) rfl (by decide) ?_
  refine k_puti (li' := li_5) (i := 16) rfl fl_Fr_22 (fun h => Bool.noConfusion h) (by decide) rfl rfl ?_
  refine r_aload_n (i := 17) (k0 := 0) rfl rfl rfl ?_
  refine r_bipush (v := 100) (i := 18) rfl (by decide) ?_
  refine k_puti (li' := li_6) (i := 19) rfl fl_Fr_25 (fun h => Bool.noConfusion h) (by decide) rfl rfl ?_
  refine r_aload_n (i := 20) (k0 := 0) rfl rfl rfl ?_
  refine r_iconst (v := 0) (i := 21) rfl (by decide) ?_
  refine k_puti (li' := li_7) (i := 22) rfl fl_Fr_28 (fun h => Bool.noConfusion h) (by decide) rfl rfl ?_
  refine r_aload_n (i := 23) (k0 := 0) rfl rfl rfl ?_
  refine r_iconst (v := 0) (i := 24) rfl (by decide) ?_
  refine k_puti (li' := li_8) (i := 25) rfl fl_Fr_31 (fun h => Bool.noConfusion h) (by decide) rfl rfl ?_
  refine r_aload_n (i := 26) (k0 := 0) rfl rfl rfl ?_
  refine r_bipush (v := 10) (i := 27) rfl (by decide) ?_
  refine k_puti (li' := li_9) (i := 28) rfl fl_Fr_34 (fun h => Bool.noConfusion h) (by decide) rfl rfl ?_
  refine r_aload_n (i := 29) (k0 := 0) rfl rfl rfl ?_
  refine r_iconst (v := 1) (i := 30) rfl (by decide) ?_
  refine k_puti (li' := li_10) (i := 31) rfl fl_Fr_37 (fun h => Bool.noConfusion h) (by decide) rfl rfl ?_
  refine r_aload_n (i := 32) (k0 := 0) rfl rfl rfl ?_
  refine r_iconst (v := 1) (i := 33) rfl (by decide) ?_
  refine k_puti (li' := li_11) (i := 34) rfl fl_Fr_40 (fun h => Bool.noConfusion h) (by decide) rfl rfl ?_
  exact r_return (i := 35) rfl rfl ⟨rfl, rfl⟩
set_option maxHeartbeats 4000000 in
set_option maxRecDepth 100000 in
theorem t_Ss_init {sc : xm_I} (hsc : ∀ a, a < 1000 → ∀ k, sc a k = 0) : xm_C 1 mt_Ss_init [.ref 15] (IKl sc li_11, L0, RKl lr_15, 16) 1 4 (fun v h => v = none ∧ h = (IKl sc li_11, L0, RKl lr_16, 17)) := by
  refine xm_enter (by decide +kernel) dv_Ss_init (Nat.le_of_ble_eq_true rfl) ?_
  show xm_J 1 mt_Ss_init 0 [(0, .ref 15)] [] (IKl sc li_11, L0, RKl lr_15, 16) 1 4 _
  refine r_aload_n (i := 0) (k0 := 0) rfl rfl rfl ?_
  refine r_objInit (i := 1) rfl ct_oi_Ss ct_oi2 ct_oi3 (by decide) (Nat.le_of_ble_eq_true rfl) ?_
  refine r_aload_n (i := 2) (k0 := 0) rfl rfl rfl ?_
  refine r_iconst (v := 4) (i := 3) rfl (by decide) ?_
  refine q_newq (N := 4) (i := 4) rfl (KFz hsc rfl rfl) (by decide) rfl (by decide) (by decide) (by decide) ct_cl_Ss_11 ct_arr_q ?_
  refine k_putr (lr' := lr_16) (i := 5) rfl fl_Ss_13 rfl (fun _ => ⟨rfl, rfl⟩) (by decide) rfl rfl ?_
  exact r_return (i := 6) rfl rfl ⟨rfl, rfl⟩
set_option maxHeartbeats 4000000 in
set_option maxRecDepth 100000 in
theorem t_Mk_init {sc : xm_I} (hsc : ∀ a, a < 1000 → ∀ k, sc a k = 0) : xm_C 1 mt_Mk_init [.ref 17] (IKl sc li_11, L0, RKl lr_17, 18) 3 4262 (fun v h => v = none ∧ h = (IKl sc li_12, L0, RKl lr_20, 21)) := by
  refine xm_enter (by decide +kernel) dv_Mk_init (Nat.le_of_ble_eq_true rfl) ?_
  show xm_J 1 mt_Mk_init 0 [(0, .ref 17)] [] (IKl sc li_11, L0, RKl lr_17, 18) 3 4262 _
  refine r_aload_n (i := 0) (k0 := 0) rfl rfl rfl ?_
  refine r_objInit (i := 1) rfl ct_oi_Mk ct_oi2 ct_oi3 (by decide) (Nat.le_of_ble_eq_true rfl) ?_
  refine r_aload_n (i := 2) (k0 := 0) rfl rfl rfl ?_
  refine r_sipush (v := 3600) (i := 3) rfl (by decide) ?_
  refine q_newi (N := 3600) (i := 4) rfl (KFz hsc rfl rfl) (by decide) rfl (by decide) (by decide) (by decide) ct_arr_int ?_
  refine k_putr (lr' := lr_18) (i := 5) rfl fl_Mk_11 rfl (fun _ => ⟨rfl, rfl⟩) (by decide) rfl rfl ?_
  refine r_aload_n (i := 6) (k0 := 0) rfl rfl rfl ?_
  refine r_sipush (v := 600) (i := 7) rfl (by decide) ?_
  refine q_newi (N := 600) (i := 8) rfl (KFz hsc rfl rfl) (by decide) rfl (by decide) (by decide) (by decide) ct_arr_int ?_
  refine k_putr (lr' := lr_19) (i := 9) rfl fl_Mk_15 rfl (fun _ => ⟨rfl, rfl⟩) (by decide) rfl rfl ?_
  refine r_aload_n (i := 10) (k0 := 0) rfl rfl rfl ?_
  refine r_bipush (v := 62) (i := 11) rfl (by decide) ?_
  refine q_newi (N := 62) (i := 12) rfl (KFz hsc rfl rfl) (by decide) rfl (by decide) (by decide) (by decide) ct_arr_int ?_
  refine k_putr (lr' := lr_20) (i := 13) rfl fl_Mk_18 rfl (fun _ => ⟨rfl, rfl⟩) (by decide) rfl rfl ?_
  refine r_aload_n (i := 14) (k0 := 0) rfl rfl rfl ?_
  refine r_bipush (v := 17) (i := 15) rfl (by decide) ?_
  refine k_puti (li' := li_12) (i := 16) rfl fl_Mk_21 (fun h => Bool.noConfusion h) (by decide) rfl rfl ?_
  exact r_return (i := 17) rfl rfl ⟨rfl, rfl⟩
set_option maxHeartbeats 4000000 in
set_option maxRecDepth 100000 in
theorem t_Lb_init {sc : xm_I} (hsc : ∀ a, a < 1000 → ∀ k, sc a k = 0) : xm_C 1 mt_Lb_init [.ref 21] (IKl sc li_12, L0, RKl lr_21, 22) 3 60 (fun v h => v = none ∧ h = (IKl sc li_12, L0, RKl lr_24, 25)) := by
  refine xm_enter (by decide +kernel) dv_Lb_init (Nat.le_of_ble_eq_true rfl) ?_
  show xm_J 1 mt_Lb_init 0 [(0, .ref 21)] [] (IKl sc li_12, L0, RKl lr_21, 22) 3 60 _
  refine r_aload_n (i := 0) (k0 := 0) rfl rfl rfl ?_
  refine r_objInit (i := 1) rfl ct_oi_Lb ct_oi2 ct_oi3 (by decide) (Nat.le_of_ble_eq_true rfl) ?_
  refine r_aload_n (i := 2) (k0 := 0) rfl rfl rfl ?_
  refine r_bipush (v := 20) (i := 3) rfl (by decide) ?_
  refine q_newi (N := 20) (i := 4) rfl (KFz hsc rfl rfl) (by decide) rfl (by decide) (by decide) (by decide) ct_arr_int ?_
  refine k_putr (lr' := lr_22) (i := 5) rfl fl_Lb_11 rfl (fun _ => ⟨rfl, rfl⟩) (by decide) rfl rfl ?_
  refine r_aload_n (i := 6) (k0 := 0) rfl rfl rfl ?_
  refine r_bipush (v := 20) (i := 7) rfl (by decide) ?_
  refine q_newi (N := 20) (i := 8) rfl (KFz hsc rfl rfl) (by decide) rfl (by decide) (by decide) (by decide) ct_arr_int ?_
  refine k_putr (lr' := lr_23) (i := 9) rfl fl_Lb_15 rfl (fun _ => ⟨rfl, rfl⟩) (by decide) rfl rfl ?_
  refine r_aload_n (i := 10) (k0 := 0) rfl rfl rfl ?_
  refine r_bipush (v := 20) (i := 11) rfl (by decide) ?_
  refine q_newi (N := 20) (i := 12) rfl (KFz hsc rfl rfl) (by decide) rfl (by decide) (by decide) (by decide) ct_arr_int ?_
  refine k_putr (lr' := lr_24) (i := 13) rfl fl_Lb_18 rfl (fun _ => ⟨rfl, rfl⟩) (by decide) rfl rfl ?_
  exact r_return (i := 14) rfl rfl ⟨rfl, rfl⟩
set_option maxHeartbeats 4000000 in
set_option maxRecDepth 100000 in
theorem t_Gr_init {sc : xm_I} (hsc : ∀ a, a < 1000 → ∀ k, sc a k = 0) : xm_C 1 mt_Gr_init [.ref 25] (IKl sc li_12, L0, RKl lr_25, 26) 4 402 (fun v h => v = none ∧ h = (IKl sc li_12, L0, RKl lr_29, 30)) := by
  refine xm_enter (by decide +kernel) dv_Gr_init (Nat.le_of_ble_eq_true rfl) ?_
  show xm_J 1 mt_Gr_init 0 [(0, .ref 25)] [] (IKl sc li_12, L0, RKl lr_25, 26) 4 402 _
  refine r_aload_n (i := 0) (k0 := 0) rfl rfl rfl ?_
  refine r_objInit (i := 1) rfl ct_oi_Gr ct_oi2 ct_oi3 (by decide) (Nat.le_of_ble_eq_true rfl) ?_
  refine r_aload_n (i := 2) (k0 := 0) rfl rfl rfl ?_
  refine r_bipush (v := 6) (i := 3) rfl (by decide) ?_
  refine q_newz (N := 6) (i := 4) rfl (KFz hsc rfl rfl) (by decide) rfl (by decide) (by decide) (by decide) ct_arr_boolean ?_
  refine k_putr (lr' := lr_26) (i := 5) rfl fl_Gr_11 rfl (fun _ => ⟨rfl, rfl⟩) (by decide) rfl rfl ?_
  refine r_aload_n (i := 6) (k0 := 0) rfl rfl rfl ?_
  refine r_bipush (v := 6) (i := 7) rfl (by decide) ?_
  refine q_newi (N := 6) (i := 8) rfl (KFz hsc rfl rfl) (by decide) rfl (by decide) (by decide) (by decide) ct_arr_int ?_
  refine k_putr (lr' := lr_27) (i := 9) rfl fl_Gr_15 rfl (fun _ => ⟨rfl, rfl⟩) (by decide) rfl rfl ?_
  refine r_aload_n (i := 10) (k0 := 0) rfl rfl rfl ?_
  refine r_bipush (v := 6) (i := 11) rfl (by decide) ?_
  refine q_newi (N := 6) (i := 12) rfl (KFz hsc rfl rfl) (by decide) rfl (by decide) (by decide) (by decide) ct_arr_int ?_
  refine k_putr (lr' := lr_28) (i := 13) rfl fl_Gr_19 rfl (fun _ => ⟨rfl, rfl⟩) (by decide) rfl rfl ?_
  refine r_aload_n (i := 14) (k0 := 0) rfl rfl rfl ?_
  refine r_sipush (v := 384) (i := 15) rfl (by decide) ?_
  refine q_newi (N := 384) (i := 16) rfl (KFz hsc rfl rfl) (by decide) rfl (by decide) (by decide) (by decide) ct_arr_int ?_
  refine k_putr (lr' := lr_29) (i := 17) rfl fl_Gr_22 rfl (fun _ => ⟨rfl, rfl⟩) (by decide) rfl rfl ?_
  exact r_return (i := 18) rfl rfl ⟨rfl, rfl⟩
set_option maxHeartbeats 4000000 in
set_option maxRecDepth 100000 in
theorem t_Cu_init {sc : xm_I} (hsc : ∀ a, a < 1000 → ∀ k, sc a k = 0) : xm_C 1 mt_Cu_init [.ref 38, .ref 14] (IKl sc li_12, L0, RKl lr_41, 39) 0 0 (fun v h => v = none ∧ h = (IKl sc li_12, L0, RKl lr_42, 39)) := by
  refine xm_enter (by decide +kernel) dv_Cu_init (Nat.le_of_ble_eq_true rfl) ?_
  show xm_J 1 mt_Cu_init 0 [(0, .ref 38), (1, .ref 14)] [] (IKl sc li_12, L0, RKl lr_41, 39) 0 0 _
  refine r_aload_n (i := 0) (k0 := 0) rfl rfl rfl ?_
  refine r_objInit (i := 1) rfl ct_oi_Cu ct_oi2 ct_oi3 (by decide) (Nat.le_of_ble_eq_true rfl) ?_
  refine r_aload_n (i := 2) (k0 := 0) rfl rfl rfl ?_
  refine r_aload_n (i := 3) (k0 := 1) rfl rfl rfl ?_
  refine k_putr (lr' := lr_42) (i := 4) rfl fl_Cu_7 rfl (fun _ => ⟨rfl, rfl⟩) (by decide) rfl rfl ?_
  exact r_return (i := 5) rfl rfl ⟨rfl, rfl⟩
set_option maxHeartbeats 4000000 in
set_option maxRecDepth 100000 in
theorem t_Pn_init {sc : xm_I} (hsc : ∀ a, a < 1000 → ∀ k, sc a k = 0) : xm_C 2 mt_Pn_init [.ref 30, .ref 6, .ref 1, .ref 14, .ref 17] (IKl sc li_12, L0, RKl lr_30, 31) 8 177 (fun v h => v = none ∧ h = (IKl sc li_12, L0, RKl lr_43, 39)) := by
  refine xm_enter (by decide +kernel) dv_Pn_init (Nat.le_of_ble_eq_true rfl) ?_
  show xm_J 2 mt_Pn_init 0 [(0, .ref 30), (1, .ref 6), (2, .ref 1), (3, .ref 14), (4, .ref 17)] [] (IKl sc li_12, L0, RKl lr_30, 31) 8 177 _
  refine r_aload_n (i := 0) (k0 := 0) rfl rfl rfl ?_
  refine r_objInit (i := 1) rfl ct_oi_Pn ct_oi2 ct_oi3 (by decide) (Nat.le_of_ble_eq_true rfl) ?_
  refine r_aload_n (i := 2) (k0 := 0) rfl rfl rfl ?_
  refine r_bipush (v := 40) (i := 3) rfl (by decide) ?_
  refine q_newz (N := 40) (i := 4) rfl (KFz hsc rfl rfl) (by decide) rfl (by decide) (by decide) (by decide) ct_arr_boolean ?_
  refine k_putr (lr' := lr_31) (i := 5) rfl fl_Pn_9 rfl (fun _ => ⟨rfl, rfl⟩) (by decide) rfl rfl ?_
  refine r_aload_n (i := 6) (k0 := 0) rfl rfl rfl ?_
  refine r_bipush (v := 40) (i := 7) rfl (by decide) ?_
  refine q_newi (N := 40) (i := 8) rfl (KFz hsc rfl rfl) (by decide) rfl (by decide) (by decide) (by decide) ct_arr_int ?_
  refine k_putr (lr' := lr_32) (i := 9) rfl fl_Pn_15 rfl (fun _ => ⟨rfl, rfl⟩) (by decide) rfl rfl ?_
  refine r_aload_n (i := 10) (k0 := 0) rfl rfl rfl ?_
  refine r_bipush (v := 40) (i := 11) rfl (by decide) ?_
  refine q_newi (N := 40) (i := 12) rfl (KFz hsc rfl rfl) (by decide) rfl (by decide) (by decide) (by decide) ct_arr_int ?_
  refine k_putr (lr' := lr_33) (i := 13) rfl fl_Pn_19 rfl (fun _ => ⟨rfl, rfl⟩) (by decide) rfl rfl ?_
  refine r_aload_n (i := 14) (k0 := 0) rfl rfl rfl ?_
  refine r_bipush (v := 12) (i := 15) rfl (by decide) ?_
  refine q_newi (N := 12) (i := 16) rfl (KFz hsc rfl rfl) (by decide) rfl (by decide) (by decide) (by decide) ct_arr_int ?_
  refine k_putr (lr' := lr_34) (i := 17) rfl fl_Pn_22 rfl (fun _ => ⟨rfl, rfl⟩) (by decide) rfl rfl ?_
  refine r_aload_n (i := 18) (k0 := 0) rfl rfl rfl ?_
  refine r_bipush (v := 12) (i := 19) rfl (by decide) ?_
  refine q_newi (N := 12) (i := 20) rfl (KFz hsc rfl rfl) (by decide) rfl (by decide) (by decide) (by decide) ct_arr_int ?_
  refine k_putr (lr' := lr_35) (i := 21) rfl fl_Pn_25 rfl (fun _ => ⟨rfl, rfl⟩) (by decide) rfl rfl ?_
  refine r_aload_n (i := 22) (k0 := 0) rfl rfl rfl ?_
  refine r_bipush (v := 12) (i := 23) rfl (by decide) ?_
  refine q_newl (N := 12) (i := 24) rfl (KFz hsc rfl rfl) (by decide) rfl (by decide) (by decide) (by decide) ct_arr_long ?_
  refine k_putr (lr' := lr_36) (i := 25) rfl fl_Pn_28 rfl (fun _ => ⟨rfl, rfl⟩) (by decide) rfl rfl ?_
  refine r_aload_n (i := 26) (k0 := 0) rfl rfl rfl ?_
  refine r_bipush (v := 12) (i := 27) rfl (by decide) ?_
  refine q_newl (N := 12) (i := 28) rfl (KFz hsc rfl rfl) (by decide) rfl (by decide) (by decide) (by decide) ct_arr_long ?_
  refine k_putr (lr' := lr_37) (i := 29) rfl fl_Pn_32 rfl (fun _ => ⟨rfl, rfl⟩) (by decide) rfl rfl ?_
  refine r_aload_n (i := 30) (k0 := 0) rfl rfl rfl ?_
  refine r_aload_n (i := 31) (k0 := 1) rfl rfl rfl ?_
  refine k_putr (lr' := lr_38) (i := 32) rfl fl_Pn_35 rfl (fun _ => ⟨rfl, rfl⟩) (by decide) rfl rfl ?_
  refine r_aload_n (i := 33) (k0 := 0) rfl rfl rfl ?_
  refine r_aload_n (i := 34) (k0 := 2) rfl rfl rfl ?_
  refine k_putr (lr' := lr_39) (i := 35) rfl fl_Pn_39 rfl (fun _ => ⟨rfl, rfl⟩) (by decide) rfl rfl ?_
  refine r_aload_n (i := 36) (k0 := 0) rfl rfl rfl ?_
  refine r_aload_n (i := 37) (k0 := 3) rfl rfl rfl ?_
  refine k_putr (lr' := lr_40) (i := 38) rfl fl_Pn_43 rfl (fun _ => ⟨rfl, rfl⟩) (by decide) rfl rfl ?_
  refine r_aload_n (i := 39) (k0 := 0) rfl rfl rfl ?_
  refine r_aload (i := 40) (k0 := 4) rfl rfl ?_
  refine k_putr (lr' := lr_41) (i := 41) rfl fl_Pn_47 rfl (fun _ => ⟨rfl, rfl⟩) (by decide) rfl rfl ?_
  refine r_aload_n (i := 42) (k0 := 0) rfl rfl rfl ?_
  refine q_new (kc := 0) (ks := 0) (i := 43) rfl (KFz hsc rfl rfl) (by decide) rfl kl_0 ct_cl_Pn_51 ct_in_0 ct_ini_0 ct_ty_0 ?_
  refine r_dup (i := 44) rfl rfl ?_
  refine r_aload_n (i := 45) (k0 := 3) rfl rfl rfl ?_
  refine r_callI (i := 46) (As := [.ref 14]) (rest := [.ref 38, .ref 30]) rfl ok_Cu_init rfl rfl lk_Pn_53 im_Cu_init (t_Cu_init hsc) (Nat.le_of_ble_eq_true rfl) (by decide) rfl (Nat.le_of_ble_eq_true rfl) (kc' := 0) (ks' := 0) rfl rfl (fun v h2 hq => ?_)
  obtain ⟨rfl, rfl⟩ := hq
  refine k_putr (lr' := lr_43) (i := 47) rfl fl_Pn_56 rfl (fun _ => ⟨rfl, rfl⟩) (by decide) rfl rfl ?_
  exact r_return (i := 48) rfl rfl ⟨rfl, rfl⟩
set_option maxHeartbeats 4000000 in
set_option maxRecDepth 100000 in
theorem t_Pl_init {sc : xm_I} (hsc : ∀ a, a < 1000 → ∀ k, sc a k = 0) : xm_C 1 mt_Pl_init [.ref 39, .ref 21, .ref 30, .ref 17, .ref 14] (IKl sc li_12, L0, RKl lr_44, 40) 9 560 (fun v h => v = none ∧ h = (IKl sc li_12, L0, RKl lr_57, 49)) := by
  refine xm_enter (by decide +kernel) dv_Pl_init (Nat.le_of_ble_eq_true rfl) ?_
  show xm_J 1 mt_Pl_init 0 [(0, .ref 39), (1, .ref 21), (2, .ref 30), (3, .ref 17), (4, .ref 14)] [] (IKl sc li_12, L0, RKl lr_44, 40) 9 560 _
  refine r_aload_n (i := 0) (k0 := 0) rfl rfl rfl ?_
  refine r_objInit (i := 1) rfl ct_oi_Pl ct_oi2 ct_oi3 (by decide) (Nat.le_of_ble_eq_true rfl) ?_
  refine r_aload_n (i := 2) (k0 := 0) rfl rfl rfl ?_
  refine r_bipush (v := 20) (i := 3) rfl (by decide) ?_
  refine q_newi (N := 20) (i := 4) rfl (KFz hsc rfl rfl) (by decide) rfl (by decide) (by decide) (by decide) ct_arr_int ?_
  refine k_putr (lr' := lr_45) (i := 5) rfl fl_Pl_11 rfl (fun _ => ⟨rfl, rfl⟩) (by decide) rfl rfl ?_
  refine r_aload_n (i := 6) (k0 := 0) rfl rfl rfl ?_
  refine r_bipush (v := 20) (i := 7) rfl (by decide) ?_
  refine q_newi (N := 20) (i := 8) rfl (KFz hsc rfl rfl) (by decide) rfl (by decide) (by decide) (by decide) ct_arr_int ?_
  refine k_putr (lr' := lr_46) (i := 9) rfl fl_Pl_15 rfl (fun _ => ⟨rfl, rfl⟩) (by decide) rfl rfl ?_
  refine r_aload_n (i := 10) (k0 := 0) rfl rfl rfl ?_
  refine r_bipush (v := 20) (i := 11) rfl (by decide) ?_
  refine q_newi (N := 20) (i := 12) rfl (KFz hsc rfl rfl) (by decide) rfl (by decide) (by decide) (by decide) ct_arr_int ?_
  refine k_putr (lr' := lr_47) (i := 13) rfl fl_Pl_18 rfl (fun _ => ⟨rfl, rfl⟩) (by decide) rfl rfl ?_
  refine r_aload_n (i := 14) (k0 := 0) rfl rfl rfl ?_
  refine r_sipush (v := 160) (i := 15) rfl (by decide) ?_
  refine q_newi (N := 160) (i := 16) rfl (KFz hsc rfl rfl) (by decide) rfl (by decide) (by decide) (by decide) ct_arr_int ?_
  refine k_putr (lr' := lr_48) (i := 17) rfl fl_Pl_21 rfl (fun _ => ⟨rfl, rfl⟩) (by decide) rfl rfl ?_
  refine r_aload_n (i := 18) (k0 := 0) rfl rfl rfl ?_
  refine r_sipush (v := 160) (i := 19) rfl (by decide) ?_
  refine q_newi (N := 160) (i := 20) rfl (KFz hsc rfl rfl) (by decide) rfl (by decide) (by decide) (by decide) ct_arr_int ?_
  refine k_putr (lr' := lr_49) (i := 21) rfl fl_Pl_24 rfl (fun _ => ⟨rfl, rfl⟩) (by decide) rfl rfl ?_
  refine r_aload_n (i := 22) (k0 := 0) rfl rfl rfl ?_
  refine r_sipush (v := 160) (i := 23) rfl (by decide) ?_
  refine q_newi (N := 160) (i := 24) rfl (KFz hsc rfl rfl) (by decide) rfl (by decide) (by decide) (by decide) ct_arr_int ?_
  refine k_putr (lr' := lr_50) (i := 25) rfl fl_Pl_27 rfl (fun _ => ⟨rfl, rfl⟩) (by decide) rfl rfl ?_
  refine r_aload_n (i := 26) (k0 := 0) rfl rfl rfl ?_
  refine r_bipush (v := 6) (i := 27) rfl (by decide) ?_
  refine q_newi (N := 6) (i := 28) rfl (KFz hsc rfl rfl) (by decide) rfl (by decide) (by decide) (by decide) ct_arr_int ?_
  refine k_putr (lr' := lr_51) (i := 29) rfl fl_Pl_30 rfl (fun _ => ⟨rfl, rfl⟩) (by decide) rfl rfl ?_
  refine r_aload_n (i := 30) (k0 := 0) rfl rfl rfl ?_
  refine r_bipush (v := 7) (i := 31) rfl (by decide) ?_
  refine q_newi (N := 7) (i := 32) rfl (KFz hsc rfl rfl) (by decide) rfl (by decide) (by decide) (by decide) ct_arr_int ?_
  refine k_putr (lr' := lr_52) (i := 33) rfl fl_Pl_33 rfl (fun _ => ⟨rfl, rfl⟩) (by decide) rfl rfl ?_
  refine r_aload_n (i := 34) (k0 := 0) rfl rfl rfl ?_
  refine r_bipush (v := 7) (i := 35) rfl (by decide) ?_
  refine q_newi (N := 7) (i := 36) rfl (KFz hsc rfl rfl) (by decide) rfl (by decide) (by decide) (by decide) ct_arr_int ?_
  refine k_putr (lr' := lr_53) (i := 37) rfl fl_Pl_36 rfl (fun _ => ⟨rfl, rfl⟩) (by decide) rfl rfl ?_
  refine r_aload_n (i := 38) (k0 := 0) rfl rfl rfl ?_
  refine r_aload_n (i := 39) (k0 := 1) rfl rfl rfl ?_
  refine k_putr (lr' := lr_54) (i := 40) rfl fl_Pl_39 rfl (fun _ => ⟨rfl, rfl⟩) (by decide) rfl rfl ?_
  refine r_aload_n (i := 41) (k0 := 0) rfl rfl rfl ?_
  refine r_aload_n (i := 42) (k0 := 2) rfl rfl rfl ?_
  refine k_putr (lr' := lr_55) (i := 43) rfl fl_Pl_43 rfl (fun _ => ⟨rfl, rfl⟩) (by decide) rfl rfl ?_
  refine r_aload_n (i := 44) (k0 := 0) rfl rfl rfl ?_
  refine r_aload_n (i := 45) (k0 := 3) rfl rfl rfl ?_
  refine k_putr (lr' := lr_56) (i := 46) rfl fl_Pl_47 rfl (fun _ => ⟨rfl, rfl⟩) (by decide) rfl rfl ?_
  refine r_aload_n (i := 47) (k0 := 0) rfl rfl rfl ?_
  refine r_aload (i := 48) (k0 := 4) rfl rfl ?_
  refine k_putr (lr' := lr_57) (i := 49) rfl fl_Pl_51 rfl (fun _ => ⟨rfl, rfl⟩) (by decide) rfl rfl ?_
  exact r_return (i := 50) rfl rfl ⟨rfl, rfl⟩
set_option maxHeartbeats 4000000 in
set_option maxRecDepth 100000 in
theorem t_D_init {sc : xm_I} (hsc : ∀ a, a < 1000 → ∀ k, sc a k = 0) : xm_C 3 mt_D_init [.ref 0] (IKl sc li_0, L0, RKl lr_0, 1) 48 6446 (fun v h => v = none ∧ h = (IKl sc li_13, L0, RKl lr_58, 49)) := by
  refine xm_enter (by decide +kernel) dv_D_init (Nat.le_of_ble_eq_true rfl) ?_
  show xm_J 3 mt_D_init 0 [(0, .ref 0)] [] (IKl sc li_0, L0, RKl lr_0, 1) 48 6446 _
  refine r_aload_n (i := 0) (k0 := 0) rfl rfl rfl ?_
  refine r_objInit (i := 1) rfl ct_oi_D ct_oi2 ct_oi3 (by decide) (Nat.le_of_ble_eq_true rfl) ?_
  refine r_aload_n (i := 2) (k0 := 0) rfl rfl rfl ?_
  refine q_new (kc := 47) (ks := 6440) (i := 3) rfl (KFz hsc rfl rfl) (by decide) rfl kl_8 ct_cl_D_7 ct_in_8 ct_ini_8 ct_ty_8 ?_
  refine r_dup (i := 4) rfl rfl ?_
  refine r_callIN (i := 5) (As := []) (rest := [.ref 1, .ref 0]) rfl ok_Pt_init rfl rfl lk_D_9 im_Pt_init (t_Pt_init hsc) (Nat.le_of_ble_eq_true rfl) (by decide) rfl (Nat.le_of_ble_eq_true rfl) (kc' := 43) (ks' := 6200) rfl rfl (fun v h2 hq => ?_)
  obtain ⟨rfl, rfl⟩ := hq
  refine k_putr (lr' := lr_5) (i := 6) rfl fl_D_10 rfl (fun _ => ⟨rfl, rfl⟩) (by decide) rfl rfl ?_
  refine r_aload_n (i := 7) (k0 := 0) rfl rfl rfl ?_
  refine q_new (kc := 42) (ks := 6190) (i := 8) rfl (KFz hsc rfl rfl) (by decide) rfl kl_1 ct_cl_D_16 ct_in_1 ct_ini_1 ct_ty_1 ?_
  refine r_dup (i := 9) rfl rfl ?_
  refine r_aload_n (i := 10) (k0 := 0) rfl rfl rfl ?_
  refine q_getr (b := 1) (i := 11) rfl fl_D_10 rfl (by decide) rfl rfl ?_
  refine r_callI (i := 12) (As := [.ref 1]) (rest := [.ref 6, .ref 0]) rfl ok_Fg_init rfl rfl lk_D_18 im_Fg_init (t_Fg_init hsc) (Nat.le_of_ble_eq_true rfl) (by decide) rfl (Nat.le_of_ble_eq_true rfl) (kc' := 35) (ks' := 5528) rfl rfl (fun v h2 hq => ?_)
  obtain ⟨rfl, rfl⟩ := hq
  refine k_putr (lr' := lr_14) (i := 13) rfl fl_D_21 rfl (fun _ => ⟨rfl, rfl⟩) (by decide) rfl rfl ?_
  refine r_aload_n (i := 14) (k0 := 0) rfl rfl rfl ?_
  refine q_new (kc := 34) (ks := 5517) (i := 15) rfl (KFz hsc rfl rfl) (by decide) rfl kl_2 ct_cl_D_25 ct_in_2 ct_ini_2 ct_ty_2 ?_
  refine r_dup (i := 16) rfl rfl ?_
  refine r_callIN (i := 17) (As := []) (rest := [.ref 14, .ref 0]) rfl ok_Fr_init rfl rfl lk_D_27 im_Fr_init (t_Fr_init hsc) (Nat.le_of_ble_eq_true rfl) (by decide) rfl (Nat.le_of_ble_eq_true rfl) (kc' := 34) (ks' := 5517) rfl rfl (fun v h2 hq => ?_)
  obtain ⟨rfl, rfl⟩ := hq
  refine k_putr (lr' := lr_15) (i := 18) rfl fl_D_28 rfl (fun _ => ⟨rfl, rfl⟩) (by decide) rfl rfl ?_
  refine r_aload_n (i := 19) (k0 := 0) rfl rfl rfl ?_
  refine q_new (kc := 33) (ks := 5514) (i := 20) rfl (KFz hsc rfl rfl) (by decide) rfl kl_10 ct_cl_D_32 ct_in_10 ct_ini_10 ct_ty_10 ?_
  refine r_dup (i := 21) rfl rfl ?_
  refine r_callIN (i := 22) (As := []) (rest := [.ref 15, .ref 0]) rfl ok_Ss_init rfl rfl lk_D_34 im_Ss_init (t_Ss_init hsc) (Nat.le_of_ble_eq_true rfl) (by decide) rfl (Nat.le_of_ble_eq_true rfl) (kc' := 32) (ks' := 5510) rfl rfl (fun v h2 hq => ?_)
  obtain ⟨rfl, rfl⟩ := hq
  refine k_putr (lr' := lr_17) (i := 23) rfl fl_D_35 rfl (fun _ => ⟨rfl, rfl⟩) (by decide) rfl rfl ?_
  refine r_aload_n (i := 24) (k0 := 0) rfl rfl rfl ?_
  refine q_new (kc := 31) (ks := 5503) (i := 25) rfl (KFz hsc rfl rfl) (by decide) rfl kl_5 ct_cl_D_39 ct_in_5 ct_ini_5 ct_ty_5 ?_
  refine r_dup (i := 26) rfl rfl ?_
  refine r_callIN (i := 27) (As := []) (rest := [.ref 17, .ref 0]) rfl ok_Mk_init rfl rfl lk_D_41 im_Mk_init (t_Mk_init hsc) (Nat.le_of_ble_eq_true rfl) (by decide) rfl (Nat.le_of_ble_eq_true rfl) (kc' := 28) (ks' := 1241) rfl rfl (fun v h2 hq => ?_)
  obtain ⟨rfl, rfl⟩ := hq
  refine k_putr (lr' := lr_21) (i := 28) rfl fl_D_42 rfl (fun _ => ⟨rfl, rfl⟩) (by decide) rfl rfl ?_
  refine r_aload_n (i := 29) (k0 := 0) rfl rfl rfl ?_
  refine q_new (kc := 27) (ks := 1233) (i := 30) rfl (KFz hsc rfl rfl) (by decide) rfl kl_4 ct_cl_D_46 ct_in_4 ct_ini_4 ct_ty_4 ?_
  refine r_dup (i := 31) rfl rfl ?_
  refine r_callIN (i := 32) (As := []) (rest := [.ref 21, .ref 0]) rfl ok_Lb_init rfl rfl lk_D_48 im_Lb_init (t_Lb_init hsc) (Nat.le_of_ble_eq_true rfl) (by decide) rfl (Nat.le_of_ble_eq_true rfl) (kc' := 24) (ks' := 1173) rfl rfl (fun v h2 hq => ?_)
  obtain ⟨rfl, rfl⟩ := hq
  refine k_putr (lr' := lr_25) (i := 33) rfl fl_D_49 rfl (fun _ => ⟨rfl, rfl⟩) (by decide) rfl rfl ?_
  refine r_aload_n (i := 34) (k0 := 0) rfl rfl rfl ?_
  refine q_new (kc := 23) (ks := 1169) (i := 35) rfl (KFz hsc rfl rfl) (by decide) rfl kl_3 ct_cl_D_53 ct_in_3 ct_ini_3 ct_ty_3 ?_
  refine r_dup (i := 36) rfl rfl ?_
  refine r_callIN (i := 37) (As := []) (rest := [.ref 25, .ref 0]) rfl ok_Gr_init rfl rfl lk_D_55 im_Gr_init (t_Gr_init hsc) (Nat.le_of_ble_eq_true rfl) (by decide) rfl (Nat.le_of_ble_eq_true rfl) (kc' := 19) (ks' := 767) rfl rfl (fun v h2 hq => ?_)
  obtain ⟨rfl, rfl⟩ := hq
  refine k_putr (lr' := lr_30) (i := 38) rfl fl_D_56 rfl (fun _ => ⟨rfl, rfl⟩) (by decide) rfl rfl ?_
  refine r_aload_n (i := 39) (k0 := 0) rfl rfl rfl ?_
  refine q_new (kc := 18) (ks := 753) (i := 40) rfl (KFz hsc rfl rfl) (by decide) rfl kl_6 ct_cl_D_60 ct_in_6 ct_ini_6 ct_ty_6 ?_
  refine r_dup (i := 41) rfl rfl ?_
  refine r_aload_n (i := 42) (k0 := 0) rfl rfl rfl ?_
  refine q_getr (b := 6) (i := 43) rfl fl_D_21 rfl (by decide) rfl rfl ?_
  refine r_aload_n (i := 44) (k0 := 0) rfl rfl rfl ?_
  refine q_getr (b := 1) (i := 45) rfl fl_D_10 rfl (by decide) rfl rfl ?_
  refine r_aload_n (i := 46) (k0 := 0) rfl rfl rfl ?_
  refine q_getr (b := 14) (i := 47) rfl fl_D_28 rfl (by decide) rfl rfl ?_
  refine r_aload_n (i := 48) (k0 := 0) rfl rfl rfl ?_
  refine q_getr (b := 17) (i := 49) rfl fl_D_42 rfl (by decide) rfl rfl ?_
  refine r_callI (i := 50) (As := [.ref 6, .ref 1, .ref 14, .ref 17]) (rest := [.ref 30, .ref 0]) rfl ok_Pn_init rfl rfl lk_D_62 im_Pn_init (t_Pn_init hsc) (Nat.le_of_ble_eq_true rfl) (by decide) rfl (Nat.le_of_ble_eq_true rfl) (kc' := 10) (ks' := 576) rfl rfl (fun v h2 hq => ?_)
  obtain ⟨rfl, rfl⟩ := hq
  refine k_putr (lr' := lr_44) (i := 51) rfl fl_D_65 rfl (fun _ => ⟨rfl, rfl⟩) (by decide) rfl rfl ?_
  refine r_aload_n (i := 52) (k0 := 0) rfl rfl rfl ?_
  refine q_new (kc := 9) (ks := 560) (i := 53) rfl (KFz hsc rfl rfl) (by decide) rfl kl_7 ct_cl_D_69 ct_in_7 ct_ini_7 ct_ty_7 ?_
  refine r_dup (i := 54) rfl rfl ?_
  refine r_aload_n (i := 55) (k0 := 0) rfl rfl rfl ?_
  refine q_getr (b := 21) (i := 56) rfl fl_D_49 rfl (by decide) rfl rfl ?_
  refine r_aload_n (i := 57) (k0 := 0) rfl rfl rfl ?_
  refine q_getr (b := 30) (i := 58) rfl fl_D_65 rfl (by decide) rfl rfl ?_
  refine r_aload_n (i := 59) (k0 := 0) rfl rfl rfl ?_
  refine q_getr (b := 17) (i := 60) rfl fl_D_42 rfl (by decide) rfl rfl ?_
  refine r_aload_n (i := 61) (k0 := 0) rfl rfl rfl ?_
  refine q_getr (b := 14) (i := 62) rfl fl_D_28 rfl (by decide) rfl rfl ?_
  refine r_callI (i := 63) (As := [.ref 21, .ref 30, .ref 17, .ref 14]) (rest := [.ref 39, .ref 0]) rfl ok_Pl_init rfl rfl lk_D_71 im_Pl_init (t_Pl_init hsc) (Nat.le_of_ble_eq_true rfl) (by decide) rfl (Nat.le_of_ble_eq_true rfl) (kc' := 0) (ks' := 0) rfl rfl (fun v h2 hq => ?_)
  obtain ⟨rfl, rfl⟩ := hq
  refine k_putr (lr' := lr_58) (i := 64) rfl fl_D_74 rfl (fun _ => ⟨rfl, rfl⟩) (by decide) rfl rfl ?_
  refine r_aload_n (i := 65) (k0 := 0) rfl rfl rfl ?_
  refine r_iconst (v := 0) (i := 66) rfl (by decide) ?_
  refine k_puti (li' := li_13) (i := 67) rfl fl_D_78 (fun h => Bool.noConfusion h) (by decide) rfl rfl ?_
  exact r_return (i := 68) rfl rfl ⟨rfl, rfl⟩
set_option maxHeartbeats 4000000 in
set_option maxRecDepth 100000 in
theorem t_M_init {sc : xm_I} (hsc : ∀ a, a < 1000 → ∀ k, sc a k = 0) : xm_C 1 mt_M_init [.ref 49] (IKl sc li_13, L0, RKl lr_58, 50) 36 48599 (fun v h => v = none ∧ h = (IKl sc li_24, L0, RKl lr_94, 86)) := by
  refine xm_enter (by decide +kernel) dv_M_init (Nat.le_of_ble_eq_true rfl) ?_
  show xm_J 1 mt_M_init 0 [(0, .ref 49)] [] (IKl sc li_13, L0, RKl lr_58, 50) 36 48599 _
  refine r_aload_n (i := 0) (k0 := 0) rfl rfl rfl ?_
  refine r_objInit (i := 1) rfl ct_oi_M ct_oi2 ct_oi3 (by decide) (Nat.le_of_ble_eq_true rfl) ?_
  refine r_aload_n (i := 2) (k0 := 0) rfl rfl rfl ?_
  refine r_bipush (v := 60) (i := 3) rfl (by decide) ?_
  refine q_newi (N := 60) (i := 4) rfl (KFz hsc rfl rfl) (by decide) rfl (by decide) (by decide) (by decide) ct_arr_int ?_
  refine k_putr (lr' := lr_59) (i := 5) rfl fl_M_7 rfl (fun _ => ⟨rfl, rfl⟩) (by decide) rfl rfl ?_
  refine r_aload_n (i := 6) (k0 := 0) rfl rfl rfl ?_
  refine r_bipush (v := 60) (i := 7) rfl (by decide) ?_
  refine q_newi (N := 60) (i := 8) rfl (KFz hsc rfl rfl) (by decide) rfl (by decide) (by decide) (by decide) ct_arr_int ?_
  refine k_putr (lr' := lr_60) (i := 9) rfl fl_M_13 rfl (fun _ => ⟨rfl, rfl⟩) (by decide) rfl rfl ?_
  refine r_aload_n (i := 10) (k0 := 0) rfl rfl rfl ?_
  refine r_bipush (v := 60) (i := 11) rfl (by decide) ?_
  refine q_newi (N := 60) (i := 12) rfl (KFz hsc rfl rfl) (by decide) rfl (by decide) (by decide) (by decide) ct_arr_int ?_
  refine k_putr (lr' := lr_61) (i := 13) rfl fl_M_16 rfl (fun _ => ⟨rfl, rfl⟩) (by decide) rfl rfl ?_
  refine r_aload_n (i := 14) (k0 := 0) rfl rfl rfl ?_
  refine r_bipush (v := 60) (i := 15) rfl (by decide) ?_
  refine q_newi (N := 60) (i := 16) rfl (KFz hsc rfl rfl) (by decide) rfl (by decide) (by decide) (by decide) ct_arr_int ?_
  refine k_putr (lr' := lr_62) (i := 17) rfl fl_M_19 rfl (fun _ => ⟨rfl, rfl⟩) (by decide) rfl rfl ?_
  refine r_aload_n (i := 18) (k0 := 0) rfl rfl rfl ?_
  refine r_bipush (v := 40) (i := 19) rfl (by decide) ?_
  refine q_newi (N := 40) (i := 20) rfl (KFz hsc rfl rfl) (by decide) rfl (by decide) (by decide) (by decide) ct_arr_int ?_
  refine k_putr (lr' := lr_63) (i := 21) rfl fl_M_22 rfl (fun _ => ⟨rfl, rfl⟩) (by decide) rfl rfl ?_
  refine r_aload_n (i := 22) (k0 := 0) rfl rfl rfl ?_
  refine r_sipush (v := 480) (i := 23) rfl (by decide) ?_
  refine q_newi (N := 480) (i := 24) rfl (KFz hsc rfl rfl) (by decide) rfl (by decide) (by decide) (by decide) ct_arr_int ?_
  refine k_putr (lr' := lr_64) (i := 25) rfl fl_M_25 rfl (fun _ => ⟨rfl, rfl⟩) (by decide) rfl rfl ?_
  refine r_aload_n (i := 26) (k0 := 0) rfl rfl rfl ?_
  refine r_bipush (v := 40) (i := 27) rfl (by decide) ?_
  refine q_newi (N := 40) (i := 28) rfl (KFz hsc rfl rfl) (by decide) rfl (by decide) (by decide) (by decide) ct_arr_int ?_
  refine k_putr (lr' := lr_65) (i := 29) rfl fl_M_28 rfl (fun _ => ⟨rfl, rfl⟩) (by decide) rfl rfl ?_
  refine r_aload_n (i := 30) (k0 := 0) rfl rfl rfl ?_
  refine r_bipush (v := 40) (i := 31) rfl (by decide) ?_
  refine q_newi (N := 40) (i := 32) rfl (KFz hsc rfl rfl) (by decide) rfl (by decide) (by decide) (by decide) ct_arr_int ?_
  refine k_putr (lr' := lr_66) (i := 33) rfl fl_M_31 rfl (fun _ => ⟨rfl, rfl⟩) (by decide) rfl rfl ?_
  refine r_aload_n (i := 34) (k0 := 0) rfl rfl rfl ?_
  refine r_bipush (v := 40) (i := 35) rfl (by decide) ?_
  refine q_newi (N := 40) (i := 36) rfl (KFz hsc rfl rfl) (by decide) rfl (by decide) (by decide) (by decide) ct_arr_int ?_
  refine k_putr (lr' := lr_67) (i := 37) rfl fl_M_34 rfl (fun _ => ⟨rfl, rfl⟩) (by decide) rfl rfl ?_
  refine r_aload_n (i := 38) (k0 := 0) rfl rfl rfl ?_
  refine r_bipush (v := 12) (i := 39) rfl (by decide) ?_
  refine q_newi (N := 12) (i := 40) rfl (KFz hsc rfl rfl) (by decide) rfl (by decide) (by decide) (by decide) ct_arr_int ?_
  refine k_putr (lr' := lr_68) (i := 41) rfl fl_M_37 rfl (fun _ => ⟨rfl, rfl⟩) (by decide) rfl rfl ?_
  refine r_aload_n (i := 42) (k0 := 0) rfl rfl rfl ?_
  refine r_bipush (v := 10) (i := 43) rfl (by decide) ?_
  refine q_newz (N := 10) (i := 44) rfl (KFz hsc rfl rfl) (by decide) rfl (by decide) (by decide) (by decide) ct_arr_boolean ?_
  refine k_putr (lr' := lr_69) (i := 45) rfl fl_M_40 rfl (fun _ => ⟨rfl, rfl⟩) (by decide) rfl rfl ?_
  refine r_aload_n (i := 46) (k0 := 0) rfl rfl rfl ?_
  refine r_bipush (v := 100) (i := 47) rfl (by decide) ?_
  refine k_puti (li' := li_14) (i := 48) rfl fl_M_44 (fun h => Bool.noConfusion h) (by decide) rfl rfl ?_
  refine r_aload_n (i := 49) (k0 := 0) rfl rfl rfl ?_
  refine r_bipush (v := 100) (i := 50) rfl (by decide) ?_
  refine k_puti (li' := li_15) (i := 51) rfl fl_M_48 (fun h => Bool.noConfusion h) (by decide) rfl rfl ?_
  refine r_aload_n (i := 52) (k0 := 0) rfl rfl rfl ?_
  refine r_bipush (v := 100) (i := 53) rfl (by decide) ?_
  refine k_puti (li' := li_16) (i := 54) rfl fl_M_51 (fun h => Bool.noConfusion h) (by decide) rfl rfl ?_
  refine r_aload_n (i := 55) (k0 := 0) rfl rfl rfl ?_
  refine r_bipush (v := 100) (i := 56) rfl (by decide) ?_
  refine k_puti (li' := li_17) (i := 57) rfl fl_M_54 (fun h => Bool.noConfusion h) (by decide) rfl rfl ?_
  refine r_aload_n (i := 58) (k0 := 0) rfl rfl rfl ?_
  refine r_bipush (v := 10) (i := 59) rfl (by decide) ?_
  refine k_puti (li' := li_18) (i := 60) rfl fl_M_57 (fun h => Bool.noConfusion h) (by decide) rfl rfl ?_
  refine r_aload_n (i := 61) (k0 := 0) rfl rfl rfl ?_
  refine r_iconst (v := 4) (i := 62) rfl (by decide) ?_
  refine q_newi (N := 4) (i := 63) rfl (KFz hsc rfl rfl) (by decide) rfl (by decide) (by decide) (by decide) ct_arr_int ?_
  refine k_putr (lr' := lr_70) (i := 64) rfl fl_M_60 rfl (fun _ => ⟨rfl, rfl⟩) (by decide) rfl rfl ?_
  refine r_aload_n (i := 65) (k0 := 0) rfl rfl rfl ?_
  refine r_iconst (v := 4) (i := 66) rfl (by decide) ?_
  refine q_newi (N := 4) (i := 67) rfl (KFz hsc rfl rfl) (by decide) rfl (by decide) (by decide) (by decide) ct_arr_int ?_
  refine k_putr (lr' := lr_71) (i := 68) rfl fl_M_63 rfl (fun _ => ⟨rfl, rfl⟩) (by decide) rfl rfl ?_
  refine r_aload_n (i := 69) (k0 := 0) rfl rfl rfl ?_
  refine r_iconst (v := 4) (i := 70) rfl (by decide) ?_
  refine q_newi (N := 4) (i := 71) rfl (KFz hsc rfl rfl) (by decide) rfl (by decide) (by decide) (by decide) ct_arr_int ?_
  refine k_putr (lr' := lr_72) (i := 72) rfl fl_M_66 rfl (fun _ => ⟨rfl, rfl⟩) (by decide) rfl rfl ?_
  refine r_aload_n (i := 73) (k0 := 0) rfl rfl rfl ?_
  refine r_sipush (v := 144) (i := 74) rfl (by decide) ?_
  refine q_newi (N := 144) (i := 75) rfl (KFz hsc rfl rfl) (by decide) rfl (by decide) (by decide) (by decide) ct_arr_int ?_
  refine k_putr (lr' := lr_73) (i := 76) rfl fl_M_69 rfl (fun _ => ⟨rfl, rfl⟩) (by decide) rfl rfl ?_
  refine r_aload_n (i := 77) (k0 := 0) rfl rfl rfl ?_
  refine r_iconst (v := 4) (i := 78) rfl (by decide) ?_
  refine q_newi (N := 4) (i := 79) rfl (KFz hsc rfl rfl) (by decide) rfl (by decide) (by decide) (by decide) ct_arr_int ?_
  refine k_putr (lr' := lr_74) (i := 80) rfl fl_M_72 rfl (fun _ => ⟨rfl, rfl⟩) (by decide) rfl rfl ?_
  refine r_aload_n (i := 81) (k0 := 0) rfl rfl rfl ?_
  refine r_bipush (v := 40) (i := 82) rfl (by decide) ?_
  refine q_newi (N := 40) (i := 83) rfl (KFz hsc rfl rfl) (by decide) rfl (by decide) (by decide) (by decide) ct_arr_int ?_
  refine k_putr (lr' := lr_75) (i := 84) rfl fl_M_75 rfl (fun _ => ⟨rfl, rfl⟩) (by decide) rfl rfl ?_
  refine r_aload_n (i := 85) (k0 := 0) rfl rfl rfl ?_
  refine r_sipush (v := 240) (i := 86) rfl (by decide) ?_
  refine q_newi (N := 240) (i := 87) rfl (KFz hsc rfl rfl) (by decide) rfl (by decide) (by decide) (by decide) ct_arr_int ?_
  refine k_putr (lr' := lr_76) (i := 88) rfl fl_M_78 rfl (fun _ => ⟨rfl, rfl⟩) (by decide) rfl rfl ?_
  refine r_aload_n (i := 89) (k0 := 0) rfl rfl rfl ?_
  refine r_sipush (v := 264) (i := 90) rfl (by decide) ?_
  refine q_newi (N := 264) (i := 91) rfl (KFz hsc rfl rfl) (by decide) rfl (by decide) (by decide) (by decide) ct_arr_int ?_
  refine k_putr (lr' := lr_77) (i := 92) rfl fl_M_81 rfl (fun _ => ⟨rfl, rfl⟩) (by decide) rfl rfl ?_
  refine r_aload_n (i := 93) (k0 := 0) rfl rfl rfl ?_
  refine r_bipush (v := 20) (i := 94) rfl (by decide) ?_
  refine q_newi (N := 20) (i := 95) rfl (KFz hsc rfl rfl) (by decide) rfl (by decide) (by decide) (by decide) ct_arr_int ?_
  refine k_putr (lr' := lr_78) (i := 96) rfl fl_M_84 rfl (fun _ => ⟨rfl, rfl⟩) (by decide) rfl rfl ?_
  refine r_aload_n (i := 97) (k0 := 0) rfl rfl rfl ?_
  refine r_bipush (v := 20) (i := 98) rfl (by decide) ?_
  refine q_newi (N := 20) (i := 99) rfl (KFz hsc rfl rfl) (by decide) rfl (by decide) (by decide) (by decide) ct_arr_int ?_
  refine k_putr (lr' := lr_79) (i := 100) rfl fl_M_87 rfl (fun _ => ⟨rfl, rfl⟩) (by decide) rfl rfl ?_
  refine r_aload_n (i := 101) (k0 := 0) rfl rfl rfl ?_
  refine r_sipush (v := 4200) (i := 102) rfl (by decide) ?_
  refine q_newi (N := 4200) (i := 103) rfl (KFz hsc rfl rfl) (by decide) rfl (by decide) (by decide) (by decide) ct_arr_int ?_
  refine k_putr (lr' := lr_80) (i := 104) rfl fl_M_90 rfl (fun _ => ⟨rfl, rfl⟩) (by decide) rfl rfl ?_
  refine r_aload_n (i := 105) (k0 := 0) rfl rfl rfl ?_
  refine r_ldc (i := 106) rfl ct_M_93 ?_
  refine q_newi (N := 42000) (i := 107) rfl (KFz hsc rfl rfl) (by decide) rfl (by decide) (by decide) (by decide) ct_arr_int ?_
  refine k_putr (lr' := lr_81) (i := 108) rfl fl_M_94 rfl (fun _ => ⟨rfl, rfl⟩) (by decide) rfl rfl ?_
  refine r_aload_n (i := 109) (k0 := 0) rfl rfl rfl ?_
  refine r_bipush (v := 40) (i := 110) rfl (by decide) ?_
  refine q_newz (N := 40) (i := 111) rfl (KFz hsc rfl rfl) (by decide) rfl (by decide) (by decide) (by decide) ct_arr_boolean ?_
  refine k_putr (lr' := lr_82) (i := 112) rfl fl_M_97 rfl (fun _ => ⟨rfl, rfl⟩) (by decide) rfl rfl ?_
  refine r_aload_n (i := 113) (k0 := 0) rfl rfl rfl ?_
  refine r_bipush (v := 40) (i := 114) rfl (by decide) ?_
  refine q_newi (N := 40) (i := 115) rfl (KFz hsc rfl rfl) (by decide) rfl (by decide) (by decide) (by decide) ct_arr_int ?_
  refine k_putr (lr' := lr_83) (i := 116) rfl fl_M_100 rfl (fun _ => ⟨rfl, rfl⟩) (by decide) rfl rfl ?_
  refine r_aload_n (i := 117) (k0 := 0) rfl rfl rfl ?_
  refine r_bipush (v := 40) (i := 118) rfl (by decide) ?_
  refine q_newi (N := 40) (i := 119) rfl (KFz hsc rfl rfl) (by decide) rfl (by decide) (by decide) (by decide) ct_arr_int ?_
  refine k_putr (lr' := lr_84) (i := 120) rfl fl_M_103 rfl (fun _ => ⟨rfl, rfl⟩) (by decide) rfl rfl ?_
  refine r_aload_n (i := 121) (k0 := 0) rfl rfl rfl ?_
  refine r_bipush (v := 20) (i := 122) rfl (by decide) ?_
  refine q_newi (N := 20) (i := 123) rfl (KFz hsc rfl rfl) (by decide) rfl (by decide) (by decide) (by decide) ct_arr_int ?_
  refine k_putr (lr' := lr_85) (i := 124) rfl fl_M_106 rfl (fun _ => ⟨rfl, rfl⟩) (by decide) rfl rfl ?_
  refine r_aload_n (i := 125) (k0 := 0) rfl rfl rfl ?_
  refine r_bipush (v := 12) (i := 126) rfl (by decide) ?_
  refine q_newl (N := 12) (i := 127) rfl (KFz hsc rfl rfl) (by decide) rfl (by decide) (by decide) (by decide) ct_arr_long ?_
  refine k_putr (lr' := lr_86) (i := 128) rfl fl_M_109 rfl (fun _ => ⟨rfl, rfl⟩) (by decide) rfl rfl ?_
  refine r_aload_n (i := 129) (k0 := 0) rfl rfl rfl ?_
  refine r_bipush (v := 12) (i := 130) rfl (by decide) ?_
  refine q_newl (N := 12) (i := 131) rfl (KFz hsc rfl rfl) (by decide) rfl (by decide) (by decide) (by decide) ct_arr_long ?_
  refine k_putr (lr' := lr_87) (i := 132) rfl fl_M_113 rfl (fun _ => ⟨rfl, rfl⟩) (by decide) rfl rfl ?_
  refine r_aload_n (i := 133) (k0 := 0) rfl rfl rfl ?_
  refine r_sipush (v := 160) (i := 134) rfl (by decide) ?_
  refine q_newi (N := 160) (i := 135) rfl (KFz hsc rfl rfl) (by decide) rfl (by decide) (by decide) (by decide) ct_arr_int ?_
  refine k_putr (lr' := lr_88) (i := 136) rfl fl_M_116 rfl (fun _ => ⟨rfl, rfl⟩) (by decide) rfl rfl ?_
  refine r_aload_n (i := 137) (k0 := 0) rfl rfl rfl ?_
  refine r_bipush (v := 20) (i := 138) rfl (by decide) ?_
  refine q_newi (N := 20) (i := 139) rfl (KFz hsc rfl rfl) (by decide) rfl (by decide) (by decide) (by decide) ct_arr_int ?_
  refine k_putr (lr' := lr_89) (i := 140) rfl fl_M_119 rfl (fun _ => ⟨rfl, rfl⟩) (by decide) rfl rfl ?_
  refine r_aload_n (i := 141) (k0 := 0) rfl rfl rfl ?_
  refine r_bipush (v := 7) (i := 142) rfl (by decide) ?_
  refine q_newi (N := 7) (i := 143) rfl (KFz hsc rfl rfl) (by decide) rfl (by decide) (by decide) (by decide) ct_arr_int ?_
  refine k_putr (lr' := lr_90) (i := 144) rfl fl_M_122 rfl (fun _ => ⟨rfl, rfl⟩) (by decide) rfl rfl ?_
  refine r_aload_n (i := 145) (k0 := 0) rfl rfl rfl ?_
  refine r_bipush (v := 6) (i := 146) rfl (by decide) ?_
  refine q_newi (N := 6) (i := 147) rfl (KFz hsc rfl rfl) (by decide) rfl (by decide) (by decide) (by decide) ct_arr_int ?_
  refine k_putr (lr' := lr_91) (i := 148) rfl fl_M_125 rfl (fun _ => ⟨rfl, rfl⟩) (by decide) rfl rfl ?_
  refine r_aload_n (i := 149) (k0 := 0) rfl rfl rfl ?_
  refine r_bipush (v := 6) (i := 150) rfl (by decide) ?_
  refine q_newi (N := 6) (i := 151) rfl (KFz hsc rfl rfl) (by decide) rfl (by decide) (by decide) (by decide) ct_arr_int ?_
  refine k_putr (lr' := lr_92) (i := 152) rfl fl_M_128 rfl (fun _ => ⟨rfl, rfl⟩) (by decide) rfl rfl ?_
  refine r_aload_n (i := 153) (k0 := 0) rfl rfl rfl ?_
  refine r_bipush (v := 6) (i := 154) rfl (by decide) ?_
  refine q_newi (N := 6) (i := 155) rfl (KFz hsc rfl rfl) (by decide) rfl (by decide) (by decide) (by decide) ct_arr_int ?_
  refine k_putr (lr' := lr_93) (i := 156) rfl fl_M_131 rfl (fun _ => ⟨rfl, rfl⟩) (by decide) rfl rfl ?_
  refine r_aload_n (i := 157) (k0 := 0) rfl rfl rfl ?_
  refine r_sipush (v := 384) (i := 158) rfl (by decide) ?_
  refine q_newi (N := 384) (i := 159) rfl (KFz hsc rfl rfl) (by decide) rfl (by decide) (by decide) (by decide) ct_arr_int ?_
  refine k_putr (lr' := lr_94) (i := 160) rfl fl_M_134 rfl (fun _ => ⟨rfl, rfl⟩) (by decide) rfl rfl ?_
  refine r_iconst (v := 0) (i := 161) rfl (by decide) ?_
  refine r_istore_n (i := 162) (Ls' := [(1, _), (0, _)]) rfl rfl (Nat.le_of_ble_eq_true rfl) rfl ?_
  refine r_iload_n (i := 163) (k0 := 0) rfl rfl rfl ?_
  refine r_bipush (v := 6) (i := 164) rfl (by decide) ?_
  refine r_icmpge (i := 165) (tgt := 346) rfl (by decide) (fun hc => absurd hc (by decide)) (fun hc => ?_)
  refine r_aload_n (i := 166) (k0 := 1) rfl rfl rfl ?_
  refine q_getr (b := 84) (i := 167) rfl fl_M_131 rfl (by decide) rfl rfl ?_
  refine r_iload_n (i := 168) (k0 := 0) rfl rfl rfl ?_
  refine r_iconst (v := (-1)) (i := 169) rfl (by decide) ?_
  refine k_iastore (li' := li_19) (i := 170) rfl (by decide) rfl ⟨by decide, by decide⟩ rfl ?_
  refine r_iinc (i := 171) (k0 := 0) (v := 1) (Ls' := [(1, _), (0, _)]) rfl rfl (by decide) (Nat.le_of_ble_eq_true rfl) rfl ?_
  refine r_goto (i := 172) (tgt := 327) rfl (by decide) ?_
  refine r_iload_n (i := 163) (k0 := 0) rfl rfl rfl ?_
  refine r_bipush (v := 6) (i := 164) rfl (by decide) ?_
  refine r_icmpge (i := 165) (tgt := 346) rfl (by decide) (fun hc => absurd hc (by decide)) (fun hc => ?_)
  refine r_aload_n (i := 166) (k0 := 1) rfl rfl rfl ?_
  refine q_getr (b := 84) (i := 167) rfl fl_M_131 rfl (by decide) rfl rfl ?_
  refine r_iload_n (i := 168) (k0 := 0) rfl rfl rfl ?_
  refine r_iconst (v := (-1)) (i := 169) rfl (by decide) ?_
  refine k_iastore (li' := li_20) (i := 170) rfl (by decide) rfl ⟨by decide, by decide⟩ rfl ?_
  refine r_iinc (i := 171) (k0 := 0) (v := 2) (Ls' := [(1, _), (0, _)]) rfl rfl (by decide) (Nat.le_of_ble_eq_true rfl) rfl ?_
  refine r_goto (i := 172) (tgt := 327) rfl (by decide) ?_
  refine r_iload_n (i := 163) (k0 := 0) rfl rfl rfl ?_
  refine r_bipush (v := 6) (i := 164) rfl (by decide) ?_
  refine r_icmpge (i := 165) (tgt := 346) rfl (by decide) (fun hc => absurd hc (by decide)) (fun hc => ?_)
  refine r_aload_n (i := 166) (k0 := 1) rfl rfl rfl ?_
  refine q_getr (b := 84) (i := 167) rfl fl_M_131 rfl (by decide) rfl rfl ?_
  refine r_iload_n (i := 168) (k0 := 0) rfl rfl rfl ?_
  refine r_iconst (v := (-1)) (i := 169) rfl (by decide) ?_
  refine k_iastore (li' := li_21) (i := 170) rfl (by decide) rfl ⟨by decide, by decide⟩ rfl ?_
  refine r_iinc (i := 171) (k0 := 0) (v := 3) (Ls' := [(1, _), (0, _)]) rfl rfl (by decide) (Nat.le_of_ble_eq_true rfl) rfl ?_
  refine r_goto (i := 172) (tgt := 327) rfl (by decide) ?_
  refine r_iload_n (i := 163) (k0 := 0) rfl rfl rfl ?_
  refine r_bipush (v := 6) (i := 164) rfl (by decide) ?_
  refine r_icmpge (i := 165) (tgt := 346) rfl (by decide) (fun hc => absurd hc (by decide)) (fun hc => ?_)
  refine r_aload_n (i := 166) (k0 := 1) rfl rfl rfl ?_
  refine q_getr (b := 84) (i := 167) rfl fl_M_131 rfl (by decide) rfl rfl ?_
  refine r_iload_n (i := 168) (k0 := 0) rfl rfl rfl ?_
  refine r_iconst (v := (-1)) (i := 169) rfl (by decide) ?_
  refine k_iastore (li' := li_22) (i := 170) rfl (by decide) rfl ⟨by decide, by decide⟩ rfl ?_
  refine r_iinc (i := 171) (k0 := 0) (v := 4) (Ls' := [(1, _), (0, _)]) rfl rfl (by decide) (Nat.le_of_ble_eq_true rfl) rfl ?_
  refine r_goto (i := 172) (tgt := 327) rfl (by decide) ?_
  refine r_iload_n (i := 163) (k0 := 0) rfl rfl rfl ?_
  refine r_bipush (v := 6) (i := 164) rfl (by decide) ?_
  refine r_icmpge (i := 165) (tgt := 346) rfl (by decide) (fun hc => absurd hc (by decide)) (fun hc => ?_)
  refine r_aload_n (i := 166) (k0 := 1) rfl rfl rfl ?_
  refine q_getr (b := 84) (i := 167) rfl fl_M_131 rfl (by decide) rfl rfl ?_
  refine r_iload_n (i := 168) (k0 := 0) rfl rfl rfl ?_
  refine r_iconst (v := (-1)) (i := 169) rfl (by decide) ?_
  refine k_iastore (li' := li_23) (i := 170) rfl (by decide) rfl ⟨by decide, by decide⟩ rfl ?_
  refine r_iinc (i := 171) (k0 := 0) (v := 5) (Ls' := [(1, _), (0, _)]) rfl rfl (by decide) (Nat.le_of_ble_eq_true rfl) rfl ?_
  refine r_goto (i := 172) (tgt := 327) rfl (by decide) ?_
  refine r_iload_n (i := 163) (k0 := 0) rfl rfl rfl ?_
  refine r_bipush (v := 6) (i := 164) rfl (by decide) ?_
  refine r_icmpge (i := 165) (tgt := 346) rfl (by decide) (fun hc => absurd hc (by decide)) (fun hc => ?_)
  refine r_aload_n (i := 166) (k0 := 1) rfl rfl rfl ?_
  refine q_getr (b := 84) (i := 167) rfl fl_M_131 rfl (by decide) rfl rfl ?_
  refine r_iload_n (i := 168) (k0 := 0) rfl rfl rfl ?_
  refine r_iconst (v := (-1)) (i := 169) rfl (by decide) ?_
  refine k_iastore (li' := li_24) (i := 170) rfl (by decide) rfl ⟨by decide, by decide⟩ rfl ?_
  refine r_iinc (i := 171) (k0 := 0) (v := 6) (Ls' := [(1, _), (0, _)]) rfl rfl (by decide) (Nat.le_of_ble_eq_true rfl) rfl ?_
  refine r_goto (i := 172) (tgt := 327) rfl (by decide) ?_
  refine r_iload_n (i := 163) (k0 := 0) rfl rfl rfl ?_
  refine r_bipush (v := 6) (i := 164) rfl (by decide) ?_
  refine r_icmpge (i := 165) (tgt := 346) rfl (by decide) (fun hc => ?_) (fun hc => absurd (by decide) hc)
  exact r_return (i := 173) rfl rfl ⟨rfl, rfl⟩
set_option maxHeartbeats 4000000 in
set_option maxRecDepth 100000 in
theorem law_start {d kc ks : Nat} {sc : xm_I} (hsc : ∀ a, a < 1000 → ∀ k, sc a k = 0) {Q : Option Value → xm_H → Prop} (hd : 4 ≤ d) (kk : xm_J d mt_W_law 18 [(3, .int 0), (2, .ref 49), (1, .ref 0), (0, .ref 1000000)] [] (IKl sc li_24, L0, RKl lr_94, 86) kc ks Q) : xm_J d mt_W_law 0 [(0, .ref 1000000)] [] (IKl sc li_0, L0, RKl lr_0, 0) (kc + 86) (ks + 55133) Q := by
  refine q_new (kc := kc + 85) (ks := ks + 55123) (i := 0) rfl (KFz hsc rfl rfl) (by decide) rfl kl_11 ct_cl_W_7 ct_in_11 ct_ini_11 ct_ty_11 ?_
  refine r_dup (i := 1) rfl rfl ?_
  refine r_callI (i := 2) (As := []) (rest := [.ref 0]) rfl ok_D_init rfl rfl lk_W_9 im_D_init (t_D_init hsc) (by omega) (by decide) rfl (Nat.le_of_ble_eq_true rfl) (kc' := kc + 37) (ks' := ks + 48677) rfl rfl (fun v h2 hq => ?_)
  obtain ⟨rfl, rfl⟩ := hq
  refine r_astore_n (i := 3) (Ls' := [(1, _), (0, _)]) rfl rfl (Nat.le_of_ble_eq_true rfl) rfl ?_
  refine q_new (kc := kc + 36) (ks := ks + 48599) (i := 4) rfl (KFz hsc rfl rfl) (by decide) rfl kl_12 ct_cl_W_10 ct_in_12 ct_ini_12 ct_ty_12 ?_
  refine r_dup (i := 5) rfl rfl ?_
  refine r_callI (i := 6) (As := []) (rest := [.ref 49]) rfl ok_M_init rfl rfl lk_W_12 im_M_init (t_M_init hsc) (by omega) (by decide) rfl (Nat.le_of_ble_eq_true rfl) (kc' := kc + 0) (ks' := ks + 0) rfl rfl (fun v h2 hq => ?_)
  obtain ⟨rfl, rfl⟩ := hq
  refine r_astore_n (i := 7) (Ls' := [(2, _), (1, _), (0, _)]) rfl rfl (Nat.le_of_ble_eq_true rfl) rfl ?_
  refine r_iconst (v := 0) (i := 8) rfl (by decide) ?_
  refine r_istore_n (i := 9) (Ls' := [(3, _), (2, _), (1, _), (0, _)]) rfl rfl (Nat.le_of_ble_eq_true rfl) rfl ?_
  exact kk
