/-! the law's calls, by program (wip/whole/genlaw.py) -/
theorem lc_worker {M : mm_T} {N i : Nat} {nm : String} {Q : Option pv_T → mm_T → Prop} (h1 : mm_k M 1 = (15, N)) (hN : N ≤ 3072) (hi : i + 6 ≤ N) (k5 : mm_k M 5 = (10, 14)) (k9 : mm_k M 99 = (11, 22)) (H : cs_i mt_X10_worker [pv_r 5, pv_i (mm_i M 1 (i + 1)), pv_i (mm_i M 1 (i + 2))] M (fun v M1 => mm_S fr_C M M1 → rs_i mt_X11_worker [pv_r 99, pv_i (mm_i M 1 (i + 1)), pv_i (mm_i M 1 (i + 2))] M1 (mm_i M1) (fun w I' => v = w ∧ go_W (mt_Ln nm) fr_A 1803 (l4_ i) [] (mm_si M1 I') Q))) : go_W (mt_Ln nm) fr_A 1095 (l4_ i) [] M Q := by
  refine go_aload_n dL_law_1095 rfl ?_
  refine go_scr (j := 1) h1 hN rfl (by omega) dL_law_1096 dL_law_1097 dL_law_1098 dL_law_1099 dL_law_1100 ?_
  refine go_scr (j := 2) h1 hN rfl (by omega) dL_law_1101 dL_law_1102 dL_law_1103 dL_law_1104 dL_law_1105 ?_
  refine go_V (av := [pv_i (mm_i M 1 (i + 1)), pv_i (mm_i M 1 (i + 2))]) (st := []) (ci := 10) ok_X10_worker ⟨Nat.le_of_ble_eq_true rfl, Nat.le_of_ble_eq_true rfl⟩ ml_L_122 rfl (by decide) (fun v hv => by simp only [List.mem_cons, List.not_mem_nil, or_false] at hv; rcases hv with rfl | rfl <;> exact pv_1i) (Nat.le_of_ble_eq_true rfl) (fun _ _ => rfl) (by decide) rfl k5 dL_law_1106 H (fun r M1 hq hS => ?_)
  obtain ⟨v, rfl, H⟩ := hq
  replace H := H hS
  obtain ⟨e1, e2⟩ := sc_S h1 hS
  have e9 : mm_k M1 99 = (11, 22) := ks_S k9 (by decide) hS
  show go_W (mt_Ln nm) fr_A 1109 (l4_ i) [pv_i v] M1 Q
  refine go_aload_n dL_law_1109 rfl ?_
  refine go_scr (j := 1) e1 hN rfl (by omega) dL_law_1110 dL_law_1111 dL_law_1112 dL_law_1113 dL_law_1114 ?_
  rw [e2 (i + 1)]
  refine go_scr (j := 2) e1 hN rfl (by omega) dL_law_1115 dL_law_1116 dL_law_1117 dL_law_1118 dL_law_1119 ?_
  rw [e2 (i + 2)]
  refine go_V (av := [pv_i (mm_i M 1 (i + 1)), pv_i (mm_i M 1 (i + 2))]) (st := [pv_i v]) (ci := 11) ok_X11_worker ⟨Nat.le_of_ble_eq_true rfl, Nat.le_of_ble_eq_true rfl⟩ ml_L_125 rfl (by decide) (fun v hv => by simp only [List.mem_cons, List.not_mem_nil, or_false] at hv; rcases hv with rfl | rfl <;> exact pv_1i) (Nat.le_of_ble_eq_true rfl) (fun _ _ => rfl) (by decide) rfl e9 dL_law_1120 H (fun r M2 hq hS2 => ?_)
  obtain ⟨w, rfl, I', rfl, rfl, H⟩ := hq
  exact go_icmp_eq (tgt := 1803) dL_law_1123 (by decide) (fun _ => H) (fun q => absurd rfl q)
theorem lc_timer {M : mm_T} {N i : Nat} {nm : String} {Q : Option pv_T → mm_T → Prop} (h1 : mm_k M 1 = (15, N)) (hN : N ≤ 3072) (hi : i + 6 ≤ N) (k5 : mm_k M 5 = (10, 14)) (k9 : mm_k M 99 = (11, 22)) (H : cs_i mt_X10_timer [pv_r 5, pv_i (mm_i M 1 (i + 1)), pv_i (mm_i M 1 (i + 2))] M (fun v M1 => mm_S fr_C M M1 → rs_i mt_X11_timer [pv_r 99, pv_i (mm_i M 1 (i + 1)), pv_i (mm_i M 1 (i + 2))] M1 (mm_i M1) (fun w I' => v = w ∧ go_W (mt_Ln nm) fr_A 1803 (l4_ i) [] (mm_si M1 I') Q))) : go_W (mt_Ln nm) fr_A 1128 (l4_ i) [] M Q := by
  refine go_aload_n dL_law_1128 rfl ?_
  refine go_scr (j := 1) h1 hN rfl (by omega) dL_law_1129 dL_law_1130 dL_law_1131 dL_law_1132 dL_law_1133 ?_
  refine go_scr (j := 2) h1 hN rfl (by omega) dL_law_1134 dL_law_1135 dL_law_1136 dL_law_1137 dL_law_1138 ?_
  refine go_V (av := [pv_i (mm_i M 1 (i + 1)), pv_i (mm_i M 1 (i + 2))]) (st := []) (ci := 10) ok_X10_timer ⟨Nat.le_of_ble_eq_true rfl, Nat.le_of_ble_eq_true rfl⟩ ml_L_126 rfl (by decide) (fun v hv => by simp only [List.mem_cons, List.not_mem_nil, or_false] at hv; rcases hv with rfl | rfl <;> exact pv_1i) (Nat.le_of_ble_eq_true rfl) (fun _ _ => rfl) (by decide) rfl k5 dL_law_1139 H (fun r M1 hq hS => ?_)
  obtain ⟨v, rfl, H⟩ := hq
  replace H := H hS
  obtain ⟨e1, e2⟩ := sc_S h1 hS
  have e9 : mm_k M1 99 = (11, 22) := ks_S k9 (by decide) hS
  show go_W (mt_Ln nm) fr_A 1142 (l4_ i) [pv_i v] M1 Q
  refine go_aload_n dL_law_1142 rfl ?_
  refine go_scr (j := 1) e1 hN rfl (by omega) dL_law_1143 dL_law_1144 dL_law_1145 dL_law_1146 dL_law_1147 ?_
  rw [e2 (i + 1)]
  refine go_scr (j := 2) e1 hN rfl (by omega) dL_law_1148 dL_law_1149 dL_law_1150 dL_law_1151 dL_law_1152 ?_
  rw [e2 (i + 2)]
  refine go_V (av := [pv_i (mm_i M 1 (i + 1)), pv_i (mm_i M 1 (i + 2))]) (st := [pv_i v]) (ci := 11) ok_X11_timer ⟨Nat.le_of_ble_eq_true rfl, Nat.le_of_ble_eq_true rfl⟩ ml_L_129 rfl (by decide) (fun v hv => by simp only [List.mem_cons, List.not_mem_nil, or_false] at hv; rcases hv with rfl | rfl <;> exact pv_1i) (Nat.le_of_ble_eq_true rfl) (fun _ _ => rfl) (by decide) rfl e9 dL_law_1153 H (fun r M2 hq hS2 => ?_)
  obtain ⟨w, rfl, I', rfl, rfl, H⟩ := hq
  exact go_icmp_eq (tgt := 1803) dL_law_1156 (by decide) (fun _ => H) (fun q => absurd rfl q)
theorem lc_waiting {M : mm_T} {N i : Nat} {nm : String} {Q : Option pv_T → mm_T → Prop} (h1 : mm_k M 1 = (15, N)) (hN : N ≤ 3072) (hi : i + 6 ≤ N) (k5 : mm_k M 5 = (10, 14)) (k9 : mm_k M 99 = (11, 22)) (H : cs_i mt_X10_waiting [pv_r 5, pv_i (mm_i M 1 (i + 1)), pv_i (mm_i M 1 (i + 2))] M (fun v M1 => mm_S fr_C M M1 → rs_i mt_X11_waiting [pv_r 99, pv_i (mm_i M 1 (i + 1)), pv_i (mm_i M 1 (i + 2))] M1 (mm_i M1) (fun w I' => v = w ∧ go_W (mt_Ln nm) fr_A 1803 (l4_ i) [] (mm_si M1 I') Q))) : go_W (mt_Ln nm) fr_A 1161 (l4_ i) [] M Q := by
  refine go_aload_n dL_law_1161 rfl ?_
  refine go_scr (j := 1) h1 hN rfl (by omega) dL_law_1162 dL_law_1163 dL_law_1164 dL_law_1165 dL_law_1166 ?_
  refine go_scr (j := 2) h1 hN rfl (by omega) dL_law_1167 dL_law_1168 dL_law_1169 dL_law_1170 dL_law_1171 ?_
  refine go_V (av := [pv_i (mm_i M 1 (i + 1)), pv_i (mm_i M 1 (i + 2))]) (st := []) (ci := 10) ok_X10_waiting ⟨Nat.le_of_ble_eq_true rfl, Nat.le_of_ble_eq_true rfl⟩ ml_L_130 rfl (by decide) (fun v hv => by simp only [List.mem_cons, List.not_mem_nil, or_false] at hv; rcases hv with rfl | rfl <;> exact pv_1i) (Nat.le_of_ble_eq_true rfl) (fun _ _ => rfl) (by decide) rfl k5 dL_law_1172 H (fun r M1 hq hS => ?_)
  obtain ⟨v, rfl, H⟩ := hq
  replace H := H hS
  obtain ⟨e1, e2⟩ := sc_S h1 hS
  have e9 : mm_k M1 99 = (11, 22) := ks_S k9 (by decide) hS
  show go_W (mt_Ln nm) fr_A 1175 (l4_ i) [pv_i v] M1 Q
  refine go_aload_n dL_law_1175 rfl ?_
  refine go_scr (j := 1) e1 hN rfl (by omega) dL_law_1176 dL_law_1177 dL_law_1178 dL_law_1179 dL_law_1180 ?_
  rw [e2 (i + 1)]
  refine go_scr (j := 2) e1 hN rfl (by omega) dL_law_1181 dL_law_1182 dL_law_1183 dL_law_1184 dL_law_1185 ?_
  rw [e2 (i + 2)]
  refine go_V (av := [pv_i (mm_i M 1 (i + 1)), pv_i (mm_i M 1 (i + 2))]) (st := [pv_i v]) (ci := 11) ok_X11_waiting ⟨Nat.le_of_ble_eq_true rfl, Nat.le_of_ble_eq_true rfl⟩ ml_L_133 rfl (by decide) (fun v hv => by simp only [List.mem_cons, List.not_mem_nil, or_false] at hv; rcases hv with rfl | rfl <;> exact pv_1i) (Nat.le_of_ble_eq_true rfl) (fun _ _ => rfl) (by decide) rfl e9 dL_law_1186 H (fun r M2 hq hS2 => ?_)
  obtain ⟨w, rfl, I', rfl, rfl, H⟩ := hq
  exact go_icmp_eq (tgt := 1803) dL_law_1189 (by decide) (fun _ => H) (fun q => absurd rfl q)
theorem lc_keyed {M : mm_T} {N i : Nat} {nm : String} {Q : Option pv_T → mm_T → Prop} (h1 : mm_k M 1 = (15, N)) (hN : N ≤ 3072) (hi : i + 6 ≤ N) (k5 : mm_k M 5 = (10, 14)) (k9 : mm_k M 99 = (11, 22)) (H : cs_i mt_X10_keyed [pv_r 5, pv_i (mm_i M 1 (i + 1))] M (fun v M1 => mm_S fr_C M M1 → rs_i mt_X11_keyed [pv_r 99, pv_i (mm_i M 1 (i + 1))] M1 (mm_i M1) (fun w I' => v = w ∧ go_W (mt_Ln nm) fr_A 1803 (l4_ i) [] (mm_si M1 I') Q))) : go_W (mt_Ln nm) fr_A 1194 (l4_ i) [] M Q := by
  refine go_aload_n dL_law_1194 rfl ?_
  refine go_scr (j := 1) h1 hN rfl (by omega) dL_law_1195 dL_law_1196 dL_law_1197 dL_law_1198 dL_law_1199 ?_
  refine go_V (av := [pv_i (mm_i M 1 (i + 1))]) (st := []) (ci := 10) ok_X10_keyed ⟨Nat.le_of_ble_eq_true rfl, Nat.le_of_ble_eq_true rfl⟩ ml_L_134 rfl (by decide) (fun v hv => by simp only [List.mem_cons, List.not_mem_nil, or_false] at hv; rcases hv with rfl <;> exact pv_1i) (Nat.le_of_ble_eq_true rfl) (fun _ _ => rfl) (by decide) rfl k5 dL_law_1200 H (fun r M1 hq hS => ?_)
  obtain ⟨v, rfl, H⟩ := hq
  replace H := H hS
  obtain ⟨e1, e2⟩ := sc_S h1 hS
  have e9 : mm_k M1 99 = (11, 22) := ks_S k9 (by decide) hS
  show go_W (mt_Ln nm) fr_A 1203 (l4_ i) [pv_i v] M1 Q
  refine go_aload_n dL_law_1203 rfl ?_
  refine go_scr (j := 1) e1 hN rfl (by omega) dL_law_1204 dL_law_1205 dL_law_1206 dL_law_1207 dL_law_1208 ?_
  rw [e2 (i + 1)]
  refine go_V (av := [pv_i (mm_i M 1 (i + 1))]) (st := [pv_i v]) (ci := 11) ok_X11_keyed ⟨Nat.le_of_ble_eq_true rfl, Nat.le_of_ble_eq_true rfl⟩ ml_L_137 rfl (by decide) (fun v hv => by simp only [List.mem_cons, List.not_mem_nil, or_false] at hv; rcases hv with rfl <;> exact pv_1i) (Nat.le_of_ble_eq_true rfl) (fun _ _ => rfl) (by decide) rfl e9 dL_law_1209 H (fun r M2 hq hS2 => ?_)
  obtain ⟨w, rfl, I', rfl, rfl, H⟩ := hq
  exact go_icmp_eq (tgt := 1803) dL_law_1212 (by decide) (fun _ => H) (fun q => absurd rfl q)
theorem lc_resting {M : mm_T} {N i : Nat} {nm : String} {Q : Option pv_T → mm_T → Prop} (h1 : mm_k M 1 = (15, N)) (hN : N ≤ 3072) (hi : i + 6 ≤ N) (k5 : mm_k M 5 = (10, 14)) (k9 : mm_k M 99 = (11, 22)) (H : cs_i mt_X10_resting [pv_r 5, pv_i (mm_i M 1 (i + 1))] M (fun v M1 => mm_S fr_C M M1 → rs_i mt_X11_resting [pv_r 99, pv_i (mm_i M 1 (i + 1))] M1 (mm_i M1) (fun w I' => v = w ∧ go_W (mt_Ln nm) fr_A 1803 (l4_ i) [] (mm_si M1 I') Q))) : go_W (mt_Ln nm) fr_A 1217 (l4_ i) [] M Q := by
  refine go_aload_n dL_law_1217 rfl ?_
  refine go_scr (j := 1) h1 hN rfl (by omega) dL_law_1218 dL_law_1219 dL_law_1220 dL_law_1221 dL_law_1222 ?_
  refine go_V (av := [pv_i (mm_i M 1 (i + 1))]) (st := []) (ci := 10) ok_X10_resting ⟨Nat.le_of_ble_eq_true rfl, Nat.le_of_ble_eq_true rfl⟩ ml_L_138 rfl (by decide) (fun v hv => by simp only [List.mem_cons, List.not_mem_nil, or_false] at hv; rcases hv with rfl <;> exact pv_1i) (Nat.le_of_ble_eq_true rfl) (fun _ _ => rfl) (by decide) rfl k5 dL_law_1223 H (fun r M1 hq hS => ?_)
  obtain ⟨v, rfl, H⟩ := hq
  replace H := H hS
  obtain ⟨e1, e2⟩ := sc_S h1 hS
  have e9 : mm_k M1 99 = (11, 22) := ks_S k9 (by decide) hS
  show go_W (mt_Ln nm) fr_A 1226 (l4_ i) [pv_i v] M1 Q
  refine go_aload_n dL_law_1226 rfl ?_
  refine go_scr (j := 1) e1 hN rfl (by omega) dL_law_1227 dL_law_1228 dL_law_1229 dL_law_1230 dL_law_1231 ?_
  rw [e2 (i + 1)]
  refine go_V (av := [pv_i (mm_i M 1 (i + 1))]) (st := [pv_i v]) (ci := 11) ok_X11_resting ⟨Nat.le_of_ble_eq_true rfl, Nat.le_of_ble_eq_true rfl⟩ ml_L_141 rfl (by decide) (fun v hv => by simp only [List.mem_cons, List.not_mem_nil, or_false] at hv; rcases hv with rfl <;> exact pv_1i) (Nat.le_of_ble_eq_true rfl) (fun _ _ => rfl) (by decide) rfl e9 dL_law_1232 H (fun r M2 hq hS2 => ?_)
  obtain ⟨w, rfl, I', rfl, rfl, H⟩ := hq
  exact go_icmp_eq (tgt := 1803) dL_law_1235 (by decide) (fun _ => H) (fun q => absurd rfl q)
theorem lc_aside {M : mm_T} {N i : Nat} {nm : String} {Q : Option pv_T → mm_T → Prop} (h1 : mm_k M 1 = (15, N)) (hN : N ≤ 3072) (hi : i + 6 ≤ N) (k5 : mm_k M 5 = (10, 14)) (k9 : mm_k M 99 = (11, 22)) (H : cs_i mt_X10_aside [pv_r 5, pv_i (mm_i M 1 (i + 1))] M (fun v M1 => mm_S fr_C M M1 → rs_i mt_X11_aside [pv_r 99, pv_i (mm_i M 1 (i + 1))] M1 (mm_i M1) (fun w I' => v = w ∧ go_W (mt_Ln nm) fr_A 1803 (l4_ i) [] (mm_si M1 I') Q))) : go_W (mt_Ln nm) fr_A 1240 (l4_ i) [] M Q := by
  refine go_aload_n dL_law_1240 rfl ?_
  refine go_scr (j := 1) h1 hN rfl (by omega) dL_law_1241 dL_law_1242 dL_law_1243 dL_law_1244 dL_law_1245 ?_
  refine go_V (av := [pv_i (mm_i M 1 (i + 1))]) (st := []) (ci := 10) ok_X10_aside ⟨Nat.le_of_ble_eq_true rfl, Nat.le_of_ble_eq_true rfl⟩ ml_L_142 rfl (by decide) (fun v hv => by simp only [List.mem_cons, List.not_mem_nil, or_false] at hv; rcases hv with rfl <;> exact pv_1i) (Nat.le_of_ble_eq_true rfl) (fun _ _ => rfl) (by decide) rfl k5 dL_law_1246 H (fun r M1 hq hS => ?_)
  obtain ⟨v, rfl, H⟩ := hq
  replace H := H hS
  obtain ⟨e1, e2⟩ := sc_S h1 hS
  have e9 : mm_k M1 99 = (11, 22) := ks_S k9 (by decide) hS
  show go_W (mt_Ln nm) fr_A 1249 (l4_ i) [pv_i v] M1 Q
  refine go_aload_n dL_law_1249 rfl ?_
  refine go_scr (j := 1) e1 hN rfl (by omega) dL_law_1250 dL_law_1251 dL_law_1252 dL_law_1253 dL_law_1254 ?_
  rw [e2 (i + 1)]
  refine go_V (av := [pv_i (mm_i M 1 (i + 1))]) (st := [pv_i v]) (ci := 11) ok_X11_aside ⟨Nat.le_of_ble_eq_true rfl, Nat.le_of_ble_eq_true rfl⟩ ml_L_145 rfl (by decide) (fun v hv => by simp only [List.mem_cons, List.not_mem_nil, or_false] at hv; rcases hv with rfl <;> exact pv_1i) (Nat.le_of_ble_eq_true rfl) (fun _ _ => rfl) (by decide) rfl e9 dL_law_1255 H (fun r M2 hq hS2 => ?_)
  obtain ⟨w, rfl, I', rfl, rfl, H⟩ := hq
  exact go_icmp_eq (tgt := 1803) dL_law_1258 (by decide) (fun _ => H) (fun q => absurd rfl q)
theorem lc_ending {M : mm_T} {N i : Nat} {nm : String} {Q : Option pv_T → mm_T → Prop} (h1 : mm_k M 1 = (15, N)) (hN : N ≤ 3072) (hi : i + 6 ≤ N) (k5 : mm_k M 5 = (10, 14)) (k9 : mm_k M 99 = (11, 22)) (H : cs_i mt_X10_ending [pv_r 5, pv_i (mm_i M 1 (i + 1))] M (fun v M1 => mm_S fr_C M M1 → rs_i mt_X11_ending [pv_r 99, pv_i (mm_i M 1 (i + 1))] M1 (mm_i M1) (fun w I' => v = w ∧ go_W (mt_Ln nm) fr_A 1803 (l4_ i) [] (mm_si M1 I') Q))) : go_W (mt_Ln nm) fr_A 1263 (l4_ i) [] M Q := by
  refine go_aload_n dL_law_1263 rfl ?_
  refine go_scr (j := 1) h1 hN rfl (by omega) dL_law_1264 dL_law_1265 dL_law_1266 dL_law_1267 dL_law_1268 ?_
  refine go_V (av := [pv_i (mm_i M 1 (i + 1))]) (st := []) (ci := 10) ok_X10_ending ⟨Nat.le_of_ble_eq_true rfl, Nat.le_of_ble_eq_true rfl⟩ ml_L_146 rfl (by decide) (fun v hv => by simp only [List.mem_cons, List.not_mem_nil, or_false] at hv; rcases hv with rfl <;> exact pv_1i) (Nat.le_of_ble_eq_true rfl) (fun _ _ => rfl) (by decide) rfl k5 dL_law_1269 H (fun r M1 hq hS => ?_)
  obtain ⟨v, rfl, H⟩ := hq
  replace H := H hS
  obtain ⟨e1, e2⟩ := sc_S h1 hS
  have e9 : mm_k M1 99 = (11, 22) := ks_S k9 (by decide) hS
  show go_W (mt_Ln nm) fr_A 1272 (l4_ i) [pv_i v] M1 Q
  refine go_aload_n dL_law_1272 rfl ?_
  refine go_scr (j := 1) e1 hN rfl (by omega) dL_law_1273 dL_law_1274 dL_law_1275 dL_law_1276 dL_law_1277 ?_
  rw [e2 (i + 1)]
  refine go_V (av := [pv_i (mm_i M 1 (i + 1))]) (st := [pv_i v]) (ci := 11) ok_X11_ending ⟨Nat.le_of_ble_eq_true rfl, Nat.le_of_ble_eq_true rfl⟩ ml_L_149 rfl (by decide) (fun v hv => by simp only [List.mem_cons, List.not_mem_nil, or_false] at hv; rcases hv with rfl <;> exact pv_1i) (Nat.le_of_ble_eq_true rfl) (fun _ _ => rfl) (by decide) rfl e9 dL_law_1278 H (fun r M2 hq hS2 => ?_)
  obtain ⟨w, rfl, I', rfl, rfl, H⟩ := hq
  exact go_icmp_eq (tgt := 1803) dL_law_1281 (by decide) (fun _ => H) (fun q => absurd rfl q)
theorem lc_strikes {M : mm_T} {N i : Nat} {nm : String} {Q : Option pv_T → mm_T → Prop} (h1 : mm_k M 1 = (15, N)) (hN : N ≤ 3072) (hi : i + 6 ≤ N) (k5 : mm_k M 5 = (10, 14)) (k9 : mm_k M 99 = (11, 22)) (H : cs_i mt_X10_strikes [pv_r 5, pv_i (mm_i M 1 (i + 1))] M (fun v M1 => mm_S fr_C M M1 → rs_i mt_X11_strikes [pv_r 99, pv_i (mm_i M 1 (i + 1))] M1 (mm_i M1) (fun w I' => v = w ∧ go_W (mt_Ln nm) fr_A 1803 (l4_ i) [] (mm_si M1 I') Q))) : go_W (mt_Ln nm) fr_A 1286 (l4_ i) [] M Q := by
  refine go_aload_n dL_law_1286 rfl ?_
  refine go_scr (j := 1) h1 hN rfl (by omega) dL_law_1287 dL_law_1288 dL_law_1289 dL_law_1290 dL_law_1291 ?_
  refine go_V (av := [pv_i (mm_i M 1 (i + 1))]) (st := []) (ci := 10) ok_X10_strikes ⟨Nat.le_of_ble_eq_true rfl, Nat.le_of_ble_eq_true rfl⟩ ml_L_150 rfl (by decide) (fun v hv => by simp only [List.mem_cons, List.not_mem_nil, or_false] at hv; rcases hv with rfl <;> exact pv_1i) (Nat.le_of_ble_eq_true rfl) (fun _ _ => rfl) (by decide) rfl k5 dL_law_1292 H (fun r M1 hq hS => ?_)
  obtain ⟨v, rfl, H⟩ := hq
  replace H := H hS
  obtain ⟨e1, e2⟩ := sc_S h1 hS
  have e9 : mm_k M1 99 = (11, 22) := ks_S k9 (by decide) hS
  show go_W (mt_Ln nm) fr_A 1295 (l4_ i) [pv_i v] M1 Q
  refine go_aload_n dL_law_1295 rfl ?_
  refine go_scr (j := 1) e1 hN rfl (by omega) dL_law_1296 dL_law_1297 dL_law_1298 dL_law_1299 dL_law_1300 ?_
  rw [e2 (i + 1)]
  refine go_V (av := [pv_i (mm_i M 1 (i + 1))]) (st := [pv_i v]) (ci := 11) ok_X11_strikes ⟨Nat.le_of_ble_eq_true rfl, Nat.le_of_ble_eq_true rfl⟩ ml_L_153 rfl (by decide) (fun v hv => by simp only [List.mem_cons, List.not_mem_nil, or_false] at hv; rcases hv with rfl <;> exact pv_1i) (Nat.le_of_ble_eq_true rfl) (fun _ _ => rfl) (by decide) rfl e9 dL_law_1301 H (fun r M2 hq hS2 => ?_)
  obtain ⟨w, rfl, I', rfl, rfl, H⟩ := hq
  exact go_icmp_eq (tgt := 1803) dL_law_1304 (by decide) (fun _ => H) (fun q => absurd rfl q)
theorem lc_banned {M : mm_T} {N i : Nat} {nm : String} {Q : Option pv_T → mm_T → Prop} (h1 : mm_k M 1 = (15, N)) (hN : N ≤ 3072) (hi : i + 6 ≤ N) (k5 : mm_k M 5 = (10, 14)) (k9 : mm_k M 99 = (11, 22)) (H : cs_i mt_X10_banned [pv_r 5, pv_i (mm_i M 1 (i + 1))] M (fun v M1 => mm_S fr_C M M1 → rs_i mt_X11_banned [pv_r 99, pv_i (mm_i M 1 (i + 1))] M1 (mm_i M1) (fun w I' => v = w ∧ go_W (mt_Ln nm) fr_A 1803 (l4_ i) [] (mm_si M1 I') Q))) : go_W (mt_Ln nm) fr_A 1309 (l4_ i) [] M Q := by
  refine go_aload_n dL_law_1309 rfl ?_
  refine go_scr (j := 1) h1 hN rfl (by omega) dL_law_1310 dL_law_1311 dL_law_1312 dL_law_1313 dL_law_1314 ?_
  refine go_V (av := [pv_i (mm_i M 1 (i + 1))]) (st := []) (ci := 10) ok_X10_banned ⟨Nat.le_of_ble_eq_true rfl, Nat.le_of_ble_eq_true rfl⟩ ml_L_154 rfl (by decide) (fun v hv => by simp only [List.mem_cons, List.not_mem_nil, or_false] at hv; rcases hv with rfl <;> exact pv_1i) (Nat.le_of_ble_eq_true rfl) (fun _ _ => rfl) (by decide) rfl k5 dL_law_1315 H (fun r M1 hq hS => ?_)
  obtain ⟨v, rfl, H⟩ := hq
  replace H := H hS
  obtain ⟨e1, e2⟩ := sc_S h1 hS
  have e9 : mm_k M1 99 = (11, 22) := ks_S k9 (by decide) hS
  show go_W (mt_Ln nm) fr_A 1318 (l4_ i) [pv_i v] M1 Q
  refine go_aload_n dL_law_1318 rfl ?_
  refine go_scr (j := 1) e1 hN rfl (by omega) dL_law_1319 dL_law_1320 dL_law_1321 dL_law_1322 dL_law_1323 ?_
  rw [e2 (i + 1)]
  refine go_V (av := [pv_i (mm_i M 1 (i + 1))]) (st := [pv_i v]) (ci := 11) ok_X11_banned ⟨Nat.le_of_ble_eq_true rfl, Nat.le_of_ble_eq_true rfl⟩ ml_L_157 rfl (by decide) (fun v hv => by simp only [List.mem_cons, List.not_mem_nil, or_false] at hv; rcases hv with rfl <;> exact pv_1i) (Nat.le_of_ble_eq_true rfl) (fun _ _ => rfl) (by decide) rfl e9 dL_law_1324 H (fun r M2 hq hS2 => ?_)
  obtain ⟨w, rfl, I', rfl, rfl, H⟩ := hq
  exact go_icmp_eq (tgt := 1803) dL_law_1327 (by decide) (fun _ => H) (fun q => absurd rfl q)
theorem lc_waits {M : mm_T} {N i : Nat} {nm : String} {Q : Option pv_T → mm_T → Prop} (h1 : mm_k M 1 = (15, N)) (hN : N ≤ 3072) (hi : i + 6 ≤ N) (k5 : mm_k M 5 = (10, 14)) (k9 : mm_k M 99 = (11, 22)) (H : cs_i mt_X10_waits [pv_r 5, pv_i (mm_i M 1 (i + 1)), pv_i (mm_i M 1 (i + 2))] M (fun v M1 => mm_S fr_C M M1 → rs_i mt_X11_waits [pv_r 99, pv_i (mm_i M 1 (i + 1)), pv_i (mm_i M 1 (i + 2))] M1 (mm_i M1) (fun w I' => v = w ∧ go_W (mt_Ln nm) fr_A 1803 (l4_ i) [] (mm_si M1 I') Q))) : go_W (mt_Ln nm) fr_A 1332 (l4_ i) [] M Q := by
  refine go_aload_n dL_law_1332 rfl ?_
  refine go_scr (j := 1) h1 hN rfl (by omega) dL_law_1333 dL_law_1334 dL_law_1335 dL_law_1336 dL_law_1337 ?_
  refine go_scr (j := 2) h1 hN rfl (by omega) dL_law_1338 dL_law_1339 dL_law_1340 dL_law_1341 dL_law_1342 ?_
  refine go_V (av := [pv_i (mm_i M 1 (i + 1)), pv_i (mm_i M 1 (i + 2))]) (st := []) (ci := 10) ok_X10_waits ⟨Nat.le_of_ble_eq_true rfl, Nat.le_of_ble_eq_true rfl⟩ ml_L_158 rfl (by decide) (fun v hv => by simp only [List.mem_cons, List.not_mem_nil, or_false] at hv; rcases hv with rfl | rfl <;> exact pv_1i) (Nat.le_of_ble_eq_true rfl) (fun _ _ => rfl) (by decide) rfl k5 dL_law_1343 H (fun r M1 hq hS => ?_)
  obtain ⟨v, rfl, H⟩ := hq
  replace H := H hS
  obtain ⟨e1, e2⟩ := sc_S h1 hS
  have e9 : mm_k M1 99 = (11, 22) := ks_S k9 (by decide) hS
  show go_W (mt_Ln nm) fr_A 1346 (l4_ i) [pv_i v] M1 Q
  refine go_aload_n dL_law_1346 rfl ?_
  refine go_scr (j := 1) e1 hN rfl (by omega) dL_law_1347 dL_law_1348 dL_law_1349 dL_law_1350 dL_law_1351 ?_
  rw [e2 (i + 1)]
  refine go_scr (j := 2) e1 hN rfl (by omega) dL_law_1352 dL_law_1353 dL_law_1354 dL_law_1355 dL_law_1356 ?_
  rw [e2 (i + 2)]
  refine go_V (av := [pv_i (mm_i M 1 (i + 1)), pv_i (mm_i M 1 (i + 2))]) (st := [pv_i v]) (ci := 11) ok_X11_waits ⟨Nat.le_of_ble_eq_true rfl, Nat.le_of_ble_eq_true rfl⟩ ml_L_161 rfl (by decide) (fun v hv => by simp only [List.mem_cons, List.not_mem_nil, or_false] at hv; rcases hv with rfl | rfl <;> exact pv_1i) (Nat.le_of_ble_eq_true rfl) (fun _ _ => rfl) (by decide) rfl e9 dL_law_1357 H (fun r M2 hq hS2 => ?_)
  obtain ⟨w, rfl, I', rfl, rfl, H⟩ := hq
  exact go_icmp_eq (tgt := 1803) dL_law_1360 (by decide) (fun _ => H) (fun q => absurd rfl q)
theorem lc_share {M : mm_T} {N i : Nat} {nm : String} {Q : Option pv_T → mm_T → Prop} (h1 : mm_k M 1 = (15, N)) (hN : N ≤ 3072) (hi : i + 6 ≤ N) (k5 : mm_k M 5 = (10, 14)) (k9 : mm_k M 99 = (11, 22)) (H : cs_i mt_X10_share [pv_r 5, pv_i (mm_i M 1 (i + 1)), pv_i (mm_i M 1 (i + 2))] M (fun v M1 => mm_S fr_C M M1 → rs_i mt_X11_share [pv_r 99, pv_i (mm_i M 1 (i + 1)), pv_i (mm_i M 1 (i + 2))] M1 (mm_i M1) (fun w I' => v = w ∧ go_W (mt_Ln nm) fr_A 1803 (l4_ i) [] (mm_si M1 I') Q))) : go_W (mt_Ln nm) fr_A 1365 (l4_ i) [] M Q := by
  refine go_aload_n dL_law_1365 rfl ?_
  refine go_scr (j := 1) h1 hN rfl (by omega) dL_law_1366 dL_law_1367 dL_law_1368 dL_law_1369 dL_law_1370 ?_
  refine go_scr (j := 2) h1 hN rfl (by omega) dL_law_1371 dL_law_1372 dL_law_1373 dL_law_1374 dL_law_1375 ?_
  refine go_V (av := [pv_i (mm_i M 1 (i + 1)), pv_i (mm_i M 1 (i + 2))]) (st := []) (ci := 10) ok_X10_share ⟨Nat.le_of_ble_eq_true rfl, Nat.le_of_ble_eq_true rfl⟩ ml_L_162 rfl (by decide) (fun v hv => by simp only [List.mem_cons, List.not_mem_nil, or_false] at hv; rcases hv with rfl | rfl <;> exact pv_1i) (Nat.le_of_ble_eq_true rfl) (fun _ _ => rfl) (by decide) rfl k5 dL_law_1376 H (fun r M1 hq hS => ?_)
  obtain ⟨v, rfl, H⟩ := hq
  replace H := H hS
  obtain ⟨e1, e2⟩ := sc_S h1 hS
  have e9 : mm_k M1 99 = (11, 22) := ks_S k9 (by decide) hS
  show go_W (mt_Ln nm) fr_A 1379 (l4_ i) [pv_i v] M1 Q
  refine go_aload_n dL_law_1379 rfl ?_
  refine go_scr (j := 1) e1 hN rfl (by omega) dL_law_1380 dL_law_1381 dL_law_1382 dL_law_1383 dL_law_1384 ?_
  rw [e2 (i + 1)]
  refine go_scr (j := 2) e1 hN rfl (by omega) dL_law_1385 dL_law_1386 dL_law_1387 dL_law_1388 dL_law_1389 ?_
  rw [e2 (i + 2)]
  refine go_V (av := [pv_i (mm_i M 1 (i + 1)), pv_i (mm_i M 1 (i + 2))]) (st := [pv_i v]) (ci := 11) ok_X11_share ⟨Nat.le_of_ble_eq_true rfl, Nat.le_of_ble_eq_true rfl⟩ ml_L_165 rfl (by decide) (fun v hv => by simp only [List.mem_cons, List.not_mem_nil, or_false] at hv; rcases hv with rfl | rfl <;> exact pv_1i) (Nat.le_of_ble_eq_true rfl) (fun _ _ => rfl) (by decide) rfl e9 dL_law_1390 H (fun r M2 hq hS2 => ?_)
  obtain ⟨w, rfl, I', rfl, rfl, H⟩ := hq
  exact go_icmp_eq (tgt := 1803) dL_law_1393 (by decide) (fun _ => H) (fun q => absurd rfl q)
theorem lc_path {M : mm_T} {N i : Nat} {nm : String} {Q : Option pv_T → mm_T → Prop} (h1 : mm_k M 1 = (15, N)) (hN : N ≤ 3072) (hi : i + 6 ≤ N) (k5 : mm_k M 5 = (10, 14)) (k9 : mm_k M 99 = (11, 22)) (H : cs_i mt_X10_path [pv_r 5, pv_i (mm_i M 1 (i + 1)), pv_i (mm_i M 1 (i + 2))] M (fun v M1 => mm_S fr_C M M1 → rs_i mt_X11_path [pv_r 99, pv_i (mm_i M 1 (i + 1)), pv_i (mm_i M 1 (i + 2))] M1 (mm_i M1) (fun w I' => v = w ∧ go_W (mt_Ln nm) fr_A 1803 (l4_ i) [] (mm_si M1 I') Q))) : go_W (mt_Ln nm) fr_A 1398 (l4_ i) [] M Q := by
  refine go_aload_n dL_law_1398 rfl ?_
  refine go_scr (j := 1) h1 hN rfl (by omega) dL_law_1399 dL_law_1400 dL_law_1401 dL_law_1402 dL_law_1403 ?_
  refine go_scr (j := 2) h1 hN rfl (by omega) dL_law_1404 dL_law_1405 dL_law_1406 dL_law_1407 dL_law_1408 ?_
  refine go_V (av := [pv_i (mm_i M 1 (i + 1)), pv_i (mm_i M 1 (i + 2))]) (st := []) (ci := 10) ok_X10_path ⟨Nat.le_of_ble_eq_true rfl, Nat.le_of_ble_eq_true rfl⟩ ml_L_166 rfl (by decide) (fun v hv => by simp only [List.mem_cons, List.not_mem_nil, or_false] at hv; rcases hv with rfl | rfl <;> exact pv_1i) (Nat.le_of_ble_eq_true rfl) (fun _ _ => rfl) (by decide) rfl k5 dL_law_1409 H (fun r M1 hq hS => ?_)
  obtain ⟨v, rfl, H⟩ := hq
  replace H := H hS
  obtain ⟨e1, e2⟩ := sc_S h1 hS
  have e9 : mm_k M1 99 = (11, 22) := ks_S k9 (by decide) hS
  show go_W (mt_Ln nm) fr_A 1412 (l4_ i) [pv_i v] M1 Q
  refine go_aload_n dL_law_1412 rfl ?_
  refine go_scr (j := 1) e1 hN rfl (by omega) dL_law_1413 dL_law_1414 dL_law_1415 dL_law_1416 dL_law_1417 ?_
  rw [e2 (i + 1)]
  refine go_scr (j := 2) e1 hN rfl (by omega) dL_law_1418 dL_law_1419 dL_law_1420 dL_law_1421 dL_law_1422 ?_
  rw [e2 (i + 2)]
  refine go_V (av := [pv_i (mm_i M 1 (i + 1)), pv_i (mm_i M 1 (i + 2))]) (st := [pv_i v]) (ci := 11) ok_X11_path ⟨Nat.le_of_ble_eq_true rfl, Nat.le_of_ble_eq_true rfl⟩ ml_L_169 rfl (by decide) (fun v hv => by simp only [List.mem_cons, List.not_mem_nil, or_false] at hv; rcases hv with rfl | rfl <;> exact pv_1i) (Nat.le_of_ble_eq_true rfl) (fun _ _ => rfl) (by decide) rfl e9 dL_law_1423 H (fun r M2 hq hS2 => ?_)
  obtain ⟨w, rfl, I', rfl, rfl, H⟩ := hq
  exact go_icmp_eq (tgt := 1803) dL_law_1426 (by decide) (fun _ => H) (fun q => absurd rfl q)
theorem lc_ahead {M : mm_T} {N i : Nat} {nm : String} {Q : Option pv_T → mm_T → Prop} (h1 : mm_k M 1 = (15, N)) (hN : N ≤ 3072) (hi : i + 6 ≤ N) (k5 : mm_k M 5 = (10, 14)) (k9 : mm_k M 99 = (11, 22)) (H : cs_i mt_X10_ahead [pv_r 5, pv_i (mm_i M 1 (i + 1))] M (fun v M1 => mm_S fr_C M M1 → rs_i mt_X11_ahead [pv_r 99, pv_i (mm_i M 1 (i + 1))] M1 (mm_i M1) (fun w I' => v = w ∧ go_W (mt_Ln nm) fr_A 1803 (l4_ i) [] (mm_si M1 I') Q))) : go_W (mt_Ln nm) fr_A 1431 (l4_ i) [] M Q := by
  refine go_aload_n dL_law_1431 rfl ?_
  refine go_scr (j := 1) h1 hN rfl (by omega) dL_law_1432 dL_law_1433 dL_law_1434 dL_law_1435 dL_law_1436 ?_
  refine go_V (av := [pv_i (mm_i M 1 (i + 1))]) (st := []) (ci := 10) ok_X10_ahead ⟨Nat.le_of_ble_eq_true rfl, Nat.le_of_ble_eq_true rfl⟩ ml_L_170 rfl (by decide) (fun v hv => by simp only [List.mem_cons, List.not_mem_nil, or_false] at hv; rcases hv with rfl <;> exact pv_1i) (Nat.le_of_ble_eq_true rfl) (fun _ _ => rfl) (by decide) rfl k5 dL_law_1437 H (fun r M1 hq hS => ?_)
  obtain ⟨v, rfl, H⟩ := hq
  replace H := H hS
  obtain ⟨e1, e2⟩ := sc_S h1 hS
  have e9 : mm_k M1 99 = (11, 22) := ks_S k9 (by decide) hS
  show go_W (mt_Ln nm) fr_A 1440 (l4_ i) [pv_i v] M1 Q
  refine go_aload_n dL_law_1440 rfl ?_
  refine go_scr (j := 1) e1 hN rfl (by omega) dL_law_1441 dL_law_1442 dL_law_1443 dL_law_1444 dL_law_1445 ?_
  rw [e2 (i + 1)]
  refine go_V (av := [pv_i (mm_i M 1 (i + 1))]) (st := [pv_i v]) (ci := 11) ok_X11_ahead ⟨Nat.le_of_ble_eq_true rfl, Nat.le_of_ble_eq_true rfl⟩ ml_L_173 rfl (by decide) (fun v hv => by simp only [List.mem_cons, List.not_mem_nil, or_false] at hv; rcases hv with rfl <;> exact pv_1i) (Nat.le_of_ble_eq_true rfl) (fun _ _ => rfl) (by decide) rfl e9 dL_law_1446 H (fun r M2 hq hS2 => ?_)
  obtain ⟨w, rfl, I', rfl, rfl, H⟩ := hq
  exact go_icmp_eq (tgt := 1803) dL_law_1449 (by decide) (fun _ => H) (fun q => absurd rfl q)
theorem lc_turnOf {M : mm_T} {N i : Nat} {nm : String} {Q : Option pv_T → mm_T → Prop} (h1 : mm_k M 1 = (15, N)) (hN : N ≤ 3072) (hi : i + 6 ≤ N) (k5 : mm_k M 5 = (10, 14)) (k9 : mm_k M 99 = (11, 22)) (H : cs_i mt_X10_turnOf [pv_r 5, pv_i (mm_i M 1 (i + 1))] M (fun v M1 => mm_S fr_C M M1 → rs_i mt_X11_turnOf [pv_r 99, pv_i (mm_i M 1 (i + 1))] M1 (mm_i M1) (fun w I' => v = w ∧ go_W (mt_Ln nm) fr_A 1803 (l4_ i) [] (mm_si M1 I') Q))) : go_W (mt_Ln nm) fr_A 1454 (l4_ i) [] M Q := by
  refine go_aload_n dL_law_1454 rfl ?_
  refine go_scr (j := 1) h1 hN rfl (by omega) dL_law_1455 dL_law_1456 dL_law_1457 dL_law_1458 dL_law_1459 ?_
  refine go_V (av := [pv_i (mm_i M 1 (i + 1))]) (st := []) (ci := 10) ok_X10_turnOf ⟨Nat.le_of_ble_eq_true rfl, Nat.le_of_ble_eq_true rfl⟩ ml_L_174 rfl (by decide) (fun v hv => by simp only [List.mem_cons, List.not_mem_nil, or_false] at hv; rcases hv with rfl <;> exact pv_1i) (Nat.le_of_ble_eq_true rfl) (fun _ _ => rfl) (by decide) rfl k5 dL_law_1460 H (fun r M1 hq hS => ?_)
  obtain ⟨v, rfl, H⟩ := hq
  replace H := H hS
  obtain ⟨e1, e2⟩ := sc_S h1 hS
  have e9 : mm_k M1 99 = (11, 22) := ks_S k9 (by decide) hS
  show go_W (mt_Ln nm) fr_A 1463 (l4_ i) [pv_i v] M1 Q
  refine go_aload_n dL_law_1463 rfl ?_
  refine go_scr (j := 1) e1 hN rfl (by omega) dL_law_1464 dL_law_1465 dL_law_1466 dL_law_1467 dL_law_1468 ?_
  rw [e2 (i + 1)]
  refine go_V (av := [pv_i (mm_i M 1 (i + 1))]) (st := [pv_i v]) (ci := 11) ok_X11_turnOf ⟨Nat.le_of_ble_eq_true rfl, Nat.le_of_ble_eq_true rfl⟩ ml_L_177 rfl (by decide) (fun v hv => by simp only [List.mem_cons, List.not_mem_nil, or_false] at hv; rcases hv with rfl <;> exact pv_1i) (Nat.le_of_ble_eq_true rfl) (fun _ _ => rfl) (by decide) rfl e9 dL_law_1469 H (fun r M2 hq hS2 => ?_)
  obtain ⟨w, rfl, I', rfl, rfl, H⟩ := hq
  exact go_icmp_eq (tgt := 1803) dL_law_1472 (by decide) (fun _ => H) (fun q => absurd rfl q)
theorem lc_bestLane {M : mm_T} {N i : Nat} {nm : String} {Q : Option pv_T → mm_T → Prop} (h1 : mm_k M 1 = (15, N)) (hN : N ≤ 3072) (hi : i + 6 ≤ N) (k5 : mm_k M 5 = (10, 14)) (k9 : mm_k M 99 = (11, 22)) (H : cs_i mt_X10_bestLane [pv_r 5, pv_i (mm_i M 1 (i + 1)), pv_i (mm_i M 1 (i + 2))] M (fun v M1 => mm_S fr_C M M1 → rs_i mt_X11_bestLane [pv_r 99, pv_i (mm_i M 1 (i + 1)), pv_i (mm_i M 1 (i + 2))] M1 (mm_i M1) (fun w I' => v = w ∧ go_W (mt_Ln nm) fr_A 1803 (l4_ i) [] (mm_si M1 I') Q))) : go_W (mt_Ln nm) fr_A 1477 (l4_ i) [] M Q := by
  refine go_aload_n dL_law_1477 rfl ?_
  refine go_scr (j := 1) h1 hN rfl (by omega) dL_law_1478 dL_law_1479 dL_law_1480 dL_law_1481 dL_law_1482 ?_
  refine go_scr (j := 2) h1 hN rfl (by omega) dL_law_1483 dL_law_1484 dL_law_1485 dL_law_1486 dL_law_1487 ?_
  refine go_V (av := [pv_i (mm_i M 1 (i + 1)), pv_i (mm_i M 1 (i + 2))]) (st := []) (ci := 10) ok_X10_bestLane ⟨Nat.le_of_ble_eq_true rfl, Nat.le_of_ble_eq_true rfl⟩ ml_L_178 rfl (by decide) (fun v hv => by simp only [List.mem_cons, List.not_mem_nil, or_false] at hv; rcases hv with rfl | rfl <;> exact pv_1i) (Nat.le_of_ble_eq_true rfl) (fun _ _ => rfl) (by decide) rfl k5 dL_law_1488 H (fun r M1 hq hS => ?_)
  obtain ⟨v, rfl, H⟩ := hq
  replace H := H hS
  obtain ⟨e1, e2⟩ := sc_S h1 hS
  have e9 : mm_k M1 99 = (11, 22) := ks_S k9 (by decide) hS
  show go_W (mt_Ln nm) fr_A 1491 (l4_ i) [pv_i v] M1 Q
  refine go_aload_n dL_law_1491 rfl ?_
  refine go_scr (j := 1) e1 hN rfl (by omega) dL_law_1492 dL_law_1493 dL_law_1494 dL_law_1495 dL_law_1496 ?_
  rw [e2 (i + 1)]
  refine go_scr (j := 2) e1 hN rfl (by omega) dL_law_1497 dL_law_1498 dL_law_1499 dL_law_1500 dL_law_1501 ?_
  rw [e2 (i + 2)]
  refine go_V (av := [pv_i (mm_i M 1 (i + 1)), pv_i (mm_i M 1 (i + 2))]) (st := [pv_i v]) (ci := 11) ok_X11_bestLane ⟨Nat.le_of_ble_eq_true rfl, Nat.le_of_ble_eq_true rfl⟩ ml_L_181 rfl (by decide) (fun v hv => by simp only [List.mem_cons, List.not_mem_nil, or_false] at hv; rcases hv with rfl | rfl <;> exact pv_1i) (Nat.le_of_ble_eq_true rfl) (fun _ _ => rfl) (by decide) rfl e9 dL_law_1502 H (fun r M2 hq hS2 => ?_)
  obtain ⟨w, rfl, I', rfl, rfl, H⟩ := hq
  exact go_icmp_eq (tgt := 1803) dL_law_1505 (by decide) (fun _ => H) (fun q => absurd rfl q)
theorem lc_chain {M : mm_T} {N i : Nat} {nm : String} {Q : Option pv_T → mm_T → Prop} (h1 : mm_k M 1 = (15, N)) (hN : N ≤ 3072) (hi : i + 6 ≤ N) (k5 : mm_k M 5 = (10, 14)) (k9 : mm_k M 99 = (11, 22)) (H : cs_i mt_X10_chain [pv_r 5, pv_i (mm_i M 1 (i + 1)), pv_i (mm_i M 1 (i + 2))] M (fun v M1 => mm_S fr_C M M1 → rs_i mt_X11_chain [pv_r 99, pv_i (mm_i M 1 (i + 1)), pv_i (mm_i M 1 (i + 2))] M1 (mm_i M1) (fun w I' => v = w ∧ go_W (mt_Ln nm) fr_A 1803 (l4_ i) [] (mm_si M1 I') Q))) : go_W (mt_Ln nm) fr_A 1510 (l4_ i) [] M Q := by
  refine go_aload_n dL_law_1510 rfl ?_
  refine go_scr (j := 1) h1 hN rfl (by omega) dL_law_1511 dL_law_1512 dL_law_1513 dL_law_1514 dL_law_1515 ?_
  refine go_scr (j := 2) h1 hN rfl (by omega) dL_law_1516 dL_law_1517 dL_law_1518 dL_law_1519 dL_law_1520 ?_
  refine go_V (av := [pv_i (mm_i M 1 (i + 1)), pv_i (mm_i M 1 (i + 2))]) (st := []) (ci := 10) ok_X10_chain ⟨Nat.le_of_ble_eq_true rfl, Nat.le_of_ble_eq_true rfl⟩ ml_L_182 rfl (by decide) (fun v hv => by simp only [List.mem_cons, List.not_mem_nil, or_false] at hv; rcases hv with rfl | rfl <;> exact pv_1i) (Nat.le_of_ble_eq_true rfl) (fun _ _ => rfl) (by decide) rfl k5 dL_law_1521 H (fun r M1 hq hS => ?_)
  obtain ⟨v, rfl, H⟩ := hq
  replace H := H hS
  obtain ⟨e1, e2⟩ := sc_S h1 hS
  have e9 : mm_k M1 99 = (11, 22) := ks_S k9 (by decide) hS
  show go_W (mt_Ln nm) fr_A 1524 (l4_ i) [pv_i v] M1 Q
  refine go_aload_n dL_law_1524 rfl ?_
  refine go_scr (j := 1) e1 hN rfl (by omega) dL_law_1525 dL_law_1526 dL_law_1527 dL_law_1528 dL_law_1529 ?_
  rw [e2 (i + 1)]
  refine go_scr (j := 2) e1 hN rfl (by omega) dL_law_1530 dL_law_1531 dL_law_1532 dL_law_1533 dL_law_1534 ?_
  rw [e2 (i + 2)]
  refine go_V (av := [pv_i (mm_i M 1 (i + 1)), pv_i (mm_i M 1 (i + 2))]) (st := [pv_i v]) (ci := 11) ok_X11_chain ⟨Nat.le_of_ble_eq_true rfl, Nat.le_of_ble_eq_true rfl⟩ ml_L_185 rfl (by decide) (fun v hv => by simp only [List.mem_cons, List.not_mem_nil, or_false] at hv; rcases hv with rfl | rfl <;> exact pv_1i) (Nat.le_of_ble_eq_true rfl) (fun _ _ => rfl) (by decide) rfl e9 dL_law_1535 H (fun r M2 hq hS2 => ?_)
  obtain ⟨w, rfl, I', rfl, rfl, H⟩ := hq
  exact go_icmp_eq (tgt := 1803) dL_law_1538 (by decide) (fun _ => H) (fun q => absurd rfl q)
theorem lc_lapse {M : mm_T} {N i : Nat} {nm : String} {Q : Option pv_T → mm_T → Prop} (h1 : mm_k M 1 = (15, N)) (hN : N ≤ 3072) (hi : i + 6 ≤ N) (k5 : mm_k M 5 = (10, 14)) (k9 : mm_k M 99 = (11, 22)) (H : cs_i mt_X10_lapse [pv_r 5, pv_i (mm_i M 1 (i + 1)), pv_i (mm_i M 1 (i + 2))] M (fun v M1 => mm_S fr_C M M1 → rs_i mt_X11_lapse [pv_r 99, pv_i (mm_i M 1 (i + 1)), pv_i (mm_i M 1 (i + 2))] M1 (mm_i M1) (fun w I' => v = w ∧ go_W (mt_Ln nm) fr_A 1803 (l4_ i) [] (mm_si M1 I') Q))) : go_W (mt_Ln nm) fr_A 1543 (l4_ i) [] M Q := by
  refine go_aload_n dL_law_1543 rfl ?_
  refine go_scr (j := 1) h1 hN rfl (by omega) dL_law_1544 dL_law_1545 dL_law_1546 dL_law_1547 dL_law_1548 ?_
  refine go_scr (j := 2) h1 hN rfl (by omega) dL_law_1549 dL_law_1550 dL_law_1551 dL_law_1552 dL_law_1553 ?_
  refine go_V (av := [pv_i (mm_i M 1 (i + 1)), pv_i (mm_i M 1 (i + 2))]) (st := []) (ci := 10) ok_X10_lapse ⟨Nat.le_of_ble_eq_true rfl, Nat.le_of_ble_eq_true rfl⟩ ml_L_186 rfl (by decide) (fun v hv => by simp only [List.mem_cons, List.not_mem_nil, or_false] at hv; rcases hv with rfl | rfl <;> exact pv_1i) (Nat.le_of_ble_eq_true rfl) (fun _ _ => rfl) (by decide) rfl k5 dL_law_1554 H (fun r M1 hq hS => ?_)
  obtain ⟨v, rfl, H⟩ := hq
  replace H := H hS
  obtain ⟨e1, e2⟩ := sc_S h1 hS
  have e9 : mm_k M1 99 = (11, 22) := ks_S k9 (by decide) hS
  show go_W (mt_Ln nm) fr_A 1557 (l4_ i) [pv_i v] M1 Q
  refine go_aload_n dL_law_1557 rfl ?_
  refine go_scr (j := 1) e1 hN rfl (by omega) dL_law_1558 dL_law_1559 dL_law_1560 dL_law_1561 dL_law_1562 ?_
  rw [e2 (i + 1)]
  refine go_scr (j := 2) e1 hN rfl (by omega) dL_law_1563 dL_law_1564 dL_law_1565 dL_law_1566 dL_law_1567 ?_
  rw [e2 (i + 2)]
  refine go_V (av := [pv_i (mm_i M 1 (i + 1)), pv_i (mm_i M 1 (i + 2))]) (st := [pv_i v]) (ci := 11) ok_X11_lapse ⟨Nat.le_of_ble_eq_true rfl, Nat.le_of_ble_eq_true rfl⟩ ml_L_189 rfl (by decide) (fun v hv => by simp only [List.mem_cons, List.not_mem_nil, or_false] at hv; rcases hv with rfl | rfl <;> exact pv_1i) (Nat.le_of_ble_eq_true rfl) (fun _ _ => rfl) (by decide) rfl e9 dL_law_1568 H (fun r M2 hq hS2 => ?_)
  obtain ⟨w, rfl, I', rfl, rfl, H⟩ := hq
  exact go_icmp_eq (tgt := 1803) dL_law_1571 (by decide) (fun _ => H) (fun q => absurd rfl q)
theorem lc_safe {M : mm_T} {N i : Nat} {nm : String} {Q : Option pv_T → mm_T → Prop} (h1 : mm_k M 1 = (15, N)) (hN : N ≤ 3072) (hi : i + 6 ≤ N) (k5 : mm_k M 5 = (10, 14)) (k9 : mm_k M 99 = (11, 22)) (H : cs_i mt_X10_safe [pv_r 5, pv_i (mm_i M 1 (i + 1))] M (fun v M1 => mm_S fr_C M M1 → rs_i mt_X11_safe [pv_r 99, pv_i (mm_i M 1 (i + 1))] M1 (mm_i M1) (fun w I' => v = w ∧ go_W (mt_Ln nm) fr_A 1803 (l4_ i) [] (mm_si M1 I') Q))) : go_W (mt_Ln nm) fr_A 1576 (l4_ i) [] M Q := by
  refine go_aload_n dL_law_1576 rfl ?_
  refine go_scr (j := 1) h1 hN rfl (by omega) dL_law_1577 dL_law_1578 dL_law_1579 dL_law_1580 dL_law_1581 ?_
  refine go_V (av := [pv_i (mm_i M 1 (i + 1))]) (st := []) (ci := 10) ok_X10_safe ⟨Nat.le_of_ble_eq_true rfl, Nat.le_of_ble_eq_true rfl⟩ ml_L_190 rfl (by decide) (fun v hv => by simp only [List.mem_cons, List.not_mem_nil, or_false] at hv; rcases hv with rfl <;> exact pv_1i) (Nat.le_of_ble_eq_true rfl) (fun _ _ => rfl) (by decide) rfl k5 dL_law_1582 H (fun r M1 hq hS => ?_)
  obtain ⟨v, rfl, H⟩ := hq
  replace H := H hS
  obtain ⟨e1, e2⟩ := sc_S h1 hS
  have e9 : mm_k M1 99 = (11, 22) := ks_S k9 (by decide) hS
  show go_W (mt_Ln nm) fr_A 1585 (l4_ i) [pv_i v] M1 Q
  refine go_aload_n dL_law_1585 rfl ?_
  refine go_scr (j := 1) e1 hN rfl (by omega) dL_law_1586 dL_law_1587 dL_law_1588 dL_law_1589 dL_law_1590 ?_
  rw [e2 (i + 1)]
  refine go_V (av := [pv_i (mm_i M 1 (i + 1))]) (st := [pv_i v]) (ci := 11) ok_X11_safe ⟨Nat.le_of_ble_eq_true rfl, Nat.le_of_ble_eq_true rfl⟩ ml_L_193 rfl (by decide) (fun v hv => by simp only [List.mem_cons, List.not_mem_nil, or_false] at hv; rcases hv with rfl <;> exact pv_1i) (Nat.le_of_ble_eq_true rfl) (fun _ _ => rfl) (by decide) rfl e9 dL_law_1591 H (fun r M2 hq hS2 => ?_)
  obtain ⟨w, rfl, I', rfl, rfl, H⟩ := hq
  exact go_icmp_eq (tgt := 1803) dL_law_1594 (by decide) (fun _ => H) (fun q => absurd rfl q)
theorem lc_finish {M : mm_T} {N i : Nat} {nm : String} {Q : Option pv_T → mm_T → Prop} (h1 : mm_k M 1 = (15, N)) (hN : N ≤ 3072) (hi : i + 6 ≤ N) (k5 : mm_k M 5 = (10, 14)) (k9 : mm_k M 99 = (11, 22)) (H : cs_i mt_X10_finish [pv_r 5, pv_i (mm_i M 1 (i + 1)), pv_i (mm_i M 1 (i + 2))] M (fun v M1 => mm_S fr_C M M1 → rs_i mt_X11_finish [pv_r 99, pv_i (mm_i M 1 (i + 1)), pv_i (mm_i M 1 (i + 2))] M1 (mm_i M1) (fun w I' => v = w ∧ go_W (mt_Ln nm) fr_A 1803 (l4_ i) [] (mm_si M1 I') Q))) : go_W (mt_Ln nm) fr_A 1599 (l4_ i) [] M Q := by
  refine go_aload_n dL_law_1599 rfl ?_
  refine go_scr (j := 1) h1 hN rfl (by omega) dL_law_1600 dL_law_1601 dL_law_1602 dL_law_1603 dL_law_1604 ?_
  refine go_scr (j := 2) h1 hN rfl (by omega) dL_law_1605 dL_law_1606 dL_law_1607 dL_law_1608 dL_law_1609 ?_
  refine go_V (av := [pv_i (mm_i M 1 (i + 1)), pv_i (mm_i M 1 (i + 2))]) (st := []) (ci := 10) ok_X10_finish ⟨Nat.le_of_ble_eq_true rfl, Nat.le_of_ble_eq_true rfl⟩ ml_L_194 rfl (by decide) (fun v hv => by simp only [List.mem_cons, List.not_mem_nil, or_false] at hv; rcases hv with rfl | rfl <;> exact pv_1i) (Nat.le_of_ble_eq_true rfl) (fun _ _ => rfl) (by decide) rfl k5 dL_law_1610 H (fun r M1 hq hS => ?_)
  obtain ⟨v, rfl, H⟩ := hq
  replace H := H hS
  obtain ⟨e1, e2⟩ := sc_S h1 hS
  have e9 : mm_k M1 99 = (11, 22) := ks_S k9 (by decide) hS
  show go_W (mt_Ln nm) fr_A 1613 (l4_ i) [pv_i v] M1 Q
  refine go_aload_n dL_law_1613 rfl ?_
  refine go_scr (j := 1) e1 hN rfl (by omega) dL_law_1614 dL_law_1615 dL_law_1616 dL_law_1617 dL_law_1618 ?_
  rw [e2 (i + 1)]
  refine go_scr (j := 2) e1 hN rfl (by omega) dL_law_1619 dL_law_1620 dL_law_1621 dL_law_1622 dL_law_1623 ?_
  rw [e2 (i + 2)]
  refine go_V (av := [pv_i (mm_i M 1 (i + 1)), pv_i (mm_i M 1 (i + 2))]) (st := [pv_i v]) (ci := 11) ok_X11_finish ⟨Nat.le_of_ble_eq_true rfl, Nat.le_of_ble_eq_true rfl⟩ ml_L_197 rfl (by decide) (fun v hv => by simp only [List.mem_cons, List.not_mem_nil, or_false] at hv; rcases hv with rfl | rfl <;> exact pv_1i) (Nat.le_of_ble_eq_true rfl) (fun _ _ => rfl) (by decide) rfl e9 dL_law_1624 H (fun r M2 hq hS2 => ?_)
  obtain ⟨w, rfl, I', rfl, rfl, H⟩ := hq
  exact go_icmp_eq (tgt := 1803) dL_law_1627 (by decide) (fun _ => H) (fun q => absurd rfl q)
theorem lc_empties {M : mm_T} {N i : Nat} {nm : String} {Q : Option pv_T → mm_T → Prop} (h1 : mm_k M 1 = (15, N)) (hN : N ≤ 3072) (hi : i + 6 ≤ N) (k5 : mm_k M 5 = (10, 14)) (k9 : mm_k M 99 = (11, 22)) (H : cs_i mt_X10_empties [pv_r 5, pv_i (mm_i M 1 (i + 1)), pv_i (mm_i M 1 (i + 2))] M (fun v M1 => mm_S fr_C M M1 → rs_i mt_X11_empties [pv_r 99, pv_i (mm_i M 1 (i + 1)), pv_i (mm_i M 1 (i + 2))] M1 (mm_i M1) (fun w I' => v = w ∧ go_W (mt_Ln nm) fr_A 1803 (l4_ i) [] (mm_si M1 I') Q))) : go_W (mt_Ln nm) fr_A 1632 (l4_ i) [] M Q := by
  refine go_aload_n dL_law_1632 rfl ?_
  refine go_scr (j := 1) h1 hN rfl (by omega) dL_law_1633 dL_law_1634 dL_law_1635 dL_law_1636 dL_law_1637 ?_
  refine go_scr (j := 2) h1 hN rfl (by omega) dL_law_1638 dL_law_1639 dL_law_1640 dL_law_1641 dL_law_1642 ?_
  refine go_V (av := [pv_i (mm_i M 1 (i + 1)), pv_i (mm_i M 1 (i + 2))]) (st := []) (ci := 10) ok_X10_empties ⟨Nat.le_of_ble_eq_true rfl, Nat.le_of_ble_eq_true rfl⟩ ml_L_198 rfl (by decide) (fun v hv => by simp only [List.mem_cons, List.not_mem_nil, or_false] at hv; rcases hv with rfl | rfl <;> exact pv_1i) (Nat.le_of_ble_eq_true rfl) (fun _ _ => rfl) (by decide) rfl k5 dL_law_1643 H (fun r M1 hq hS => ?_)
  obtain ⟨v, rfl, H⟩ := hq
  replace H := H hS
  obtain ⟨e1, e2⟩ := sc_S h1 hS
  have e9 : mm_k M1 99 = (11, 22) := ks_S k9 (by decide) hS
  show go_W (mt_Ln nm) fr_A 1646 (l4_ i) [pv_i v] M1 Q
  refine go_aload_n dL_law_1646 rfl ?_
  refine go_scr (j := 1) e1 hN rfl (by omega) dL_law_1647 dL_law_1648 dL_law_1649 dL_law_1650 dL_law_1651 ?_
  rw [e2 (i + 1)]
  refine go_scr (j := 2) e1 hN rfl (by omega) dL_law_1652 dL_law_1653 dL_law_1654 dL_law_1655 dL_law_1656 ?_
  rw [e2 (i + 2)]
  refine go_V (av := [pv_i (mm_i M 1 (i + 1)), pv_i (mm_i M 1 (i + 2))]) (st := [pv_i v]) (ci := 11) ok_X11_empties ⟨Nat.le_of_ble_eq_true rfl, Nat.le_of_ble_eq_true rfl⟩ ml_L_201 rfl (by decide) (fun v hv => by simp only [List.mem_cons, List.not_mem_nil, or_false] at hv; rcases hv with rfl | rfl <;> exact pv_1i) (Nat.le_of_ble_eq_true rfl) (fun _ _ => rfl) (by decide) rfl e9 dL_law_1657 H (fun r M2 hq hS2 => ?_)
  obtain ⟨w, rfl, I', rfl, rfl, H⟩ := hq
  exact go_icmp_eq (tgt := 1803) dL_law_1660 (by decide) (fun _ => H) (fun q => absurd rfl q)
theorem lc_enough {M : mm_T} {N i : Nat} {nm : String} {Q : Option pv_T → mm_T → Prop} (h1 : mm_k M 1 = (15, N)) (hN : N ≤ 3072) (hi : i + 6 ≤ N) (k5 : mm_k M 5 = (10, 14)) (k9 : mm_k M 99 = (11, 22)) (H : cs_i mt_X10_enough [pv_r 5, pv_i (mm_i M 1 (i + 1))] M (fun v M1 => mm_S fr_C M M1 → rs_i mt_X11_enough [pv_r 99, pv_i (mm_i M 1 (i + 1))] M1 (mm_i M1) (fun w I' => v = w ∧ go_W (mt_Ln nm) fr_A 1803 (l4_ i) [] (mm_si M1 I') Q))) : go_W (mt_Ln nm) fr_A 1665 (l4_ i) [] M Q := by
  refine go_aload_n dL_law_1665 rfl ?_
  refine go_scr (j := 1) h1 hN rfl (by omega) dL_law_1666 dL_law_1667 dL_law_1668 dL_law_1669 dL_law_1670 ?_
  refine go_V (av := [pv_i (mm_i M 1 (i + 1))]) (st := []) (ci := 10) ok_X10_enough ⟨Nat.le_of_ble_eq_true rfl, Nat.le_of_ble_eq_true rfl⟩ ml_L_202 rfl (by decide) (fun v hv => by simp only [List.mem_cons, List.not_mem_nil, or_false] at hv; rcases hv with rfl <;> exact pv_1i) (Nat.le_of_ble_eq_true rfl) (fun _ _ => rfl) (by decide) rfl k5 dL_law_1671 H (fun r M1 hq hS => ?_)
  obtain ⟨v, rfl, H⟩ := hq
  replace H := H hS
  obtain ⟨e1, e2⟩ := sc_S h1 hS
  have e9 : mm_k M1 99 = (11, 22) := ks_S k9 (by decide) hS
  show go_W (mt_Ln nm) fr_A 1674 (l4_ i) [pv_i v] M1 Q
  refine go_aload_n dL_law_1674 rfl ?_
  refine go_scr (j := 1) e1 hN rfl (by omega) dL_law_1675 dL_law_1676 dL_law_1677 dL_law_1678 dL_law_1679 ?_
  rw [e2 (i + 1)]
  refine go_V (av := [pv_i (mm_i M 1 (i + 1))]) (st := [pv_i v]) (ci := 11) ok_X11_enough ⟨Nat.le_of_ble_eq_true rfl, Nat.le_of_ble_eq_true rfl⟩ ml_L_205 rfl (by decide) (fun v hv => by simp only [List.mem_cons, List.not_mem_nil, or_false] at hv; rcases hv with rfl <;> exact pv_1i) (Nat.le_of_ble_eq_true rfl) (fun _ _ => rfl) (by decide) rfl e9 dL_law_1680 H (fun r M2 hq hS2 => ?_)
  obtain ⟨w, rfl, I', rfl, rfl, H⟩ := hq
  exact go_icmp_eq (tgt := 1803) dL_law_1683 (by decide) (fun _ => H) (fun q => absurd rfl q)
theorem lc_hangs {M : mm_T} {N i : Nat} {nm : String} {Q : Option pv_T → mm_T → Prop} (h1 : mm_k M 1 = (15, N)) (hN : N ≤ 3072) (hi : i + 6 ≤ N) (k5 : mm_k M 5 = (10, 14)) (k9 : mm_k M 99 = (11, 22)) (H : cs_i mt_X10_hangs [pv_r 5, pv_i (mm_i M 1 (i + 1))] M (fun v M1 => mm_S fr_C M M1 → rs_i mt_X11_hangs [pv_r 99, pv_i (mm_i M 1 (i + 1))] M1 (mm_i M1) (fun w I' => v = w ∧ go_W (mt_Ln nm) fr_A 1803 (l4_ i) [] (mm_si M1 I') Q))) : go_W (mt_Ln nm) fr_A 1688 (l4_ i) [] M Q := by
  refine go_aload_n dL_law_1688 rfl ?_
  refine go_scr (j := 1) h1 hN rfl (by omega) dL_law_1689 dL_law_1690 dL_law_1691 dL_law_1692 dL_law_1693 ?_
  refine go_V (av := [pv_i (mm_i M 1 (i + 1))]) (st := []) (ci := 10) ok_X10_hangs ⟨Nat.le_of_ble_eq_true rfl, Nat.le_of_ble_eq_true rfl⟩ ml_L_206 rfl (by decide) (fun v hv => by simp only [List.mem_cons, List.not_mem_nil, or_false] at hv; rcases hv with rfl <;> exact pv_1i) (Nat.le_of_ble_eq_true rfl) (fun _ _ => rfl) (by decide) rfl k5 dL_law_1694 H (fun r M1 hq hS => ?_)
  obtain ⟨v, rfl, H⟩ := hq
  replace H := H hS
  obtain ⟨e1, e2⟩ := sc_S h1 hS
  have e9 : mm_k M1 99 = (11, 22) := ks_S k9 (by decide) hS
  show go_W (mt_Ln nm) fr_A 1697 (l4_ i) [pv_i v] M1 Q
  refine go_aload_n dL_law_1697 rfl ?_
  refine go_scr (j := 1) e1 hN rfl (by omega) dL_law_1698 dL_law_1699 dL_law_1700 dL_law_1701 dL_law_1702 ?_
  rw [e2 (i + 1)]
  refine go_V (av := [pv_i (mm_i M 1 (i + 1))]) (st := [pv_i v]) (ci := 11) ok_X11_hangs ⟨Nat.le_of_ble_eq_true rfl, Nat.le_of_ble_eq_true rfl⟩ ml_L_209 rfl (by decide) (fun v hv => by simp only [List.mem_cons, List.not_mem_nil, or_false] at hv; rcases hv with rfl <;> exact pv_1i) (Nat.le_of_ble_eq_true rfl) (fun _ _ => rfl) (by decide) rfl e9 dL_law_1703 H (fun r M2 hq hS2 => ?_)
  obtain ⟨w, rfl, I', rfl, rfl, H⟩ := hq
  exact go_icmp_eq (tgt := 1803) dL_law_1706 (by decide) (fun _ => H) (fun q => absurd rfl q)
theorem lc_spread {M : mm_T} {N i : Nat} {nm : String} {Q : Option pv_T → mm_T → Prop} (h1 : mm_k M 1 = (15, N)) (hN : N ≤ 3072) (hi : i + 6 ≤ N) (k5 : mm_k M 5 = (10, 14)) (k9 : mm_k M 99 = (11, 22)) (H : cs_i mt_X10_spread [pv_r 5, pv_i (mm_i M 1 (i + 1))] M (fun v M1 => mm_S fr_C M M1 → rs_i mt_X11_spread [pv_r 99, pv_i (mm_i M 1 (i + 1))] M1 (mm_i M1) (fun w I' => v = w ∧ go_W (mt_Ln nm) fr_A 1803 (l4_ i) [] (mm_si M1 I') Q))) : go_W (mt_Ln nm) fr_A 1711 (l4_ i) [] M Q := by
  refine go_aload_n dL_law_1711 rfl ?_
  refine go_scr (j := 1) h1 hN rfl (by omega) dL_law_1712 dL_law_1713 dL_law_1714 dL_law_1715 dL_law_1716 ?_
  refine go_V (av := [pv_i (mm_i M 1 (i + 1))]) (st := []) (ci := 10) ok_X10_spread ⟨Nat.le_of_ble_eq_true rfl, Nat.le_of_ble_eq_true rfl⟩ ml_L_210 rfl (by decide) (fun v hv => by simp only [List.mem_cons, List.not_mem_nil, or_false] at hv; rcases hv with rfl <;> exact pv_1i) (Nat.le_of_ble_eq_true rfl) (fun _ _ => rfl) (by decide) rfl k5 dL_law_1717 H (fun r M1 hq hS => ?_)
  obtain ⟨v, rfl, H⟩ := hq
  replace H := H hS
  obtain ⟨e1, e2⟩ := sc_S h1 hS
  have e9 : mm_k M1 99 = (11, 22) := ks_S k9 (by decide) hS
  show go_W (mt_Ln nm) fr_A 1720 (l4_ i) [pv_i v] M1 Q
  refine go_aload_n dL_law_1720 rfl ?_
  refine go_scr (j := 1) e1 hN rfl (by omega) dL_law_1721 dL_law_1722 dL_law_1723 dL_law_1724 dL_law_1725 ?_
  rw [e2 (i + 1)]
  refine go_V (av := [pv_i (mm_i M 1 (i + 1))]) (st := [pv_i v]) (ci := 11) ok_X11_spread ⟨Nat.le_of_ble_eq_true rfl, Nat.le_of_ble_eq_true rfl⟩ ml_L_213 rfl (by decide) (fun v hv => by simp only [List.mem_cons, List.not_mem_nil, or_false] at hv; rcases hv with rfl <;> exact pv_1i) (Nat.le_of_ble_eq_true rfl) (fun _ _ => rfl) (by decide) rfl e9 dL_law_1726 H (fun r M2 hq hS2 => ?_)
  obtain ⟨w, rfl, I', rfl, rfl, H⟩ := hq
  exact go_icmp_eq (tgt := 1803) dL_law_1729 (by decide) (fun _ => H) (fun q => absurd rfl q)
theorem lc_blamed {M : mm_T} {N i : Nat} {nm : String} {Q : Option pv_T → mm_T → Prop} (h1 : mm_k M 1 = (15, N)) (hN : N ≤ 3072) (hi : i + 6 ≤ N) (k5 : mm_k M 5 = (10, 14)) (k9 : mm_k M 99 = (11, 22)) (H : cs_i mt_X10_blamed [pv_r 5, pv_i (mm_i M 1 (i + 1))] M (fun v M1 => mm_S fr_C M M1 → rs_i mt_X11_blamed [pv_r 99, pv_i (mm_i M 1 (i + 1))] M1 (mm_i M1) (fun w I' => v = w ∧ go_W (mt_Ln nm) fr_A 1803 (l4_ i) [] (mm_si M1 I') Q))) : go_W (mt_Ln nm) fr_A 1734 (l4_ i) [] M Q := by
  refine go_aload_n dL_law_1734 rfl ?_
  refine go_scr (j := 1) h1 hN rfl (by omega) dL_law_1735 dL_law_1736 dL_law_1737 dL_law_1738 dL_law_1739 ?_
  refine go_V (av := [pv_i (mm_i M 1 (i + 1))]) (st := []) (ci := 10) ok_X10_blamed ⟨Nat.le_of_ble_eq_true rfl, Nat.le_of_ble_eq_true rfl⟩ ml_L_214 rfl (by decide) (fun v hv => by simp only [List.mem_cons, List.not_mem_nil, or_false] at hv; rcases hv with rfl <;> exact pv_1i) (Nat.le_of_ble_eq_true rfl) (fun _ _ => rfl) (by decide) rfl k5 dL_law_1740 H (fun r M1 hq hS => ?_)
  obtain ⟨v, rfl, H⟩ := hq
  replace H := H hS
  obtain ⟨e1, e2⟩ := sc_S h1 hS
  have e9 : mm_k M1 99 = (11, 22) := ks_S k9 (by decide) hS
  show go_W (mt_Ln nm) fr_A 1743 (l4_ i) [pv_i v] M1 Q
  refine go_aload_n dL_law_1743 rfl ?_
  refine go_scr (j := 1) e1 hN rfl (by omega) dL_law_1744 dL_law_1745 dL_law_1746 dL_law_1747 dL_law_1748 ?_
  rw [e2 (i + 1)]
  refine go_V (av := [pv_i (mm_i M 1 (i + 1))]) (st := [pv_i v]) (ci := 11) ok_X11_blamed ⟨Nat.le_of_ble_eq_true rfl, Nat.le_of_ble_eq_true rfl⟩ ml_L_217 rfl (by decide) (fun v hv => by simp only [List.mem_cons, List.not_mem_nil, or_false] at hv; rcases hv with rfl <;> exact pv_1i) (Nat.le_of_ble_eq_true rfl) (fun _ _ => rfl) (by decide) rfl e9 dL_law_1749 H (fun r M2 hq hS2 => ?_)
  obtain ⟨w, rfl, I', rfl, rfl, H⟩ := hq
  exact go_icmp_eq (tgt := 1803) dL_law_1752 (by decide) (fun _ => H) (fun q => absurd rfl q)
theorem lc_worst {M : mm_T} {N i : Nat} {nm : String} {Q : Option pv_T → mm_T → Prop} (h1 : mm_k M 1 = (15, N)) (hN : N ≤ 3072) (hi : i + 6 ≤ N) (k5 : mm_k M 5 = (10, 14)) (k9 : mm_k M 99 = (11, 22)) (H : cs_i mt_X10_worst [pv_r 5] M (fun v M1 => mm_S fr_C M M1 → rs_i mt_X11_worst [pv_r 99] M1 (mm_i M1) (fun w I' => v = w ∧ go_W (mt_Ln nm) fr_A 1803 (l4_ i) [] (mm_si M1 I') Q))) : go_W (mt_Ln nm) fr_A 1757 (l4_ i) [] M Q := by
  refine go_aload_n dL_law_1757 rfl ?_
  refine go_V (av := []) (st := []) (ci := 10) ok_X10_worst ⟨Nat.le_of_ble_eq_true rfl, Nat.le_of_ble_eq_true rfl⟩ ml_L_218 rfl (by decide) (fun v hv => absurd hv List.not_mem_nil) (Nat.le_of_ble_eq_true rfl) (fun _ _ => rfl) (by decide) rfl k5 dL_law_1758 H (fun r M1 hq hS => ?_)
  obtain ⟨v, rfl, H⟩ := hq
  replace H := H hS
  obtain ⟨e1, e2⟩ := sc_S h1 hS
  have e9 : mm_k M1 99 = (11, 22) := ks_S k9 (by decide) hS
  show go_W (mt_Ln nm) fr_A 1761 (l4_ i) [pv_i v] M1 Q
  refine go_aload_n dL_law_1761 rfl ?_
  refine go_V (av := []) (st := [pv_i v]) (ci := 11) ok_X11_worst ⟨Nat.le_of_ble_eq_true rfl, Nat.le_of_ble_eq_true rfl⟩ ml_L_222 rfl (by decide) (fun v hv => absurd hv List.not_mem_nil) (Nat.le_of_ble_eq_true rfl) (fun _ _ => rfl) (by decide) rfl e9 dL_law_1762 H (fun r M2 hq hS2 => ?_)
  obtain ⟨w, rfl, I', rfl, rfl, H⟩ := hq
  exact go_icmp_eq (tgt := 1803) dL_law_1765 (by decide) (fun _ => H) (fun q => absurd rfl q)
theorem lc_log {M : mm_T} {N i : Nat} {nm : String} {Q : Option pv_T → mm_T → Prop} (h1 : mm_k M 1 = (15, N)) (hN : N ≤ 3072) (hi : i + 6 ≤ N) (k5 : mm_k M 5 = (10, 14)) (k9 : mm_k M 99 = (11, 22)) (H : cs_i mt_X10_log [pv_r 5, pv_i (mm_i M 1 (i + 1)), pv_i (mm_i M 1 (i + 2))] M (fun v M1 => mm_S fr_C M M1 → rs_i mt_X11_log [pv_r 99, pv_i (mm_i M 1 (i + 1)), pv_i (mm_i M 1 (i + 2))] M1 (mm_i M1) (fun w I' => v = w ∧ go_W (mt_Ln nm) fr_A 1803 (l4_ i) [] (mm_si M1 I') Q))) : go_W (mt_Ln nm) fr_A 1770 (l4_ i) [] M Q := by
  refine go_aload_n dL_law_1770 rfl ?_
  refine go_scr (j := 1) h1 hN rfl (by omega) dL_law_1771 dL_law_1772 dL_law_1773 dL_law_1774 dL_law_1775 ?_
  refine go_scr (j := 2) h1 hN rfl (by omega) dL_law_1776 dL_law_1777 dL_law_1778 dL_law_1779 dL_law_1780 ?_
  refine go_V (av := [pv_i (mm_i M 1 (i + 1)), pv_i (mm_i M 1 (i + 2))]) (st := []) (ci := 10) ok_X10_log ⟨Nat.le_of_ble_eq_true rfl, Nat.le_of_ble_eq_true rfl⟩ ml_L_223 rfl (by decide) (fun v hv => by simp only [List.mem_cons, List.not_mem_nil, or_false] at hv; rcases hv with rfl | rfl <;> exact pv_1i) (Nat.le_of_ble_eq_true rfl) (fun _ _ => rfl) (by decide) rfl k5 dL_law_1781 H (fun r M1 hq hS => ?_)
  obtain ⟨v, rfl, H⟩ := hq
  replace H := H hS
  obtain ⟨e1, e2⟩ := sc_S h1 hS
  have e9 : mm_k M1 99 = (11, 22) := ks_S k9 (by decide) hS
  show go_W (mt_Ln nm) fr_A 1784 (l4_ i) [pv_i v] M1 Q
  refine go_aload_n dL_law_1784 rfl ?_
  refine go_scr (j := 1) e1 hN rfl (by omega) dL_law_1785 dL_law_1786 dL_law_1787 dL_law_1788 dL_law_1789 ?_
  rw [e2 (i + 1)]
  refine go_scr (j := 2) e1 hN rfl (by omega) dL_law_1790 dL_law_1791 dL_law_1792 dL_law_1793 dL_law_1794 ?_
  rw [e2 (i + 2)]
  refine go_V (av := [pv_i (mm_i M 1 (i + 1)), pv_i (mm_i M 1 (i + 2))]) (st := [pv_i v]) (ci := 11) ok_X11_log ⟨Nat.le_of_ble_eq_true rfl, Nat.le_of_ble_eq_true rfl⟩ ml_L_226 rfl (by decide) (fun v hv => by simp only [List.mem_cons, List.not_mem_nil, or_false] at hv; rcases hv with rfl | rfl <;> exact pv_1i) (Nat.le_of_ble_eq_true rfl) (fun _ _ => rfl) (by decide) rfl e9 dL_law_1795 H (fun r M2 hq hS2 => ?_)
  obtain ⟨w, rfl, I', rfl, rfl, H⟩ := hq
  exact go_icmp_eq (tgt := 1803) dL_law_1798 (by decide) (fun _ => H) (fun q => absurd rfl q)
