theorem bgn20 {a1 a2 : Int32} {iv : mI} {ar : mA} {la : mL} {pA pB : mA} (hw : mX6_wordA a1 iv ar la pA pB = some (nI 20, iv, ar, la, pA, pB)) : mX4_begin a1 a2 iv ar la pA pB = obc (mX6_wordA (a1 + 1) iv ar la pA pB) (fun r93 iv93 ar93 la93 pA93 pB93 => obc (mX1_valueAt a2 r93 iv93 ar93 la93 pA93 pB93) (fun r96 iv96 ar96 la96 pA96 pB96 => obc (mX4_give r96 iv96 ar96 la96 pA96 pB96) (fun r99 iv99 ar99 la99 pA99 pB99 => some (0, iv99, ar99, la99, pA99, pB99)))) := by
  unfold mX4_begin
  rw [hw]
  rfl
theorem bgn21 {a1 a2 : Int32} {iv : mI} {ar : mA} {la : mL} {pA pB : mA} (hw : mX6_wordA a1 iv ar la pA pB = some (nI 21, iv, ar, la, pA, pB)) : mX4_begin a1 a2 iv ar la pA pB = obc (mX4_beginLambda a1 a2 iv ar la pA pB) (fun r108 iv108 ar108 la108 pA108 pB108 => some (0, iv108, ar108, la108, pA108, pB108)) := by
  unfold mX4_begin
  rw [hw]
  rfl
theorem bgn22 {a1 a2 : Int32} {iv : mI} {ar : mA} {la : mL} {pA pB : mA} (hw : mX6_wordA a1 iv ar la pA pB = some (nI 22, iv, ar, la, pA, pB)) : mX4_begin a1 a2 iv ar la pA pB = obc (mX4_beginOpen a1 a2 iv ar la pA pB) (fun r183 iv183 ar183 la183 pA183 pB183 => some (0, iv183, ar183, la183, pA183, pB183)) := by
  unfold mX4_begin
  rw [hw]
  rfl
theorem bgn23 {a1 a2 : Int32} {iv : mI} {ar : mA} {la : mL} {pA pB : mA} (hw : mX6_wordA a1 iv ar la pA pB = some (nI 23, iv, ar, la, pA, pB)) : mX4_begin a1 a2 iv ar la pA pB = obc (mX6_wordA (a1 + 1) iv ar la pA pB) (fun r127 iv127 ar127 la127 pA127 pB127 => obc (mX10_add 2 r127 iv127 ar127 la127 pA127 pB127) (fun r130 iv130 ar130 la130 pA130 pB130 => obc (mX4_give r130 iv130 ar130 la130 pA130 pB130) (fun r133 iv133 ar133 la133 pA133 pB133 => some (0, iv133, ar133, la133, pA133, pB133)))) := by
  unfold mX4_begin
  rw [hw]
  rfl
theorem bgn24 {a1 a2 : Int32} {iv : mI} {ar : mA} {la : mL} {pA pB : mA} (hw : mX6_wordA a1 iv ar la pA pB = some (nI 24, iv, ar, la, pA, pB)) : mX4_begin a1 a2 iv ar la pA pB = obc (mX4_beginOpen a1 a2 iv ar la pA pB) (fun r183 iv183 ar183 la183 pA183 pB183 => some (0, iv183, ar183, la183, pA183, pB183)) := by
  unfold mX4_begin
  rw [hw]
  rfl
theorem bgn25 {a1 a2 : Int32} {iv : mI} {ar : mA} {la : mL} {pA pB : mA} (hw : mX6_wordA a1 iv ar la pA pB = some (nI 25, iv, ar, la, pA, pB)) : mX4_begin a1 a2 iv ar la pA pB = obc (mX4_beginOpen a1 a2 iv ar la pA pB) (fun r183 iv183 ar183 la183 pA183 pB183 => some (0, iv183, ar183, la183, pA183, pB183)) := by
  unfold mX4_begin
  rw [hw]
  rfl
theorem bgn26 {a1 a2 : Int32} {iv : mI} {ar : mA} {la : mL} {pA pB : mA} (hw : mX6_wordA a1 iv ar la pA pB = some (nI 26, iv, ar, la, pA, pB)) : mX4_begin a1 a2 iv ar la pA pB = obc (mX10_add 3 1 iv ar la pA pB) (fun r146 iv146 ar146 la146 pA146 pB146 => obc (mX4_give r146 iv146 ar146 la146 pA146 pB146) (fun r149 iv149 ar149 la149 pA149 pB149 => some (0, iv149, ar149, la149, pA149, pB149))) := by
  unfold mX4_begin
  rw [hw]
  rfl
theorem bgn27 {a1 a2 : Int32} {iv : mI} {ar : mA} {la : mL} {pA pB : mA} (hw : mX6_wordA a1 iv ar la pA pB = some (nI 27, iv, ar, la, pA, pB)) : mX4_begin a1 a2 iv ar la pA pB = obc (mX10_add 3 0 iv ar la pA pB) (fun r162 iv162 ar162 la162 pA162 pB162 => obc (mX4_give r162 iv162 ar162 la162 pA162 pB162) (fun r165 iv165 ar165 la165 pA165 pB165 => some (0, iv165, ar165, la165, pA165, pB165))) := by
  unfold mX4_begin
  rw [hw]
  rfl
theorem bgn28 {a1 a2 : Int32} {iv : mI} {ar : mA} {la : mL} {pA pB : mA} (hw : mX6_wordA a1 iv ar la pA pB = some (nI 28, iv, ar, la, pA, pB)) : mX4_begin a1 a2 iv ar la pA pB = obc (mX4_beginOpen a1 a2 iv ar la pA pB) (fun r183 iv183 ar183 la183 pA183 pB183 => some (0, iv183, ar183, la183, pA183, pB183)) := by
  unfold mX4_begin
  rw [hw]
  rfl
theorem bgn29 {a1 a2 : Int32} {iv : mI} {ar : mA} {la : mL} {pA pB : mA} (hw : mX6_wordA a1 iv ar la pA pB = some (nI 29, iv, ar, la, pA, pB)) : mX4_begin a1 a2 iv ar la pA pB = obc (mX4_beginOpen a1 a2 iv ar la pA pB) (fun r183 iv183 ar183 la183 pA183 pB183 => some (0, iv183, ar183, la183, pA183, pB183)) := by
  unfold mX4_begin
  rw [hw]
  rfl
theorem bgn30 {a1 a2 : Int32} {iv : mI} {ar : mA} {la : mL} {pA pB : mA} (hw : mX6_wordA a1 iv ar la pA pB = some (nI 30, iv, ar, la, pA, pB)) : mX4_begin a1 a2 iv ar la pA pB = obc (mX4_beginOpen a1 a2 iv ar la pA pB) (fun r183 iv183 ar183 la183 pA183 pB183 => some (0, iv183, ar183, la183, pA183, pB183)) := by
  unfold mX4_begin
  rw [hw]
  rfl
theorem bgn31 {a1 a2 : Int32} {iv : mI} {ar : mA} {la : mL} {pA pB : mA} (hw : mX6_wordA a1 iv ar la pA pB = some (nI 31, iv, ar, la, pA, pB)) : mX4_begin a1 a2 iv ar la pA pB = obc (mX4_beginOpen a1 a2 iv ar la pA pB) (fun r183 iv183 ar183 la183 pA183 pB183 => some (0, iv183, ar183, la183, pA183, pB183)) := by
  unfold mX4_begin
  rw [hw]
  rfl
theorem bgn32 {a1 a2 : Int32} {iv : mI} {ar : mA} {la : mL} {pA pB : mA} (hw : mX6_wordA a1 iv ar la pA pB = some (nI 32, iv, ar, la, pA, pB)) : mX4_begin a1 a2 iv ar la pA pB = obc (mX4_beginOpen a1 a2 iv ar la pA pB) (fun r183 iv183 ar183 la183 pA183 pB183 => some (0, iv183, ar183, la183, pA183, pB183)) := by
  unfold mX4_begin
  rw [hw]
  rfl
theorem bgn33 {a1 a2 : Int32} {iv : mI} {ar : mA} {la : mL} {pA pB : mA} (hw : mX6_wordA a1 iv ar la pA pB = some (nI 33, iv, ar, la, pA, pB)) : mX4_begin a1 a2 iv ar la pA pB = obc (mX4_beginItself a1 a2 iv ar la pA pB) (fun r174 iv174 ar174 la174 pA174 pB174 => some (0, iv174, ar174, la174, pA174, pB174)) := by
  unfold mX4_begin
  rw [hw]
  rfl
theorem cfn22 {a1 a2 a3 : Int32} {iv : mI} {ar : mA} {la : mL} {pA pB : mA} (hw : mX6_wordA a1 iv ar la pA pB = some (nI 22, iv, ar, la, pA, pB)) : mX4_finish a1 a2 a3 iv ar la pA pB = obc (mX10_lambdaOf a2 iv ar la pA pB) (fun r74 iv74 ar74 la74 pA74 pB74 => obc (mX6_kidA r74 0 iv74 ar74 la74 pA74 pB74) (fun r78 iv78 ar78 la78 pA78 pB78 => obc (mX10_cellOf a2 iv78 ar78 la78 pA78 pB78) (fun r94 iv94 ar94 la94 pA94 pB94 => obc (mX1_add (iv78 412) r94 iv94 ar94 la94 pA94 pB94) (fun r97 iv97 ar97 la97 pA97 pB97 => obc (mX4_want r78 r97 iv97 ar97 la97 pA97 pB97) (fun r100 iv100 ar100 la100 pA100 pB100 => some (0, iv100, ar100, la100, pA100, pB100)))))) := by
  unfold mX4_finish
  rw [hw]
  rfl
theorem cfn24 {a1 a2 a3 : Int32} {iv : mI} {ar : mA} {la : mL} {pA pB : mA} (hw : mX6_wordA a1 iv ar la pA pB = some (nI 24, iv, ar, la, pA, pB)) : mX4_finish a1 a2 a3 iv ar la pA pB = obc (mX10_numberOf a2 iv ar la pA pB) (fun r117 iv117 ar117 la117 pA117 pB117 => obc (mX10_numberOf (iv117 412) iv117 ar117 la117 pA117 pB117) (fun r128 iv128 ar128 la128 pA128 pB128 => obc (mX10_add 2 (r117 + r128) iv128 ar128 la128 pA128 pB128) (fun r132 iv132 ar132 la132 pA132 pB132 => obc (mX4_give r132 iv132 ar132 la132 pA132 pB132) (fun r135 iv135 ar135 la135 pA135 pB135 => some (0, iv135, ar135, la135, pA135, pB135))))) := by
  unfold mX4_finish
  rw [hw]
  rfl
theorem cfn25 {a1 a2 a3 : Int32} {iv : mI} {ar : mA} {la : mL} {pA pB : mA} (hw : mX6_wordA a1 iv ar la pA pB = some (nI 25, iv, ar, la, pA, pB)) : mX4_finish a1 a2 a3 iv ar la pA pB = obc (mX10_numberOf a2 iv ar la pA pB) (fun r152 iv152 ar152 la152 pA152 pB152 => obc (mX10_numberOf (iv152 412) iv152 ar152 la152 pA152 pB152) (fun r163 iv163 ar163 la163 pA163 pB163 => if r163 ≤ r152 then obc (mX10_add 3 0 iv163 ar163 la163 pA163 pB163) (fun r174 iv174 ar174 la174 pA174 pB174 => obc (mX4_give r174 iv174 ar174 la174 pA174 pB174) (fun r177 iv177 ar177 la177 pA177 pB177 => some (0, iv177, ar177, la177, pA177, pB177))) else obc (mX10_add 3 1 iv163 ar163 la163 pA163 pB163) (fun r174 iv174 ar174 la174 pA174 pB174 => obc (mX4_give r174 iv174 ar174 la174 pA174 pB174) (fun r177 iv177 ar177 la177 pA177 pB177 => some (0, iv177, ar177, la177, pA177, pB177))))) := by
  unfold mX4_finish
  rw [hw]
  rfl
theorem cfn28 {a1 a2 a3 : Int32} {iv : mI} {ar : mA} {la : mL} {pA pB : mA} (hw : mX6_wordA a1 iv ar la pA pB = some (nI 28, iv, ar, la, pA, pB)) : mX4_finish a1 a2 a3 iv ar la pA pB = obc (mX10_numberOf a2 iv ar la pA pB) (fun r194 iv194 ar194 la194 pA194 pB194 => if r194 = 1 then obc (mX6_kidA a1 1 iv194 ar194 la194 pA194 pB194) (fun r206 iv206 ar206 la206 pA206 pB206 => obc (mX4_want r206 a3 iv206 ar206 la206 pA206 pB206) (fun r210 iv210 ar210 la210 pA210 pB210 => some (0, iv210, ar210, la210, pA210, pB210))) else obc (mX6_kidA a1 2 iv194 ar194 la194 pA194 pB194) (fun r206 iv206 ar206 la206 pA206 pB206 => obc (mX4_want r206 a3 iv206 ar206 la206 pA206 pB206) (fun r210 iv210 ar210 la210 pA210 pB210 => some (0, iv210, ar210, la210, pA210, pB210)))) := by
  unfold mX4_finish
  rw [hw]
  rfl
theorem cfn29 {a1 a2 a3 : Int32} {iv : mI} {ar : mA} {la : mL} {pA pB : mA} (hw : mX6_wordA a1 iv ar la pA pB = some (nI 29, iv, ar, la, pA, pB)) : mX4_finish a1 a2 a3 iv ar la pA pB = obc (mX4_gather a1 (iv 407) iv ar la pA pB) (fun r223 iv223 ar223 la223 pA223 pB223 => obc (mX4_give r223 iv223 ar223 la223 pA223 pB223) (fun r226 iv226 ar226 la226 pA226 pB226 => some (0, iv226, ar226, la226, pA226, pB226))) := by
  unfold mX4_finish
  rw [hw]
  rfl
theorem cfn30 {a1 a2 a3 : Int32} {iv : mI} {ar : mA} {la : mL} {pA pB : mA} (hw : mX6_wordA a1 iv ar la pA pB = some (nI 30, iv, ar, la, pA, pB)) : mX4_finish a1 a2 a3 iv ar la pA pB = obc (mX6_wordA (a1 + 1) iv ar la pA pB) (fun r245 iv245 ar245 la245 pA245 pB245 => obc (mX10_partOf a2 r245 iv245 ar245 la245 pA245 pB245) (fun r248 iv248 ar248 la248 pA248 pB248 => obc (mX4_give r248 iv248 ar248 la248 pA248 pB248) (fun r251 iv251 ar251 la251 pA251 pB251 => some (0, iv251, ar251, la251, pA251, pB251)))) := by
  unfold mX4_finish
  rw [hw]
  rfl
theorem cfn31 {a1 a2 a3 : Int32} {iv : mI} {ar : mA} {la : mL} {pA pB : mA} (hw : mX6_wordA a1 iv ar la pA pB = some (nI 31, iv, ar, la, pA, pB)) : mX4_finish a1 a2 a3 iv ar la pA pB = obc (mX6_wordA (a1 + 2) iv ar la pA pB) (fun r266 iv266 ar266 la266 pA266 pB266 => obc (mX4_tag r266 a2 iv266 ar266 la266 pA266 pB266) (fun r270 iv270 ar270 la270 pA270 pB270 => obc (mX4_give r270 iv270 ar270 la270 pA270 pB270) (fun r273 iv273 ar273 la273 pA273 pB273 => some (0, iv273, ar273, la273, pA273, pB273)))) := by
  unfold mX4_finish
  rw [hw]
  rfl
theorem cfn32 {a1 a2 a3 : Int32} {iv : mI} {ar : mA} {la : mL} {pA pB : mA} (hw : mX6_wordA a1 iv ar la pA pB = some (nI 32, iv, ar, la, pA, pB)) : mX4_finish a1 a2 a3 iv ar la pA pB = obc (mX10_numberOf a2 iv ar la pA pB) (fun r287 iv287 ar287 la287 pA287 pB287 => obc (mX4_caseFor a1 r287 iv287 ar287 la287 pA287 pB287) (fun r290 iv290 ar290 la290 pA290 pB290 => obc (mX4_partOfChoice a2 iv290 ar290 la290 pA290 pB290) (fun r299 iv299 ar299 la299 pA299 pB299 => obc (mX1_add r299 a3 iv299 ar299 la299 pA299 pB299) (fun r303 iv303 ar303 la303 pA303 pB303 => obc (mX4_want r290 r303 iv303 ar303 la303 pA303 pB303) (fun r306 iv306 ar306 la306 pA306 pB306 => some (0, iv306, ar306, la306, pA306, pB306)))))) := by
  unfold mX4_finish
  rw [hw]
  rfl
theorem rfn20 {f k : Nat} {iw : mI} {aw : mA} (hf : f < 301) (hk : k < 200) (hw : aw 40 k = nI 20) : mX12_finish (nI f) (nI k) iw aw = mX12_finish_L110 bigF (nI k) (aw 67 (nI f).toNatClampNeg) 0 (va_up iw 71 ((iw 71) - 1)) aw := by
  unfold mX12_finish
  rw [if_neg (nI_in (c := f) (N := 301) (by omega) (by decide)), if_neg (show ¬ ((9 * nI f) < 0 ∨ 2709 ≤ (9 * nI f).toNatClampNeg) by rw [show (9 : Int32) * nI f = nI (9 * f) by rw [show (9 : Int32) = nI 9 from rfl, nmul]]; exact nI_in (by omega) (by decide)), if_neg (show ¬ (((9 * nI f) + 1) < 0 ∨ 2709 ≤ ((9 * nI f) + 1).toNatClampNeg) by rw [show (9 : Int32) * nI f + 1 = nI (9 * f + 1) by rw [show (9 : Int32) = nI 9 from rfl, nmul]; exact nadd _ 1]; exact nI_in (by omega) (by decide)), if_neg (nI_in (c := f) (N := 301) (by omega) (by decide)), if_neg (nI_in (c := k) (N := 200) (by omega) (by decide)), show aw 40 (nI k).toNatClampNeg = nI 20 by rw [ncl (by omega)]; exact hw]
  rfl
theorem rfn21 {f k : Nat} {iw : mI} {aw : mA} (hf : f < 301) (hk : k < 200) (hw : aw 40 k = nI 21) : mX12_finish (nI f) (nI k) iw aw = if (aw 69 (nI f).toNatClampNeg) < 0 then ob (mX12_newValue 4 0 (va_up iw 71 ((iw 71) - 1)) aw) (fun r157 iv157 ar157 => mX12_finish_J160 (nI k) (aw 67 (nI f).toNatClampNeg) r157 iv157 ar157) else mX12_finish_J160 (nI k) (aw 67 (nI f).toNatClampNeg) (aw 69 (nI f).toNatClampNeg) (va_up iw 71 ((iw 71) - 1)) aw := by
  unfold mX12_finish
  rw [if_neg (nI_in (c := f) (N := 301) (by omega) (by decide)), if_neg (show ¬ ((9 * nI f) < 0 ∨ 2709 ≤ (9 * nI f).toNatClampNeg) by rw [show (9 : Int32) * nI f = nI (9 * f) by rw [show (9 : Int32) = nI 9 from rfl, nmul]]; exact nI_in (by omega) (by decide)), if_neg (show ¬ (((9 * nI f) + 1) < 0 ∨ 2709 ≤ ((9 * nI f) + 1).toNatClampNeg) by rw [show (9 : Int32) * nI f + 1 = nI (9 * f + 1) by rw [show (9 : Int32) = nI 9 from rfl, nmul]; exact nadd _ 1]; exact nI_in (by omega) (by decide)), if_neg (nI_in (c := f) (N := 301) (by omega) (by decide)), if_neg (nI_in (c := k) (N := 200) (by omega) (by decide)), show aw 40 (nI k).toNatClampNeg = nI 21 by rw [ncl (by omega)]; exact hw]
  rw [if_neg (show ¬ nI 21 = 20 by decide), if_pos (show nI 21 = 21 from rfl)]
theorem rfn22 {f k : Nat} {iw : mI} {aw : mA} (hf : f < 301) (hk : k < 200) (hw : aw 40 k = nI 22) : mX12_finish (nI f) (nI k) iw aw = if (aw 70 (9 * (nI f)).toNatClampNeg) < 0 ∨ 2000 ≤ (aw 70 (9 * (nI f)).toNatClampNeg).toNatClampNeg then none else if (aw 70 (9 * (nI f)).toNatClampNeg) < 0 ∨ 2000 ≤ (aw 70 (9 * (nI f)).toNatClampNeg).toNatClampNeg then none else ob (mX12_bind (aw 70 ((9 * (nI f)) + 1).toNatClampNeg) (aw 62 (aw 70 (9 * (nI f)).toNatClampNeg).toNatClampNeg) (va_up iw 71 ((iw 71) - 1)) aw) (fun r212 iv212 ar212 => ob (mX12_next (aw 61 (aw 70 (9 * (nI f)).toNatClampNeg).toNatClampNeg) r212 (-1) iv212 ar212) (fun r216 iv216 ar216 => some ((-1), iv216, ar216))) := by
  unfold mX12_finish
  rw [if_neg (nI_in (c := f) (N := 301) (by omega) (by decide)), if_neg (show ¬ ((9 * nI f) < 0 ∨ 2709 ≤ (9 * nI f).toNatClampNeg) by rw [show (9 : Int32) * nI f = nI (9 * f) by rw [show (9 : Int32) = nI 9 from rfl, nmul]]; exact nI_in (by omega) (by decide)), if_neg (show ¬ (((9 * nI f) + 1) < 0 ∨ 2709 ≤ ((9 * nI f) + 1).toNatClampNeg) by rw [show (9 : Int32) * nI f + 1 = nI (9 * f + 1) by rw [show (9 : Int32) = nI 9 from rfl, nmul]; exact nadd _ 1]; exact nI_in (by omega) (by decide)), if_neg (nI_in (c := f) (N := 301) (by omega) (by decide)), if_neg (nI_in (c := k) (N := 200) (by omega) (by decide)), show aw 40 (nI k).toNatClampNeg = nI 22 by rw [ncl (by omega)]; exact hw]
  rfl
theorem rfn23 {f k : Nat} {iw : mI} {aw : mA} (hf : f < 301) (hk : k < 200) (hw : aw 40 k = nI 23) : mX12_finish (nI f) (nI k) iw aw = if (nI k) < 0 ∨ 200 ≤ (nI k).toNatClampNeg then none else ob (mX12_newValue 2 (aw 41 (nI k).toNatClampNeg) (va_up iw 71 ((iw 71) - 1)) aw) (fun r229 iv229 ar229 => some (r229, iv229, ar229)) := by
  unfold mX12_finish
  rw [if_neg (nI_in (c := f) (N := 301) (by omega) (by decide)), if_neg (show ¬ ((9 * nI f) < 0 ∨ 2709 ≤ (9 * nI f).toNatClampNeg) by rw [show (9 : Int32) * nI f = nI (9 * f) by rw [show (9 : Int32) = nI 9 from rfl, nmul]]; exact nI_in (by omega) (by decide)), if_neg (show ¬ (((9 * nI f) + 1) < 0 ∨ 2709 ≤ ((9 * nI f) + 1).toNatClampNeg) by rw [show (9 : Int32) * nI f + 1 = nI (9 * f + 1) by rw [show (9 : Int32) = nI 9 from rfl, nmul]; exact nadd _ 1]; exact nI_in (by omega) (by decide)), if_neg (nI_in (c := f) (N := 301) (by omega) (by decide)), if_neg (nI_in (c := k) (N := 200) (by omega) (by decide)), show aw 40 (nI k).toNatClampNeg = nI 23 by rw [ncl (by omega)]; exact hw]
  rfl
theorem rfn24 {f k : Nat} {iw : mI} {aw : mA} (hf : f < 301) (hk : k < 200) (hw : aw 40 k = nI 24) : mX12_finish (nI f) (nI k) iw aw = if (aw 70 (9 * (nI f)).toNatClampNeg) < 0 ∨ 2000 ≤ (aw 70 (9 * (nI f)).toNatClampNeg).toNatClampNeg then none else if (aw 70 ((9 * (nI f)) + 1).toNatClampNeg) < 0 ∨ 2000 ≤ (aw 70 ((9 * (nI f)) + 1).toNatClampNeg).toNatClampNeg then none else ob (mX12_newValue 2 ((aw 59 (aw 70 (9 * (nI f)).toNatClampNeg).toNatClampNeg) + (aw 59 (aw 70 ((9 * (nI f)) + 1).toNatClampNeg).toNatClampNeg)) (va_up iw 71 ((iw 71) - 1)) aw) (fun r250 iv250 ar250 => some (r250, iv250, ar250)) := by
  unfold mX12_finish
  rw [if_neg (nI_in (c := f) (N := 301) (by omega) (by decide)), if_neg (show ¬ ((9 * nI f) < 0 ∨ 2709 ≤ (9 * nI f).toNatClampNeg) by rw [show (9 : Int32) * nI f = nI (9 * f) by rw [show (9 : Int32) = nI 9 from rfl, nmul]]; exact nI_in (by omega) (by decide)), if_neg (show ¬ (((9 * nI f) + 1) < 0 ∨ 2709 ≤ ((9 * nI f) + 1).toNatClampNeg) by rw [show (9 : Int32) * nI f + 1 = nI (9 * f + 1) by rw [show (9 : Int32) = nI 9 from rfl, nmul]; exact nadd _ 1]; exact nI_in (by omega) (by decide)), if_neg (nI_in (c := f) (N := 301) (by omega) (by decide)), if_neg (nI_in (c := k) (N := 200) (by omega) (by decide)), show aw 40 (nI k).toNatClampNeg = nI 24 by rw [ncl (by omega)]; exact hw]
  rw [if_neg (show ¬ nI 24 = 20 by decide), if_neg (show ¬ nI 24 = 21 by decide), if_neg (show ¬ nI 24 = 22 by decide), if_neg (show ¬ nI 24 = 23 by decide), if_pos (show nI 24 = 24 from rfl)]
theorem rfn25 {f k : Nat} {iw : mI} {aw : mA} (hf : f < 301) (hk : k < 200) (hw : aw 40 k = nI 25) : mX12_finish (nI f) (nI k) iw aw = if (aw 70 (9 * (nI f)).toNatClampNeg) < 0 ∨ 2000 ≤ (aw 70 (9 * (nI f)).toNatClampNeg).toNatClampNeg then none else if (aw 70 ((9 * (nI f)) + 1).toNatClampNeg) < 0 ∨ 2000 ≤ (aw 70 ((9 * (nI f)) + 1).toNatClampNeg).toNatClampNeg then none else if (aw 59 (aw 70 ((9 * (nI f)) + 1).toNatClampNeg).toNatClampNeg) ≤ (aw 59 (aw 70 (9 * (nI f)).toNatClampNeg).toNatClampNeg) then ob (mX12_newValue 3 0 (va_up iw 71 ((iw 71) - 1)) aw) (fun r278 iv278 ar278 => some (r278, iv278, ar278)) else ob (mX12_newValue 3 1 (va_up iw 71 ((iw 71) - 1)) aw) (fun r278 iv278 ar278 => some (r278, iv278, ar278)) := by
  unfold mX12_finish
  rw [if_neg (nI_in (c := f) (N := 301) (by omega) (by decide)), if_neg (show ¬ ((9 * nI f) < 0 ∨ 2709 ≤ (9 * nI f).toNatClampNeg) by rw [show (9 : Int32) * nI f = nI (9 * f) by rw [show (9 : Int32) = nI 9 from rfl, nmul]]; exact nI_in (by omega) (by decide)), if_neg (show ¬ (((9 * nI f) + 1) < 0 ∨ 2709 ≤ ((9 * nI f) + 1).toNatClampNeg) by rw [show (9 : Int32) * nI f + 1 = nI (9 * f + 1) by rw [show (9 : Int32) = nI 9 from rfl, nmul]; exact nadd _ 1]; exact nI_in (by omega) (by decide)), if_neg (nI_in (c := f) (N := 301) (by omega) (by decide)), if_neg (nI_in (c := k) (N := 200) (by omega) (by decide)), show aw 40 (nI k).toNatClampNeg = nI 25 by rw [ncl (by omega)]; exact hw]
  rw [if_neg (show ¬ nI 25 = 20 by decide), if_neg (show ¬ nI 25 = 21 by decide), if_neg (show ¬ nI 25 = 22 by decide), if_neg (show ¬ nI 25 = 23 by decide), if_neg (show ¬ nI 25 = 24 by decide), if_pos (show nI 25 = 25 from rfl)]
theorem rfn26 {f k : Nat} {iw : mI} {aw : mA} (hf : f < 301) (hk : k < 200) (hw : aw 40 k = nI 26) : mX12_finish (nI f) (nI k) iw aw = if (nI k) < 0 ∨ 200 ≤ (nI k).toNatClampNeg then none else if (aw 40 (nI k).toNatClampNeg) = 26 then ob (mX12_newValue 3 1 (va_up iw 71 ((iw 71) - 1)) aw) (fun r300 iv300 ar300 => some (r300, iv300, ar300)) else ob (mX12_newValue 3 0 (va_up iw 71 ((iw 71) - 1)) aw) (fun r300 iv300 ar300 => some (r300, iv300, ar300)) := by
  unfold mX12_finish
  rw [if_neg (nI_in (c := f) (N := 301) (by omega) (by decide)), if_neg (show ¬ ((9 * nI f) < 0 ∨ 2709 ≤ (9 * nI f).toNatClampNeg) by rw [show (9 : Int32) * nI f = nI (9 * f) by rw [show (9 : Int32) = nI 9 from rfl, nmul]]; exact nI_in (by omega) (by decide)), if_neg (show ¬ (((9 * nI f) + 1) < 0 ∨ 2709 ≤ ((9 * nI f) + 1).toNatClampNeg) by rw [show (9 : Int32) * nI f + 1 = nI (9 * f + 1) by rw [show (9 : Int32) = nI 9 from rfl, nmul]; exact nadd _ 1]; exact nI_in (by omega) (by decide)), if_neg (nI_in (c := f) (N := 301) (by omega) (by decide)), if_neg (nI_in (c := k) (N := 200) (by omega) (by decide)), show aw 40 (nI k).toNatClampNeg = nI 26 by rw [ncl (by omega)]; exact hw]
  rfl
theorem rfn27 {f k : Nat} {iw : mI} {aw : mA} (hf : f < 301) (hk : k < 200) (hw : aw 40 k = nI 27) : mX12_finish (nI f) (nI k) iw aw = if (nI k) < 0 ∨ 200 ≤ (nI k).toNatClampNeg then none else if (aw 40 (nI k).toNatClampNeg) = 26 then ob (mX12_newValue 3 1 (va_up iw 71 ((iw 71) - 1)) aw) (fun r300 iv300 ar300 => some (r300, iv300, ar300)) else ob (mX12_newValue 3 0 (va_up iw 71 ((iw 71) - 1)) aw) (fun r300 iv300 ar300 => some (r300, iv300, ar300)) := by
  unfold mX12_finish
  rw [if_neg (nI_in (c := f) (N := 301) (by omega) (by decide)), if_neg (show ¬ ((9 * nI f) < 0 ∨ 2709 ≤ (9 * nI f).toNatClampNeg) by rw [show (9 : Int32) * nI f = nI (9 * f) by rw [show (9 : Int32) = nI 9 from rfl, nmul]]; exact nI_in (by omega) (by decide)), if_neg (show ¬ (((9 * nI f) + 1) < 0 ∨ 2709 ≤ ((9 * nI f) + 1).toNatClampNeg) by rw [show (9 : Int32) * nI f + 1 = nI (9 * f + 1) by rw [show (9 : Int32) = nI 9 from rfl, nmul]; exact nadd _ 1]; exact nI_in (by omega) (by decide)), if_neg (nI_in (c := f) (N := 301) (by omega) (by decide)), if_neg (nI_in (c := k) (N := 200) (by omega) (by decide)), show aw 40 (nI k).toNatClampNeg = nI 27 by rw [ncl (by omega)]; exact hw]
  rfl
theorem rfn28 {f k : Nat} {iw : mI} {aw : mA} (hf : f < 301) (hk : k < 200) (hw : aw 40 k = nI 28) : mX12_finish (nI f) (nI k) iw aw = if (aw 70 (9 * (nI f)).toNatClampNeg) < 0 ∨ 2000 ≤ (aw 70 (9 * (nI f)).toNatClampNeg).toNatClampNeg then none else if (aw 59 (aw 70 (9 * (nI f)).toNatClampNeg).toNatClampNeg) = 1 then if ((9 * (nI k)) + 1) < 0 ∨ 1800 ≤ ((9 * (nI k)) + 1).toNatClampNeg then none else ob (mX12_next (aw 43 ((9 * (nI k)) + 1).toNatClampNeg) (aw 67 (nI f).toNatClampNeg) (-1) (va_up iw 71 ((iw 71) - 1)) aw) (fun r333 iv333 ar333 => some ((-1), iv333, ar333)) else if ((9 * (nI k)) + 2) < 0 ∨ 1800 ≤ ((9 * (nI k)) + 2).toNatClampNeg then none else ob (mX12_next (aw 43 ((9 * (nI k)) + 2).toNatClampNeg) (aw 67 (nI f).toNatClampNeg) (-1) (va_up iw 71 ((iw 71) - 1)) aw) (fun r333 iv333 ar333 => some ((-1), iv333, ar333)) := by
  unfold mX12_finish
  rw [if_neg (nI_in (c := f) (N := 301) (by omega) (by decide)), if_neg (show ¬ ((9 * nI f) < 0 ∨ 2709 ≤ (9 * nI f).toNatClampNeg) by rw [show (9 : Int32) * nI f = nI (9 * f) by rw [show (9 : Int32) = nI 9 from rfl, nmul]]; exact nI_in (by omega) (by decide)), if_neg (show ¬ (((9 * nI f) + 1) < 0 ∨ 2709 ≤ ((9 * nI f) + 1).toNatClampNeg) by rw [show (9 : Int32) * nI f + 1 = nI (9 * f + 1) by rw [show (9 : Int32) = nI 9 from rfl, nmul]; exact nadd _ 1]; exact nI_in (by omega) (by decide)), if_neg (nI_in (c := f) (N := 301) (by omega) (by decide)), if_neg (nI_in (c := k) (N := 200) (by omega) (by decide)), show aw 40 (nI k).toNatClampNeg = nI 28 by rw [ncl (by omega)]; exact hw]
  rw [if_neg (show ¬ nI 28 = 20 by decide), if_neg (show ¬ nI 28 = 21 by decide), if_neg (show ¬ nI 28 = 22 by decide), if_neg (show ¬ nI 28 = 23 by decide), if_neg (show ¬ nI 28 = 24 by decide), if_neg (show ¬ nI 28 = 25 by decide), if_neg (show ¬ nI 28 = 26 by decide), if_neg (show ¬ nI 28 = 27 by decide), if_pos (show nI 28 = 28 from rfl)]
theorem rfn29 {f k : Nat} {iw : mI} {aw : mA} (hf : f < 301) (hk : k < 200) (hw : aw 40 k = nI 29) : mX12_finish (nI f) (nI k) iw aw = ob (mX12_finishMore (nI f) (nI k) (aw 67 (nI f).toNatClampNeg) (aw 70 (9 * (nI f)).toNatClampNeg) (va_up iw 71 ((iw 71) - 1)) aw) (fun r344 iv344 ar344 => some (r344, iv344, ar344)) := by
  unfold mX12_finish
  rw [if_neg (nI_in (c := f) (N := 301) (by omega) (by decide)), if_neg (show ¬ ((9 * nI f) < 0 ∨ 2709 ≤ (9 * nI f).toNatClampNeg) by rw [show (9 : Int32) * nI f = nI (9 * f) by rw [show (9 : Int32) = nI 9 from rfl, nmul]]; exact nI_in (by omega) (by decide)), if_neg (show ¬ (((9 * nI f) + 1) < 0 ∨ 2709 ≤ ((9 * nI f) + 1).toNatClampNeg) by rw [show (9 : Int32) * nI f + 1 = nI (9 * f + 1) by rw [show (9 : Int32) = nI 9 from rfl, nmul]; exact nadd _ 1]; exact nI_in (by omega) (by decide)), if_neg (nI_in (c := f) (N := 301) (by omega) (by decide)), if_neg (nI_in (c := k) (N := 200) (by omega) (by decide)), show aw 40 (nI k).toNatClampNeg = nI 29 by rw [ncl (by omega)]; exact hw]
  rfl
theorem rfn30 {f k : Nat} {iw : mI} {aw : mA} (hf : f < 301) (hk : k < 200) (hw : aw 40 k = nI 30) : mX12_finish (nI f) (nI k) iw aw = ob (mX12_finishMore (nI f) (nI k) (aw 67 (nI f).toNatClampNeg) (aw 70 (9 * (nI f)).toNatClampNeg) (va_up iw 71 ((iw 71) - 1)) aw) (fun r344 iv344 ar344 => some (r344, iv344, ar344)) := by
  unfold mX12_finish
  rw [if_neg (nI_in (c := f) (N := 301) (by omega) (by decide)), if_neg (show ¬ ((9 * nI f) < 0 ∨ 2709 ≤ (9 * nI f).toNatClampNeg) by rw [show (9 : Int32) * nI f = nI (9 * f) by rw [show (9 : Int32) = nI 9 from rfl, nmul]]; exact nI_in (by omega) (by decide)), if_neg (show ¬ (((9 * nI f) + 1) < 0 ∨ 2709 ≤ ((9 * nI f) + 1).toNatClampNeg) by rw [show (9 : Int32) * nI f + 1 = nI (9 * f + 1) by rw [show (9 : Int32) = nI 9 from rfl, nmul]; exact nadd _ 1]; exact nI_in (by omega) (by decide)), if_neg (nI_in (c := f) (N := 301) (by omega) (by decide)), if_neg (nI_in (c := k) (N := 200) (by omega) (by decide)), show aw 40 (nI k).toNatClampNeg = nI 30 by rw [ncl (by omega)]; exact hw]
  rfl
theorem rfn31 {f k : Nat} {iw : mI} {aw : mA} (hf : f < 301) (hk : k < 200) (hw : aw 40 k = nI 31) : mX12_finish (nI f) (nI k) iw aw = ob (mX12_finishMore (nI f) (nI k) (aw 67 (nI f).toNatClampNeg) (aw 70 (9 * (nI f)).toNatClampNeg) (va_up iw 71 ((iw 71) - 1)) aw) (fun r344 iv344 ar344 => some (r344, iv344, ar344)) := by
  unfold mX12_finish
  rw [if_neg (nI_in (c := f) (N := 301) (by omega) (by decide)), if_neg (show ¬ ((9 * nI f) < 0 ∨ 2709 ≤ (9 * nI f).toNatClampNeg) by rw [show (9 : Int32) * nI f = nI (9 * f) by rw [show (9 : Int32) = nI 9 from rfl, nmul]]; exact nI_in (by omega) (by decide)), if_neg (show ¬ (((9 * nI f) + 1) < 0 ∨ 2709 ≤ ((9 * nI f) + 1).toNatClampNeg) by rw [show (9 : Int32) * nI f + 1 = nI (9 * f + 1) by rw [show (9 : Int32) = nI 9 from rfl, nmul]; exact nadd _ 1]; exact nI_in (by omega) (by decide)), if_neg (nI_in (c := f) (N := 301) (by omega) (by decide)), if_neg (nI_in (c := k) (N := 200) (by omega) (by decide)), show aw 40 (nI k).toNatClampNeg = nI 31 by rw [ncl (by omega)]; exact hw]
  rfl
theorem rfn32 {f k : Nat} {iw : mI} {aw : mA} (hf : f < 301) (hk : k < 200) (hw : aw 40 k = nI 32) : mX12_finish (nI f) (nI k) iw aw = ob (mX12_finishMore (nI f) (nI k) (aw 67 (nI f).toNatClampNeg) (aw 70 (9 * (nI f)).toNatClampNeg) (va_up iw 71 ((iw 71) - 1)) aw) (fun r344 iv344 ar344 => some (r344, iv344, ar344)) := by
  unfold mX12_finish
  rw [if_neg (nI_in (c := f) (N := 301) (by omega) (by decide)), if_neg (show ¬ ((9 * nI f) < 0 ∨ 2709 ≤ (9 * nI f).toNatClampNeg) by rw [show (9 : Int32) * nI f = nI (9 * f) by rw [show (9 : Int32) = nI 9 from rfl, nmul]]; exact nI_in (by omega) (by decide)), if_neg (show ¬ (((9 * nI f) + 1) < 0 ∨ 2709 ≤ ((9 * nI f) + 1).toNatClampNeg) by rw [show (9 : Int32) * nI f + 1 = nI (9 * f + 1) by rw [show (9 : Int32) = nI 9 from rfl, nmul]; exact nadd _ 1]; exact nI_in (by omega) (by decide)), if_neg (nI_in (c := f) (N := 301) (by omega) (by decide)), if_neg (nI_in (c := k) (N := 200) (by omega) (by decide)), show aw 40 (nI k).toNatClampNeg = nI 32 by rw [ncl (by omega)]; exact hw]
  rfl
theorem rfn33 {f k : Nat} {iw : mI} {aw : mA} (hf : f < 301) (hk : k < 200) (hw : aw 40 k = nI 33) : mX12_finish (nI f) (nI k) iw aw = ob (mX12_finishMore (nI f) (nI k) (aw 67 (nI f).toNatClampNeg) (aw 70 (9 * (nI f)).toNatClampNeg) (va_up iw 71 ((iw 71) - 1)) aw) (fun r344 iv344 ar344 => some (r344, iv344, ar344)) := by
  unfold mX12_finish
  rw [if_neg (nI_in (c := f) (N := 301) (by omega) (by decide)), if_neg (show ¬ ((9 * nI f) < 0 ∨ 2709 ≤ (9 * nI f).toNatClampNeg) by rw [show (9 : Int32) * nI f = nI (9 * f) by rw [show (9 : Int32) = nI 9 from rfl, nmul]]; exact nI_in (by omega) (by decide)), if_neg (show ¬ (((9 * nI f) + 1) < 0 ∨ 2709 ≤ ((9 * nI f) + 1).toNatClampNeg) by rw [show (9 : Int32) * nI f + 1 = nI (9 * f + 1) by rw [show (9 : Int32) = nI 9 from rfl, nmul]; exact nadd _ 1]; exact nI_in (by omega) (by decide)), if_neg (nI_in (c := f) (N := 301) (by omega) (by decide)), if_neg (nI_in (c := k) (N := 200) (by omega) (by decide)), show aw 40 (nI k).toNatClampNeg = nI 33 by rw [ncl (by omega)]; exact hw]
  rfl
theorem rfm29 {a1 a3 a4 : Int32} {k : Nat} {iw : mI} {aw : mA} (hk : k < 200) (hw : aw 40 k = nI 29) : mX12_finishMore a1 (nI k) a3 a4 iw aw = ob (mX12_newValue 5 0 iw aw) (fun r39 iv39 ar39 => mX12_finishMore_L47 bigF a1 (nI k) r39 0 iv39 ar39) := by
  unfold mX12_finishMore
  rw [if_neg (nI_in (c := k) (N := 200) (by omega) (by decide)), show aw 40 (nI k).toNatClampNeg = nI 29 by rw [ncl (by omega)]; exact hw]
  rfl
theorem rfm30 {a1 a3 a4 : Int32} {k : Nat} {iw : mI} {aw : mA} (hk : k < 200) (hw : aw 40 k = nI 30) : mX12_finishMore a1 (nI k) a3 a4 iw aw = if (nI k) < 0 ∨ 200 ≤ (nI k).toNatClampNeg then none else if ((8 * a4) + (aw 42 (nI k).toNatClampNeg)) < 0 ∨ 16000 ≤ ((8 * a4) + (aw 42 (nI k).toNatClampNeg)).toNatClampNeg then none else some ((aw 60 ((8 * a4) + (aw 42 (nI k).toNatClampNeg)).toNatClampNeg), iw, aw) := by
  unfold mX12_finishMore
  rw [if_neg (nI_in (c := k) (N := 200) (by omega) (by decide)), show aw 40 (nI k).toNatClampNeg = nI 30 by rw [ncl (by omega)]; exact hw]
  rw [if_neg (show ¬ nI 30 = 29 by decide), if_pos (show nI 30 = 30 from rfl)]
theorem rfm31 {a1 a3 a4 : Int32} {k : Nat} {iw : mI} {aw : mA} (hk : k < 200) (hw : aw 40 k = nI 31) : mX12_finishMore a1 (nI k) a3 a4 iw aw = if (nI k) < 0 ∨ 200 ≤ (nI k).toNatClampNeg then none else ob (mX12_newValue 6 (aw 42 (nI k).toNatClampNeg) iw aw) (fun r152 iv152 ar152 => if r152 < 0 then some (r152, iv152, ar152) else if (nI k) < 0 ∨ 200 ≤ (nI k).toNatClampNeg then none else if ((8 * r152) + (ar152 42 (nI k).toNatClampNeg)) < 0 ∨ 16000 ≤ ((8 * r152) + (ar152 42 (nI k).toNatClampNeg)).toNatClampNeg then none else some (r152, iv152, au ar152 60 ((8 * r152) + (ar152 42 (nI k).toNatClampNeg)).toNatClampNeg a4)) := by
  unfold mX12_finishMore
  rw [if_neg (nI_in (c := k) (N := 200) (by omega) (by decide)), show aw 40 (nI k).toNatClampNeg = nI 31 by rw [ncl (by omega)]; exact hw]
  rfl
theorem rfm32 {a1 a3 a4 : Int32} {k : Nat} {iw : mI} {aw : mA} (hk : k < 200) (hw : aw 40 k = nI 32) : mX12_finishMore a1 (nI k) a3 a4 iw aw = mX12_finishMore_L187 bigF (nI k) a3 a4 0 iw aw := by
  unfold mX12_finishMore
  rw [if_neg (nI_in (c := k) (N := 200) (by omega) (by decide)), show aw 40 (nI k).toNatClampNeg = nI 32 by rw [ncl (by omega)]; exact hw]
  rw [if_neg (show ¬ nI 32 = 29 by decide), if_neg (show ¬ nI 32 = 30 by decide), if_neg (show ¬ nI 32 = 31 by decide), if_pos (show nI 32 = 32 from rfl)]
theorem rfm33 {a1 a3 a4 : Int32} {k : Nat} {iw : mI} {aw : mA} (hk : k < 200) (hw : aw 40 k = nI 33) : mX12_finishMore a1 (nI k) a3 a4 iw aw = ob (mX12_newValue 4 0 iw aw) (fun r260 iv260 ar260 => if r260 < 0 then some ((-1), iv260, ar260) else if (9 * (nI k)) < 0 ∨ 1800 ≤ (9 * (nI k)).toNatClampNeg then none else ob (mX12_bind r260 a3 iv260 ar260) (fun r284 iv284 ar284 => ob (mX12_next (ar260 43 (9 * (nI k)).toNatClampNeg) r284 r260 iv284 ar284) (fun r289 iv289 ar289 => some ((-1), iv289, ar289)))) := by
  unfold mX12_finishMore
  rw [if_neg (nI_in (c := k) (N := 200) (by omega) (by decide)), show aw 40 (nI k).toNatClampNeg = nI 33 by rw [ncl (by omega)]; exact hw]
  rfl
