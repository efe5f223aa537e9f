/-! words for calls -/
def dk_rtT (mi : Nat) : Option FieldType := match dk_ret mi with
  | 0 => none
  | 1 => some .int
  | 2 => some .boolean
  | _ => some (.object (dk_R 2))
def dk_codeW (mi : Nat) : Cond := if dk_han mi = [] then .code (dk_y mi) (dk_bytes mi) (dk_maxL mi) (dk_rtT mi) else .codeWith (dk_y mi) (dk_bytes mi) (dk_maxL mi) (dk_rtT mi) (dk_han mi)
theorem dk_byL {ws : List Cond} (ps : List Nat) (h : ws = ps.filterMap (fun i => lw_tbl[i]?)) : ∀ w ∈ ws, w ∈ lw_tbl := by
  intro w hw
  rw [h] at hw
  obtain ⟨i, -, hi⟩ := List.mem_filterMap.mp hw
  exact List.mem_of_getElem? hi
set_option maxRecDepth 100000 in
theorem dk_cw0 : tables_1[32]? = some (dk_codeW 0) := rfl
set_option maxRecDepth 100000 in
theorem dk_cw1 : tables_1[69]? = some (dk_codeW 1) := rfl
set_option maxRecDepth 100000 in
theorem dk_cw2 : tables_1[99]? = some (dk_codeW 2) := rfl
set_option maxRecDepth 100000 in
theorem dk_cw3 : tables_1[63]? = some (dk_codeW 3) := rfl
set_option maxRecDepth 100000 in
theorem dk_cw4 : tables_1[172]? = some (dk_codeW 4) := rfl
set_option maxRecDepth 100000 in
theorem dk_cw5 : tables_1[20]? = some (dk_codeW 5) := rfl
set_option maxRecDepth 100000 in
theorem dk_cw6 : tables_1[221]? = some (dk_codeW 6) := rfl
set_option maxRecDepth 100000 in
theorem dk_cw7 : tables_1[217]? = some (dk_codeW 7) := rfl
set_option maxRecDepth 100000 in
theorem dk_cw8 : tables_1[213]? = some (dk_codeW 8) := rfl
set_option maxRecDepth 100000 in
theorem dk_cw9 : tables_1[229]? = some (dk_codeW 9) := rfl
set_option maxRecDepth 100000 in
theorem dk_cw10 : tables_1[233]? = some (dk_codeW 10) := rfl
set_option maxRecDepth 100000 in
theorem dk_cw11 : tables_1[225]? = some (dk_codeW 11) := rfl
set_option maxRecDepth 100000 in
theorem dk_cw12 : tables_1[246]? = some (dk_codeW 12) := rfl
set_option maxRecDepth 100000 in
theorem dk_cw13 : tables_1[335]? = some (dk_codeW 13) := rfl
set_option maxRecDepth 100000 in
theorem dk_cw14 : tables_1[242]? = some (dk_codeW 14) := rfl
set_option maxRecDepth 100000 in
theorem dk_cw15 : tables_1[236]? = some (dk_codeW 15) := rfl
set_option maxRecDepth 100000 in
theorem dk_cw16 : tables_1[348]? = some (dk_codeW 16) := rfl
set_option maxRecDepth 100000 in
theorem dk_cw17 : tables_1[352]? = some (dk_codeW 17) := rfl
set_option maxRecDepth 100000 in
theorem dk_cw18 : tables_1[388]? = some (dk_codeW 18) := rfl
set_option maxRecDepth 100000 in
theorem dk_cw19 : tables_1[344]? = some (dk_codeW 19) := rfl
set_option maxRecDepth 100000 in
theorem dk_cw20 : tables_1[338]? = some (dk_codeW 20) := rfl
set_option maxRecDepth 100000 in
theorem dk_cw21 : tables_1[399]? = some (dk_codeW 21) := rfl
set_option maxRecDepth 100000 in
theorem dk_cw22 : tables_1[395]? = some (dk_codeW 22) := rfl
set_option maxRecDepth 100000 in
theorem dk_cw23 : tables_1[391]? = some (dk_codeW 23) := rfl
set_option maxRecDepth 100000 in
theorem dk_cw24 : tables_1[415]? = some (dk_codeW 24) := rfl
set_option maxRecDepth 100000 in
theorem dk_cw25 : tables_1[419]? = some (dk_codeW 25) := rfl
set_option maxRecDepth 100000 in
theorem dk_cw26 : tables_1[411]? = some (dk_codeW 26) := rfl
set_option maxRecDepth 100000 in
theorem dk_cw27 : tables_1[407]? = some (dk_codeW 27) := rfl
set_option maxRecDepth 100000 in
theorem dk_cw28 : tables_1[403]? = some (dk_codeW 28) := rfl
set_option maxRecDepth 100000 in
theorem dk_cw29 : tables_1[434]? = some (dk_codeW 29) := rfl
set_option maxRecDepth 100000 in
theorem dk_cw30 : tables_1[446]? = some (dk_codeW 30) := rfl
set_option maxRecDepth 100000 in
theorem dk_cw31 : tables_1[451]? = some (dk_codeW 31) := rfl
set_option maxRecDepth 100000 in
theorem dk_cw32 : tables_1[442]? = some (dk_codeW 32) := rfl
set_option maxRecDepth 100000 in
theorem dk_cw33 : tables_1[459]? = some (dk_codeW 33) := rfl
set_option maxRecDepth 100000 in
theorem dk_cw34 : tables_1[464]? = some (dk_codeW 34) := rfl
set_option maxRecDepth 100000 in
theorem dk_cw35 : tables_1[468]? = some (dk_codeW 35) := rfl
set_option maxRecDepth 100000 in
theorem dk_cw36 : tables_1[455]? = some (dk_codeW 36) := rfl
set_option maxRecDepth 100000 in
theorem dk_cw37 : tables_1[476]? = some (dk_codeW 37) := rfl
set_option maxRecDepth 100000 in
theorem dk_cw38 : tables_1[486]? = some (dk_codeW 38) := rfl
set_option maxRecDepth 100000 in
theorem dk_cw39 : tables_1[482]? = some (dk_codeW 39) := rfl
set_option maxRecDepth 100000 in
theorem dk_cw40 : tables_1[472]? = some (dk_codeW 40) := rfl
set_option maxRecDepth 100000 in
theorem dk_cw41 : tables_1[490]? = some (dk_codeW 41) := rfl
set_option maxRecDepth 100000 in
theorem dk_cw42 : tables_1[497]? = some (dk_codeW 42) := rfl
set_option maxRecDepth 100000 in
theorem dk_cw43 : tables_1[506]? = some (dk_codeW 43) := rfl
set_option maxRecDepth 100000 in
theorem dk_cw44 : tables_1[510]? = some (dk_codeW 44) := rfl
set_option maxRecDepth 100000 in
theorem dk_cw45 : tables_1[514]? = some (dk_codeW 45) := rfl
set_option maxRecDepth 100000 in
theorem dk_cw46 : tables_1[502]? = some (dk_codeW 46) := rfl
set_option maxRecDepth 100000 in
theorem dk_cw47 : tables_1[438]? = some (dk_codeW 47) := rfl
set_option maxRecDepth 100000 in
theorem dk_cw48 : tables_1[518]? = some (dk_codeW 48) := rfl
set_option maxRecDepth 100000 in
theorem dk_cw49 : tables_1[430]? = some (dk_codeW 49) := rfl
set_option maxRecDepth 100000 in
theorem dk_cw50 : tables_1[426]? = some (dk_codeW 50) := rfl
set_option maxRecDepth 100000 in
theorem dk_cw51 : tables_1[422]? = some (dk_codeW 51) := rfl
set_option maxRecDepth 100000 in
theorem dk_cw52 : tables_1[530]? = some (dk_codeW 52) := rfl
set_option maxRecDepth 100000 in
theorem dk_cw53 : tables_1[538]? = some (dk_codeW 53) := rfl
set_option maxRecDepth 100000 in
theorem dk_cw54 : tables_1[542]? = some (dk_codeW 54) := rfl
set_option maxRecDepth 100000 in
theorem dk_cw55 : tables_1[534]? = some (dk_codeW 55) := rfl
set_option maxRecDepth 100000 in
theorem dk_cw56 : tables_1[525]? = some (dk_codeW 56) := rfl
set_option maxRecDepth 100000 in
theorem dk_cw57 : tables_1[521]? = some (dk_codeW 57) := rfl
set_option maxRecDepth 100000 in
theorem dk_cw58 : tables_1[554]? = some (dk_codeW 58) := rfl
set_option maxRecDepth 100000 in
theorem dk_cw59 : tables_1[549]? = some (dk_codeW 59) := rfl
set_option maxRecDepth 100000 in
theorem dk_cw60 : tables_1[545]? = some (dk_codeW 60) := rfl
set_option maxRecDepth 100000 in
theorem dk_cw61 : tables_1[565]? = some (dk_codeW 61) := rfl
set_option maxRecDepth 100000 in
theorem dk_cw62 : tables_1[569]? = some (dk_codeW 62) := rfl
set_option maxRecDepth 100000 in
theorem dk_cw63 : tables_1[561]? = some (dk_codeW 63) := rfl
set_option maxRecDepth 100000 in
theorem dk_cw64 : tables_1[557]? = some (dk_codeW 64) := rfl
set_option maxRecDepth 100000 in
theorem dk_cw65 : tables_1[577]? = some (dk_codeW 65) := rfl
set_option maxRecDepth 100000 in
theorem dk_cw66 : tables_1[573]? = some (dk_codeW 66) := rfl
set_option maxRecDepth 100000 in
theorem dk_cw67 : tables_1[585]? = some (dk_codeW 67) := rfl
set_option maxRecDepth 100000 in
theorem dk_cw68 : tables_1[581]? = some (dk_codeW 68) := rfl
set_option maxRecDepth 100000 in
theorem dk_cw69 : tables_1[593]? = some (dk_codeW 69) := rfl
set_option maxRecDepth 100000 in
theorem dk_cw70 : tables_1[589]? = some (dk_codeW 70) := rfl
set_option maxRecDepth 100000 in
theorem dk_cw71 : tables_1[603]? = some (dk_codeW 71) := rfl
set_option maxRecDepth 100000 in
theorem dk_cw72 : tables_1[694]? = some (dk_codeW 72) := rfl
set_option maxRecDepth 100000 in
theorem dk_cw73 : tables_1[701]? = some (dk_codeW 73) := rfl
set_option maxRecDepth 100000 in
theorem dk_cw74 : tables_1[698]? = some (dk_codeW 74) := rfl
set_option maxRecDepth 100000 in
theorem dk_cw75 : tables_1[709]? = some (dk_codeW 75) := rfl
set_option maxRecDepth 100000 in
theorem dk_cw76 : tables_1[713]? = some (dk_codeW 76) := rfl
set_option maxRecDepth 100000 in
theorem dk_cw77 : tables_1[717]? = some (dk_codeW 77) := rfl
set_option maxRecDepth 100000 in
theorem dk_cw78 : tables_1[705]? = some (dk_codeW 78) := rfl
set_option maxRecDepth 100000 in
theorem dk_cw79 : tables_1[721]? = some (dk_codeW 79) := rfl
set_option maxRecDepth 100000 in
theorem dk_cw80 : tables_1[729]? = some (dk_codeW 80) := rfl
set_option maxRecDepth 100000 in
theorem dk_cw81 : tables_1[725]? = some (dk_codeW 81) := rfl
set_option maxRecDepth 100000 in
theorem dk_cw82 : tables_1[741]? = some (dk_codeW 82) := rfl
set_option maxRecDepth 100000 in
theorem dk_cw83 : tables_1[753]? = some (dk_codeW 83) := rfl
set_option maxRecDepth 100000 in
theorem dk_cw84 : tables_1[749]? = some (dk_codeW 84) := rfl
set_option maxRecDepth 100000 in
theorem dk_cw85 : tables_1[757]? = some (dk_codeW 85) := rfl
set_option maxRecDepth 100000 in
theorem dk_cw86 : tables_1[761]? = some (dk_codeW 86) := rfl
set_option maxRecDepth 100000 in
theorem dk_cw87 : tables_1[765]? = some (dk_codeW 87) := rfl
set_option maxRecDepth 100000 in
theorem dk_cw88 : tables_1[769]? = some (dk_codeW 88) := rfl
set_option maxRecDepth 100000 in
theorem dk_cw89 : tables_1[773]? = some (dk_codeW 89) := rfl
set_option maxRecDepth 100000 in
theorem dk_cw90 : tables_1[777]? = some (dk_codeW 90) := rfl
set_option maxRecDepth 100000 in
theorem dk_cw91 : tables_1[781]? = some (dk_codeW 91) := rfl
set_option maxRecDepth 100000 in
theorem dk_cw92 : tables_1[745]? = some (dk_codeW 92) := rfl
set_option maxRecDepth 100000 in
theorem dk_cw93 : tables_1[737]? = some (dk_codeW 93) := rfl
set_option maxRecDepth 100000 in
theorem dk_cw94 : tables_1[733]? = some (dk_codeW 94) := rfl
set_option maxRecDepth 100000 in
theorem dk_cw95 : tables_1[785]? = some (dk_codeW 95) := rfl
set_option maxRecDepth 100000 in
theorem dk_cw96 : tables_1[793]? = some (dk_codeW 96) := rfl
set_option maxRecDepth 100000 in
theorem dk_cw97 : tables_1[789]? = some (dk_codeW 97) := rfl
set_option maxRecDepth 100000 in
theorem dk_cw98 : tables_1[797]? = some (dk_codeW 98) := rfl
set_option maxRecDepth 100000 in
theorem dk_cw99 : tables_1[801]? = some (dk_codeW 99) := rfl
set_option maxRecDepth 100000 in
theorem dk_cw100 : tables_1[805]? = some (dk_codeW 100) := rfl
set_option maxRecDepth 100000 in
theorem dk_cw101 : tables_1[809]? = some (dk_codeW 101) := rfl
set_option maxRecDepth 100000 in
theorem dk_cw102 : tables_1[813]? = some (dk_codeW 102) := rfl
set_option maxRecDepth 100000 in
theorem dk_cw103 : tables_1[820]? = some (dk_codeW 103) := rfl
theorem dk_code_w {mi : Nat} (h : mi < 104) : dk_codeW mi ∈ lw_tbl := by
  match mi, h with
  | 0, _ => exact dk_inT (List.mem_of_getElem? dk_cw0)
  | 1, _ => exact dk_inT (List.mem_of_getElem? dk_cw1)
  | 2, _ => exact dk_inT (List.mem_of_getElem? dk_cw2)
  | 3, _ => exact dk_inT (List.mem_of_getElem? dk_cw3)
  | 4, _ => exact dk_inT (List.mem_of_getElem? dk_cw4)
  | 5, _ => exact dk_inT (List.mem_of_getElem? dk_cw5)
  | 6, _ => exact dk_inT (List.mem_of_getElem? dk_cw6)
  | 7, _ => exact dk_inT (List.mem_of_getElem? dk_cw7)
  | 8, _ => exact dk_inT (List.mem_of_getElem? dk_cw8)
  | 9, _ => exact dk_inT (List.mem_of_getElem? dk_cw9)
  | 10, _ => exact dk_inT (List.mem_of_getElem? dk_cw10)
  | 11, _ => exact dk_inT (List.mem_of_getElem? dk_cw11)
  | 12, _ => exact dk_inT (List.mem_of_getElem? dk_cw12)
  | 13, _ => exact dk_inT (List.mem_of_getElem? dk_cw13)
  | 14, _ => exact dk_inT (List.mem_of_getElem? dk_cw14)
  | 15, _ => exact dk_inT (List.mem_of_getElem? dk_cw15)
  | 16, _ => exact dk_inT (List.mem_of_getElem? dk_cw16)
  | 17, _ => exact dk_inT (List.mem_of_getElem? dk_cw17)
  | 18, _ => exact dk_inT (List.mem_of_getElem? dk_cw18)
  | 19, _ => exact dk_inT (List.mem_of_getElem? dk_cw19)
  | 20, _ => exact dk_inT (List.mem_of_getElem? dk_cw20)
  | 21, _ => exact dk_inT (List.mem_of_getElem? dk_cw21)
  | 22, _ => exact dk_inT (List.mem_of_getElem? dk_cw22)
  | 23, _ => exact dk_inT (List.mem_of_getElem? dk_cw23)
  | 24, _ => exact dk_inT (List.mem_of_getElem? dk_cw24)
  | 25, _ => exact dk_inT (List.mem_of_getElem? dk_cw25)
  | 26, _ => exact dk_inT (List.mem_of_getElem? dk_cw26)
  | 27, _ => exact dk_inT (List.mem_of_getElem? dk_cw27)
  | 28, _ => exact dk_inT (List.mem_of_getElem? dk_cw28)
  | 29, _ => exact dk_inT (List.mem_of_getElem? dk_cw29)
  | 30, _ => exact dk_inT (List.mem_of_getElem? dk_cw30)
  | 31, _ => exact dk_inT (List.mem_of_getElem? dk_cw31)
  | 32, _ => exact dk_inT (List.mem_of_getElem? dk_cw32)
  | 33, _ => exact dk_inT (List.mem_of_getElem? dk_cw33)
  | 34, _ => exact dk_inT (List.mem_of_getElem? dk_cw34)
  | 35, _ => exact dk_inT (List.mem_of_getElem? dk_cw35)
  | 36, _ => exact dk_inT (List.mem_of_getElem? dk_cw36)
  | 37, _ => exact dk_inT (List.mem_of_getElem? dk_cw37)
  | 38, _ => exact dk_inT (List.mem_of_getElem? dk_cw38)
  | 39, _ => exact dk_inT (List.mem_of_getElem? dk_cw39)
  | 40, _ => exact dk_inT (List.mem_of_getElem? dk_cw40)
  | 41, _ => exact dk_inT (List.mem_of_getElem? dk_cw41)
  | 42, _ => exact dk_inT (List.mem_of_getElem? dk_cw42)
  | 43, _ => exact dk_inT (List.mem_of_getElem? dk_cw43)
  | 44, _ => exact dk_inT (List.mem_of_getElem? dk_cw44)
  | 45, _ => exact dk_inT (List.mem_of_getElem? dk_cw45)
  | 46, _ => exact dk_inT (List.mem_of_getElem? dk_cw46)
  | 47, _ => exact dk_inT (List.mem_of_getElem? dk_cw47)
  | 48, _ => exact dk_inT (List.mem_of_getElem? dk_cw48)
  | 49, _ => exact dk_inT (List.mem_of_getElem? dk_cw49)
  | 50, _ => exact dk_inT (List.mem_of_getElem? dk_cw50)
  | 51, _ => exact dk_inT (List.mem_of_getElem? dk_cw51)
  | 52, _ => exact dk_inT (List.mem_of_getElem? dk_cw52)
  | 53, _ => exact dk_inT (List.mem_of_getElem? dk_cw53)
  | 54, _ => exact dk_inT (List.mem_of_getElem? dk_cw54)
  | 55, _ => exact dk_inT (List.mem_of_getElem? dk_cw55)
  | 56, _ => exact dk_inT (List.mem_of_getElem? dk_cw56)
  | 57, _ => exact dk_inT (List.mem_of_getElem? dk_cw57)
  | 58, _ => exact dk_inT (List.mem_of_getElem? dk_cw58)
  | 59, _ => exact dk_inT (List.mem_of_getElem? dk_cw59)
  | 60, _ => exact dk_inT (List.mem_of_getElem? dk_cw60)
  | 61, _ => exact dk_inT (List.mem_of_getElem? dk_cw61)
  | 62, _ => exact dk_inT (List.mem_of_getElem? dk_cw62)
  | 63, _ => exact dk_inT (List.mem_of_getElem? dk_cw63)
  | 64, _ => exact dk_inT (List.mem_of_getElem? dk_cw64)
  | 65, _ => exact dk_inT (List.mem_of_getElem? dk_cw65)
  | 66, _ => exact dk_inT (List.mem_of_getElem? dk_cw66)
  | 67, _ => exact dk_inT (List.mem_of_getElem? dk_cw67)
  | 68, _ => exact dk_inT (List.mem_of_getElem? dk_cw68)
  | 69, _ => exact dk_inT (List.mem_of_getElem? dk_cw69)
  | 70, _ => exact dk_inT (List.mem_of_getElem? dk_cw70)
  | 71, _ => exact dk_inT (List.mem_of_getElem? dk_cw71)
  | 72, _ => exact dk_inT (List.mem_of_getElem? dk_cw72)
  | 73, _ => exact dk_inT (List.mem_of_getElem? dk_cw73)
  | 74, _ => exact dk_inT (List.mem_of_getElem? dk_cw74)
  | 75, _ => exact dk_inT (List.mem_of_getElem? dk_cw75)
  | 76, _ => exact dk_inT (List.mem_of_getElem? dk_cw76)
  | 77, _ => exact dk_inT (List.mem_of_getElem? dk_cw77)
  | 78, _ => exact dk_inT (List.mem_of_getElem? dk_cw78)
  | 79, _ => exact dk_inT (List.mem_of_getElem? dk_cw79)
  | 80, _ => exact dk_inT (List.mem_of_getElem? dk_cw80)
  | 81, _ => exact dk_inT (List.mem_of_getElem? dk_cw81)
  | 82, _ => exact dk_inT (List.mem_of_getElem? dk_cw82)
  | 83, _ => exact dk_inT (List.mem_of_getElem? dk_cw83)
  | 84, _ => exact dk_inT (List.mem_of_getElem? dk_cw84)
  | 85, _ => exact dk_inT (List.mem_of_getElem? dk_cw85)
  | 86, _ => exact dk_inT (List.mem_of_getElem? dk_cw86)
  | 87, _ => exact dk_inT (List.mem_of_getElem? dk_cw87)
  | 88, _ => exact dk_inT (List.mem_of_getElem? dk_cw88)
  | 89, _ => exact dk_inT (List.mem_of_getElem? dk_cw89)
  | 90, _ => exact dk_inT (List.mem_of_getElem? dk_cw90)
  | 91, _ => exact dk_inT (List.mem_of_getElem? dk_cw91)
  | 92, _ => exact dk_inT (List.mem_of_getElem? dk_cw92)
  | 93, _ => exact dk_inT (List.mem_of_getElem? dk_cw93)
  | 94, _ => exact dk_inT (List.mem_of_getElem? dk_cw94)
  | 95, _ => exact dk_inT (List.mem_of_getElem? dk_cw95)
  | 96, _ => exact dk_inT (List.mem_of_getElem? dk_cw96)
  | 97, _ => exact dk_inT (List.mem_of_getElem? dk_cw97)
  | 98, _ => exact dk_inT (List.mem_of_getElem? dk_cw98)
  | 99, _ => exact dk_inT (List.mem_of_getElem? dk_cw99)
  | 100, _ => exact dk_inT (List.mem_of_getElem? dk_cw100)
  | 101, _ => exact dk_inT (List.mem_of_getElem? dk_cw101)
  | 102, _ => exact dk_inT (List.mem_of_getElem? dk_cw102)
  | 103, _ => exact dk_inT (List.mem_of_getElem? dk_cw103)
  | n + 104, h => omega
def dk_virtL : List Nat := [6, 7, 8, 9, 10, 11, 12, 13, 14, 16, 18, 19, 22, 24, 25, 26, 27, 29, 30, 31, 32, 33, 34, 35, 36, 37, 38, 40, 41, 42, 43, 44, 45, 46, 47, 48, 49, 50, 52, 53, 54, 55, 56, 58, 59, 61, 62, 63, 65, 67, 69, 72, 74, 75, 76, 77, 78, 79, 80, 81, 82, 83, 84, 85, 86, 87, 88, 89, 90, 91, 92, 93, 94, 95, 96, 97, 98, 99, 100, 101, 102, 103]
def dk_instL : List Nat := [0, 1, 2, 3, 4, 5, 6, 7, 8, 9, 10, 11, 12, 13, 14, 16, 18, 19, 22, 24, 25, 26, 27, 29, 30, 31, 32, 33, 34, 35, 36, 37, 38, 40, 41, 42, 43, 44, 45, 46, 47, 48, 49, 50, 52, 53, 54, 55, 56, 58, 59, 61, 62, 63, 65, 67, 69, 71, 72, 74, 75, 76, 77, 78, 79, 80, 81, 82, 83, 84, 85, 86, 87, 88, 89, 90, 91, 92, 93, 94, 95, 96, 97, 98, 99, 100, 101, 102, 103]
def dk_statL : List Nat := [15, 17, 20, 21, 23, 28, 39, 51, 57, 60, 64, 66, 68, 70, 73]
set_option maxRecDepth 20000 in
theorem dk_im_in : ∀ w ∈ dk_instL.map (fun i => Cond.instanceMethod (dk_y i)), w ∈ lw_tbl := dk_byP [31, 68, 98, 62, 171, 19, 220, 216, 211, 228, 232, 223, 245, 334, 240, 347, 387, 342, 393, 414, 418, 410, 405, 433, 445, 450, 441, 458, 463, 467, 454, 475, 485, 471, 489, 496, 505, 509, 513, 501, 437, 517, 429, 424, 529, 537, 541, 533, 523, 553, 547, 564, 568, 559, 575, 583, 591, 602, 692, 696, 708, 712, 716, 703, 719, 728, 723, 740, 752, 748, 756, 760, 764, 768, 772, 776, 780, 744, 736, 731, 783, 792, 787, 795, 799, 803, 807, 811, 818] (by decide +kernel)
set_option maxRecDepth 20000 in
theorem dk_st_in : ∀ w ∈ dk_statL.map (fun i => Cond.static (dk_y i)), w ∈ lw_tbl := dk_byP [235, 351, 337, 398, 390, 402, 481, 421, 520, 544, 556, 572, 580, 588, 700] (by decide +kernel)
set_option maxRecDepth 20000 in
theorem dk_se_in : ∀ w ∈ dk_virtL.map (fun i => Cond.selects (dk_R (dk_oc i)) (dk_y i) (dk_y i)), w ∈ lw_tbl := dk_byL [1, 0, 268, 2, 3, 280, 4, 6, 297, 7, 8, 399, 450, 10, 11, 9, 462, 13, 16, 17, 15, 19, 20, 21, 18, 23, 24, 22, 25, 26, 28, 29, 30, 27, 14, 31, 12, 481, 32, 34, 35, 33, 580, 36, 604, 37, 38, 616, 632, 640, 648, 749, 753, 39, 40, 41, 760, 776, 42, 780, 44, 47, 46, 48, 49, 50, 51, 52, 53, 54, 45, 43, 788, 840, 55, 844, 852, 856, 860, 864, 868, 875] (by decide +kernel)
def dk_tgt (mode callee : Nat) : MethodName := match mode with
  | 2 => objectInit
  | 3 => Lib.Math.max.name
  | 4 => Lib.Math.min.name
  | 9 => ⟨dk_X callee, "<init>", "(Ljava/lang/String;)V"⟩
  | _ => dk_y callee
def dk_lnkW (q : Nat × Nat × Nat × Nat × Nat × Bool) : Cond := if q.2.2.2.2.2 = true then .methodLinkNest (dk_R (q.1 / 1000)) (q.1 % 1000) (dk_tgt q.2.1 q.2.2.1) (dk_R 5) else .methodLink (dk_R (q.1 / 1000)) (q.1 % 1000) (dk_tgt q.2.1 q.2.2.1)
set_option maxRecDepth 20000 in
theorem dk_lnk_in : ∀ w ∈ dk_callL.map dk_lnkW, w ∈ lw_tbl := dk_byP [18, 21, 30, 33, 61, 64, 67, 70, 97, 100, 170, 173, 210, 214, 218, 222, 226, 230, 234, 239, 243, 290, 326, 332, 336, 341, 345, 350, 363, 379, 385, 389, 392, 397, 401, 404, 408, 412, 416, 420, 423, 427, 431, 435, 439, 443, 447, 448, 452, 456, 460, 461, 465, 469, 473, 477, 480, 483, 487, 491, 494, 498, 499, 503, 507, 511, 515, 519, 522, 527, 531, 535, 539, 543, 546, 551, 555, 558, 562, 566, 571, 574, 579, 582, 587, 590, 601, 604, 691, 695, 699, 702, 706, 710, 714, 718, 722, 726, 730, 734, 738, 742, 746, 750, 754, 758, 762, 766, 770, 774, 778, 782, 786, 790, 794, 798, 802, 806, 810, 817] (by decide +kernel)
def dk_callok (q : Nat × Nat × Nat × Nat × Nat × Bool) : Bool := !Nat.blt q.2.1 2 || (Nat.blt q.2.2.1 104 && decide ((dk_sig q.2.2.1).length = q.2.2.2.1) && ((q.2.2.2.2.1 == 0 && dk_virtL.contains q.2.2.1 && dk_instL.contains q.2.2.1 && decide ((parseMethodDescriptor (dk_y q.2.2.1).desc).map (fun d => d.parameters.length + 1) = some q.2.2.2.1) && decide ((dk_sig q.2.2.1).head? = some (20 + dk_oc q.2.2.1)))
  || (q.2.2.2.2.1 == 1 && dk_instL.contains q.2.2.1 && decide ((dk_y q.2.2.1).name = "<init>") && decide ((parseMethodDescriptor (dk_y q.2.2.1).desc).map (fun d => d.parameters.length + 1) = some q.2.2.2.1) && decide ((dk_sig q.2.2.1).head? = some (20 + dk_oc q.2.2.1)) && decide (dk_ret q.2.2.1 = 0))
  || (q.2.2.2.2.1 == 2 && dk_statL.contains q.2.2.1 && !q.2.2.2.2.2 && decide ((parseMethodDescriptor (dk_y q.2.2.1).desc).map (fun d => d.parameters.length) = some q.2.2.2.1))))
theorem dk_callok_all : dk_callL.all dk_callok = true := by decide +kernel
theorem dk_plainN : ∀ c, c < 8 → plainName (dk_R c) = true ∧ dk_R c ≠ "java/lang/invoke/MethodHandle" ∧ dk_R c ≠ "java/lang/invoke/VarHandle" := by decide +kernel
theorem dk_ycls (mi : Nat) : (dk_y mi).cls = dk_R (dk_oc mi) := by
  unfold dk_y dk_oc
  split <;> rfl
/-- the stack that a call needs -/
def dk_roomok (mi ix : Nat) : Bool := match dk_callT mi ix with
  | some (m, callee, _, _, _) => Nat.ble 24 (dk_lo mi) && Nat.ble 1 (dk_fr mi) && (!Nat.blt m 2 || (Nat.ble (dk_fr callee + 1) (dk_fr mi) && Nat.ble (8 + dk_maxL callee + 11 + dk_lo callee) (dk_lo mi)))
  | none => true
def dk_chk3 (mi : Nat) (q : Nat × dkE) : Bool := match q.2.1 with
  | .invokevirtual ix => dk_roomok mi ix
  | .invokespecial ix => dk_roomok mi ix
  | .invokestatic ix => dk_roomok mi ix
  | _ => true
theorem dk_m0 : dk_c0.all (dk_chk3 0) = true := by decide +kernel
theorem dk_m1 : dk_c1.all (dk_chk3 1) = true := by decide +kernel
theorem dk_m2 : dk_c2.all (dk_chk3 2) = true := by decide +kernel
theorem dk_m3 : dk_c3.all (dk_chk3 3) = true := by decide +kernel
theorem dk_m4 : dk_c4.all (dk_chk3 4) = true := by decide +kernel
theorem dk_m5 : dk_c5.all (dk_chk3 5) = true := by decide +kernel
theorem dk_m6 : dk_c6.all (dk_chk3 6) = true := by decide +kernel
theorem dk_m7 : dk_c7.all (dk_chk3 7) = true := by decide +kernel
theorem dk_m8 : dk_c8.all (dk_chk3 8) = true := by decide +kernel
theorem dk_m9 : dk_c9.all (dk_chk3 9) = true := by decide +kernel
theorem dk_m10 : dk_c10.all (dk_chk3 10) = true := by decide +kernel
theorem dk_m11 : dk_c11.all (dk_chk3 11) = true := by decide +kernel
theorem dk_m12 : dk_c12.all (dk_chk3 12) = true := by decide +kernel
theorem dk_m13 : dk_c13.all (dk_chk3 13) = true := by decide +kernel
theorem dk_m14 : dk_c14.all (dk_chk3 14) = true := by decide +kernel
theorem dk_m15 : dk_c15.all (dk_chk3 15) = true := by decide +kernel
theorem dk_m16 : dk_c16.all (dk_chk3 16) = true := by decide +kernel
theorem dk_m17 : dk_c17.all (dk_chk3 17) = true := by decide +kernel
theorem dk_m18 : dk_c18.all (dk_chk3 18) = true := by decide +kernel
theorem dk_m19 : dk_c19.all (dk_chk3 19) = true := by decide +kernel
theorem dk_m20 : dk_c20.all (dk_chk3 20) = true := by decide +kernel
theorem dk_m21 : dk_c21.all (dk_chk3 21) = true := by decide +kernel
theorem dk_m22 : dk_c22.all (dk_chk3 22) = true := by decide +kernel
theorem dk_m23 : dk_c23.all (dk_chk3 23) = true := by decide +kernel
theorem dk_m24 : dk_c24.all (dk_chk3 24) = true := by decide +kernel
theorem dk_m25 : dk_c25.all (dk_chk3 25) = true := by decide +kernel
theorem dk_m26 : dk_c26.all (dk_chk3 26) = true := by decide +kernel
theorem dk_m27 : dk_c27.all (dk_chk3 27) = true := by decide +kernel
theorem dk_m28 : dk_c28.all (dk_chk3 28) = true := by decide +kernel
theorem dk_m29 : dk_c29.all (dk_chk3 29) = true := by decide +kernel
theorem dk_m30 : dk_c30.all (dk_chk3 30) = true := by decide +kernel
theorem dk_m31 : dk_c31.all (dk_chk3 31) = true := by decide +kernel
theorem dk_m32 : dk_c32.all (dk_chk3 32) = true := by decide +kernel
theorem dk_m33 : dk_c33.all (dk_chk3 33) = true := by decide +kernel
theorem dk_m34 : dk_c34.all (dk_chk3 34) = true := by decide +kernel
theorem dk_m35 : dk_c35.all (dk_chk3 35) = true := by decide +kernel
theorem dk_m36 : dk_c36.all (dk_chk3 36) = true := by decide +kernel
theorem dk_m37 : dk_c37.all (dk_chk3 37) = true := by decide +kernel
theorem dk_m38 : dk_c38.all (dk_chk3 38) = true := by decide +kernel
theorem dk_m39 : dk_c39.all (dk_chk3 39) = true := by decide +kernel
theorem dk_m40 : dk_c40.all (dk_chk3 40) = true := by decide +kernel
theorem dk_m41 : dk_c41.all (dk_chk3 41) = true := by decide +kernel
theorem dk_m42 : dk_c42.all (dk_chk3 42) = true := by decide +kernel
theorem dk_m43 : dk_c43.all (dk_chk3 43) = true := by decide +kernel
theorem dk_m44 : dk_c44.all (dk_chk3 44) = true := by decide +kernel
theorem dk_m45 : dk_c45.all (dk_chk3 45) = true := by decide +kernel
theorem dk_m46 : dk_c46.all (dk_chk3 46) = true := by decide +kernel
theorem dk_m47 : dk_c47.all (dk_chk3 47) = true := by decide +kernel
theorem dk_m48 : dk_c48.all (dk_chk3 48) = true := by decide +kernel
theorem dk_m49 : dk_c49.all (dk_chk3 49) = true := by decide +kernel
theorem dk_m50 : dk_c50.all (dk_chk3 50) = true := by decide +kernel
theorem dk_m51 : dk_c51.all (dk_chk3 51) = true := by decide +kernel
theorem dk_m52 : dk_c52.all (dk_chk3 52) = true := by decide +kernel
theorem dk_m53 : dk_c53.all (dk_chk3 53) = true := by decide +kernel
theorem dk_m54 : dk_c54.all (dk_chk3 54) = true := by decide +kernel
theorem dk_m55 : dk_c55.all (dk_chk3 55) = true := by decide +kernel
theorem dk_m56 : dk_c56.all (dk_chk3 56) = true := by decide +kernel
theorem dk_m57 : dk_c57.all (dk_chk3 57) = true := by decide +kernel
theorem dk_m58 : dk_c58.all (dk_chk3 58) = true := by decide +kernel
theorem dk_m59 : dk_c59.all (dk_chk3 59) = true := by decide +kernel
theorem dk_m60 : dk_c60.all (dk_chk3 60) = true := by decide +kernel
theorem dk_m61 : dk_c61.all (dk_chk3 61) = true := by decide +kernel
theorem dk_m62 : dk_c62.all (dk_chk3 62) = true := by decide +kernel
theorem dk_m63 : dk_c63.all (dk_chk3 63) = true := by decide +kernel
theorem dk_m64 : dk_c64.all (dk_chk3 64) = true := by decide +kernel
theorem dk_m65 : dk_c65.all (dk_chk3 65) = true := by decide +kernel
theorem dk_m66 : dk_c66.all (dk_chk3 66) = true := by decide +kernel
theorem dk_m67 : dk_c67.all (dk_chk3 67) = true := by decide +kernel
theorem dk_m68 : dk_c68.all (dk_chk3 68) = true := by decide +kernel
theorem dk_m69 : dk_c69.all (dk_chk3 69) = true := by decide +kernel
theorem dk_m70 : dk_c70.all (dk_chk3 70) = true := by decide +kernel
theorem dk_m71 : dk_c71.all (dk_chk3 71) = true := by decide +kernel
theorem dk_m72 : dk_c72.all (dk_chk3 72) = true := by decide +kernel
theorem dk_m73 : dk_c73.all (dk_chk3 73) = true := by decide +kernel
theorem dk_m74 : dk_c74.all (dk_chk3 74) = true := by decide +kernel
theorem dk_m75 : dk_c75.all (dk_chk3 75) = true := by decide +kernel
theorem dk_m76 : dk_c76.all (dk_chk3 76) = true := by decide +kernel
theorem dk_m77 : dk_c77.all (dk_chk3 77) = true := by decide +kernel
theorem dk_m78 : dk_c78.all (dk_chk3 78) = true := by decide +kernel
theorem dk_m79 : dk_c79.all (dk_chk3 79) = true := by decide +kernel
theorem dk_m80 : dk_c80.all (dk_chk3 80) = true := by decide +kernel
theorem dk_m81 : dk_c81.all (dk_chk3 81) = true := by decide +kernel
theorem dk_m82 : dk_c82.all (dk_chk3 82) = true := by decide +kernel
theorem dk_m83 : dk_c83.all (dk_chk3 83) = true := by decide +kernel
theorem dk_m84 : dk_c84.all (dk_chk3 84) = true := by decide +kernel
theorem dk_m85 : dk_c85.all (dk_chk3 85) = true := by decide +kernel
theorem dk_m86 : dk_c86.all (dk_chk3 86) = true := by decide +kernel
theorem dk_m87 : dk_c87.all (dk_chk3 87) = true := by decide +kernel
theorem dk_m88 : dk_c88.all (dk_chk3 88) = true := by decide +kernel
theorem dk_m89 : dk_c89.all (dk_chk3 89) = true := by decide +kernel
theorem dk_m90 : dk_c90.all (dk_chk3 90) = true := by decide +kernel
theorem dk_m91 : dk_c91.all (dk_chk3 91) = true := by decide +kernel
theorem dk_m92 : dk_c92.all (dk_chk3 92) = true := by decide +kernel
theorem dk_m93 : dk_c93.all (dk_chk3 93) = true := by decide +kernel
theorem dk_m94 : dk_c94.all (dk_chk3 94) = true := by decide +kernel
theorem dk_m95 : dk_c95.all (dk_chk3 95) = true := by decide +kernel
theorem dk_m96 : dk_c96.all (dk_chk3 96) = true := by decide +kernel
theorem dk_m97 : dk_c97.all (dk_chk3 97) = true := by decide +kernel
theorem dk_m98 : dk_c98.all (dk_chk3 98) = true := by decide +kernel
theorem dk_m99 : dk_c99.all (dk_chk3 99) = true := by decide +kernel
theorem dk_m100 : dk_c100.all (dk_chk3 100) = true := by decide +kernel
theorem dk_m101 : dk_c101.all (dk_chk3 101) = true := by decide +kernel
theorem dk_m102 : dk_c102.all (dk_chk3 102) = true := by decide +kernel
theorem dk_m103 : dk_c103.all (dk_chk3 103) = true := by decide +kernel
theorem dk_m104 : dk_c104.all (dk_chk3 104) = true := by decide +kernel
theorem dk_mall (mi : Nat) : (dk_code mi).all (dk_chk3 mi) = true := by
  match mi with
  | 0 => exact dk_m0
  | 1 => exact dk_m1
  | 2 => exact dk_m2
  | 3 => exact dk_m3
  | 4 => exact dk_m4
  | 5 => exact dk_m5
  | 6 => exact dk_m6
  | 7 => exact dk_m7
  | 8 => exact dk_m8
  | 9 => exact dk_m9
  | 10 => exact dk_m10
  | 11 => exact dk_m11
  | 12 => exact dk_m12
  | 13 => exact dk_m13
  | 14 => exact dk_m14
  | 15 => exact dk_m15
  | 16 => exact dk_m16
  | 17 => exact dk_m17
  | 18 => exact dk_m18
  | 19 => exact dk_m19
  | 20 => exact dk_m20
  | 21 => exact dk_m21
  | 22 => exact dk_m22
  | 23 => exact dk_m23
  | 24 => exact dk_m24
  | 25 => exact dk_m25
  | 26 => exact dk_m26
  | 27 => exact dk_m27
  | 28 => exact dk_m28
  | 29 => exact dk_m29
  | 30 => exact dk_m30
  | 31 => exact dk_m31
  | 32 => exact dk_m32
  | 33 => exact dk_m33
  | 34 => exact dk_m34
  | 35 => exact dk_m35
  | 36 => exact dk_m36
  | 37 => exact dk_m37
  | 38 => exact dk_m38
  | 39 => exact dk_m39
  | 40 => exact dk_m40
  | 41 => exact dk_m41
  | 42 => exact dk_m42
  | 43 => exact dk_m43
  | 44 => exact dk_m44
  | 45 => exact dk_m45
  | 46 => exact dk_m46
  | 47 => exact dk_m47
  | 48 => exact dk_m48
  | 49 => exact dk_m49
  | 50 => exact dk_m50
  | 51 => exact dk_m51
  | 52 => exact dk_m52
  | 53 => exact dk_m53
  | 54 => exact dk_m54
  | 55 => exact dk_m55
  | 56 => exact dk_m56
  | 57 => exact dk_m57
  | 58 => exact dk_m58
  | 59 => exact dk_m59
  | 60 => exact dk_m60
  | 61 => exact dk_m61
  | 62 => exact dk_m62
  | 63 => exact dk_m63
  | 64 => exact dk_m64
  | 65 => exact dk_m65
  | 66 => exact dk_m66
  | 67 => exact dk_m67
  | 68 => exact dk_m68
  | 69 => exact dk_m69
  | 70 => exact dk_m70
  | 71 => exact dk_m71
  | 72 => exact dk_m72
  | 73 => exact dk_m73
  | 74 => exact dk_m74
  | 75 => exact dk_m75
  | 76 => exact dk_m76
  | 77 => exact dk_m77
  | 78 => exact dk_m78
  | 79 => exact dk_m79
  | 80 => exact dk_m80
  | 81 => exact dk_m81
  | 82 => exact dk_m82
  | 83 => exact dk_m83
  | 84 => exact dk_m84
  | 85 => exact dk_m85
  | 86 => exact dk_m86
  | 87 => exact dk_m87
  | 88 => exact dk_m88
  | 89 => exact dk_m89
  | 90 => exact dk_m90
  | 91 => exact dk_m91
  | 92 => exact dk_m92
  | 93 => exact dk_m93
  | 94 => exact dk_m94
  | 95 => exact dk_m95
  | 96 => exact dk_m96
  | 97 => exact dk_m97
  | 98 => exact dk_m98
  | 99 => exact dk_m99
  | 100 => exact dk_m100
  | 101 => exact dk_m101
  | 102 => exact dk_m102
  | 103 => exact dk_m103
  | 104 => exact dk_m104
  | n + 105 => rfl
theorem dk_room {mi pc : Nat} {en : dkE} (h : dk_find (dk_code mi) pc = some en) : dk_chk3 mi (pc, en) = true := List.all_eq_true.mp (dk_mall mi) _ (dk_find_mem _ _ _ h)
