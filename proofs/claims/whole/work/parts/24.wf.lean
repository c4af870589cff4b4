/-! THE LAYOUT of the cells once both objects stand (printed by wip/whole/gen_wf.py) -/
def yTb : List (Nat × Nat) := [(17, 10), (12, 13), (1, 6), (1, 6), (1, 6), (1, 36), (1, 24), (1, 6), (13, 2), (1, 32), (13, 2), (1, 20), (13, 2), (1, 40), (13, 2), (1, 32), (14, 5), (1, 100), (1, 100), (1, 100), (12, 13), (1, 6), (1, 6), (1, 6), (1, 36), (1, 24), (1, 6), (13, 2), (1, 32), (13, 2), (1, 20), (13, 2), (1, 40), (13, 2), (1, 32), (14, 5), (1, 100), (1, 100), (1, 100), (12, 13), (1, 6), (1, 6), (1, 6), (1, 36), (1, 24), (1, 6), (13, 2), (1, 32), (13, 2), (1, 20), (13, 2), (1, 40), (13, 2), (1, 32), (14, 5), (1, 100), (1, 100), (1, 100), (16, 5), (1, 100), (5, 6), (6, 6), (10, 5), (1, 20), (11, 6), (1, 36), (1, 6), (1, 6), (1, 6), (14, 5), (1, 100), (1, 100), (1, 100), (14, 5), (1, 100), (1, 100), (1, 100), (14, 5), (1, 100), (1, 100), (1, 100), (14, 5), (1, 100), (1, 100), (1, 100), (14, 5), (1, 100), (1, 100), (1, 100), (14, 5), (1, 100), (1, 100), (1, 100), (15, 3), (3, 60), (15, 3), (3, 60), (15, 3), (3, 60), (15, 3), (3, 60), (15, 3), (3, 60), (15, 3), (3, 60), (18, 49), (1, 6), (1, 6), (1, 36), (1, 6), (1, 24), (1, 8), (1, 100), (1, 6), (1, 61), (1, 61), (1, 61), (1, 61), (1, 800), (2, 110), (1, 5), (1, 5), (1, 5), (1, 5), (1, 10), (1, 10), (1, 8), (1, 8), (1, 20), (1, 152), (1, 152), (1, 6), (1, 6), (1, 6), (1, 6), (1, 6), (1, 6), (3, 360)]
def yPb : List (List (Option Nat)) := [[some 33, some 52, some 71, none, some 90, some 92, none, some 93, some 94, some 96], [some 34, some 35, some 36, some 37, some 38, some 39, some 40, some 42, some 44, some 46, none, none, some 48], [], [], [], [], [], [], [some 41], [], [some 43], [], [some 45], [], [some 47], [], [some 49, some 50, some 51], [], [], [], [some 53, some 54, some 55, some 56, some 57, some 58, some 59, some 61, some 63, some 65, none, none, some 67], [], [], [], [], [], [], [some 60], [], [some 62], [], [some 64], [], [some 66], [], [some 68, some 69, some 70], [], [], [], [some 72, some 73, some 74, some 75, some 76, some 77, some 78, some 80, some 82, some 84, none, none, some 86], [], [], [], [], [], [], [some 79], [], [some 81], [], [some 83], [], [some 85], [], [some 87, some 88, some 89], [], [], [], [some 91], [], [some 101, some 105, some 109, some 113, some 117, some 121], [some 125, some 127, some 129, some 131, some 133, some 135], [some 95], [], [some 97, some 98, some 99, some 100], [], [], [], [], [some 102, some 103, some 104], [], [], [], [some 106, some 107, some 108], [], [], [], [some 110, some 111, some 112], [], [], [], [some 114, some 115, some 116], [], [], [], [some 118, some 119, some 120], [], [], [], [some 122, some 123, some 124], [], [], [], [some 126], [], [some 128], [], [some 130], [], [some 132], [], [some 134], [], [some 136], [], [none, some 138, some 139, some 140, some 141, some 142, none, some 143, none, none, some 144, none, none, none, none, none, none, some 145, some 146, some 147, some 148, some 149, some 150, none, some 151, none, some 152, some 153, some 154, some 155, none, some 156, some 157, none, some 158, some 159, none, some 160, none, some 161, some 162, some 163, some 164, some 165, some 166, none, some 167, some 168, some 169], [], [], [], [], [], [], [], [], [], [], [], [], [], [], [], [], [], [], [], [], [], [], [], [], [], [], [], [], [], [], [], []]
def yTS (zl b : Nat) : Nat × Nat := if b < 32 then zbS zl b else yTb.getD (b - 32) (0, 0)
def yTP (nl : Option Nat) (a k : Nat) : Option Nat := if a < 32 then zbP nl a k else (yPb.getD (a - 32) []).getD k none
def yMu (a k : Nat) : Bool := (k == 12 && (a == 33 || a == 52 || a == 71)) || (a == 90 && k == 4)
def yHs (a : Nat) : Prop := a = 33 ∨ a = 52 ∨ a = 71
def ySh (s : Nat) : Prop := s = 48 ∨ s = 67 ∨ s = 86 ∨ s = 101 ∨ s = 105 ∨ s = 109 ∨ s = 113 ∨ s = 117 ∨ s = 121
def yTp (t : Nat) : Prop := t = 125 ∨ t = 127 ∨ t = 129 ∨ t = 131 ∨ t = 133 ∨ t = 135
def yRs (r n : Nat) : Prop := ∃ a, yHs a ∧ ((r = a + 7 ∧ n = 32) ∨ (r = a + 9 ∧ n = 20) ∨ (r = a + 11 ∧ n = 40) ∨ (r = a + 13 ∧ n = 32))
/-- the cells stand as laid out -/
def yWF (zl : Nat) (nl : Option Nat) (h : Hp) : Prop := zS h = yTS zl ∧ (∀ a k, yMu a k = false → zP h a k = yTP nl a k) ∧ (∀ a, yHs a → ∃ s, zP h a 12 = some s ∧ ySh s) ∧ zN h = 138 ∧ zM h = 6193
section YWF
variable {zl : Nat} {nl : Option Nat} {h : Hp} {a r n s t : Nat}
theorem ys32 (w : yWF zl nl h) : zS h 32 = (17, 10) := congrFun w.1 32
theorem ys33 (w : yWF zl nl h) : zS h 33 = (12, 13) := congrFun w.1 33
theorem ys34 (w : yWF zl nl h) : zS h 34 = (1, 6) := congrFun w.1 34
theorem ys35 (w : yWF zl nl h) : zS h 35 = (1, 6) := congrFun w.1 35
theorem ys36 (w : yWF zl nl h) : zS h 36 = (1, 6) := congrFun w.1 36
theorem ys37 (w : yWF zl nl h) : zS h 37 = (1, 36) := congrFun w.1 37
theorem ys38 (w : yWF zl nl h) : zS h 38 = (1, 24) := congrFun w.1 38
theorem ys39 (w : yWF zl nl h) : zS h 39 = (1, 6) := congrFun w.1 39
theorem ys40 (w : yWF zl nl h) : zS h 40 = (13, 2) := congrFun w.1 40
theorem ys41 (w : yWF zl nl h) : zS h 41 = (1, 32) := congrFun w.1 41
theorem ys42 (w : yWF zl nl h) : zS h 42 = (13, 2) := congrFun w.1 42
theorem ys43 (w : yWF zl nl h) : zS h 43 = (1, 20) := congrFun w.1 43
theorem ys44 (w : yWF zl nl h) : zS h 44 = (13, 2) := congrFun w.1 44
theorem ys45 (w : yWF zl nl h) : zS h 45 = (1, 40) := congrFun w.1 45
theorem ys46 (w : yWF zl nl h) : zS h 46 = (13, 2) := congrFun w.1 46
theorem ys47 (w : yWF zl nl h) : zS h 47 = (1, 32) := congrFun w.1 47
theorem ys48 (w : yWF zl nl h) : zS h 48 = (14, 5) := congrFun w.1 48
theorem ys49 (w : yWF zl nl h) : zS h 49 = (1, 100) := congrFun w.1 49
theorem ys50 (w : yWF zl nl h) : zS h 50 = (1, 100) := congrFun w.1 50
theorem ys51 (w : yWF zl nl h) : zS h 51 = (1, 100) := congrFun w.1 51
theorem ys52 (w : yWF zl nl h) : zS h 52 = (12, 13) := congrFun w.1 52
theorem ys53 (w : yWF zl nl h) : zS h 53 = (1, 6) := congrFun w.1 53
theorem ys54 (w : yWF zl nl h) : zS h 54 = (1, 6) := congrFun w.1 54
theorem ys55 (w : yWF zl nl h) : zS h 55 = (1, 6) := congrFun w.1 55
theorem ys56 (w : yWF zl nl h) : zS h 56 = (1, 36) := congrFun w.1 56
theorem ys57 (w : yWF zl nl h) : zS h 57 = (1, 24) := congrFun w.1 57
theorem ys58 (w : yWF zl nl h) : zS h 58 = (1, 6) := congrFun w.1 58
theorem ys59 (w : yWF zl nl h) : zS h 59 = (13, 2) := congrFun w.1 59
theorem ys60 (w : yWF zl nl h) : zS h 60 = (1, 32) := congrFun w.1 60
theorem ys61 (w : yWF zl nl h) : zS h 61 = (13, 2) := congrFun w.1 61
theorem ys62 (w : yWF zl nl h) : zS h 62 = (1, 20) := congrFun w.1 62
theorem ys63 (w : yWF zl nl h) : zS h 63 = (13, 2) := congrFun w.1 63
theorem ys64 (w : yWF zl nl h) : zS h 64 = (1, 40) := congrFun w.1 64
theorem ys65 (w : yWF zl nl h) : zS h 65 = (13, 2) := congrFun w.1 65
theorem ys66 (w : yWF zl nl h) : zS h 66 = (1, 32) := congrFun w.1 66
theorem ys67 (w : yWF zl nl h) : zS h 67 = (14, 5) := congrFun w.1 67
theorem ys68 (w : yWF zl nl h) : zS h 68 = (1, 100) := congrFun w.1 68
theorem ys69 (w : yWF zl nl h) : zS h 69 = (1, 100) := congrFun w.1 69
theorem ys70 (w : yWF zl nl h) : zS h 70 = (1, 100) := congrFun w.1 70
theorem ys71 (w : yWF zl nl h) : zS h 71 = (12, 13) := congrFun w.1 71
theorem ys72 (w : yWF zl nl h) : zS h 72 = (1, 6) := congrFun w.1 72
theorem ys73 (w : yWF zl nl h) : zS h 73 = (1, 6) := congrFun w.1 73
theorem ys74 (w : yWF zl nl h) : zS h 74 = (1, 6) := congrFun w.1 74
theorem ys75 (w : yWF zl nl h) : zS h 75 = (1, 36) := congrFun w.1 75
theorem ys76 (w : yWF zl nl h) : zS h 76 = (1, 24) := congrFun w.1 76
theorem ys77 (w : yWF zl nl h) : zS h 77 = (1, 6) := congrFun w.1 77
theorem ys78 (w : yWF zl nl h) : zS h 78 = (13, 2) := congrFun w.1 78
theorem ys79 (w : yWF zl nl h) : zS h 79 = (1, 32) := congrFun w.1 79
theorem ys80 (w : yWF zl nl h) : zS h 80 = (13, 2) := congrFun w.1 80
theorem ys81 (w : yWF zl nl h) : zS h 81 = (1, 20) := congrFun w.1 81
theorem ys82 (w : yWF zl nl h) : zS h 82 = (13, 2) := congrFun w.1 82
theorem ys83 (w : yWF zl nl h) : zS h 83 = (1, 40) := congrFun w.1 83
theorem ys84 (w : yWF zl nl h) : zS h 84 = (13, 2) := congrFun w.1 84
theorem ys85 (w : yWF zl nl h) : zS h 85 = (1, 32) := congrFun w.1 85
theorem ys86 (w : yWF zl nl h) : zS h 86 = (14, 5) := congrFun w.1 86
theorem ys87 (w : yWF zl nl h) : zS h 87 = (1, 100) := congrFun w.1 87
theorem ys88 (w : yWF zl nl h) : zS h 88 = (1, 100) := congrFun w.1 88
theorem ys89 (w : yWF zl nl h) : zS h 89 = (1, 100) := congrFun w.1 89
theorem ys90 (w : yWF zl nl h) : zS h 90 = (16, 5) := congrFun w.1 90
theorem ys91 (w : yWF zl nl h) : zS h 91 = (1, 100) := congrFun w.1 91
theorem ys92 (w : yWF zl nl h) : zS h 92 = (5, 6) := congrFun w.1 92
theorem ys93 (w : yWF zl nl h) : zS h 93 = (6, 6) := congrFun w.1 93
theorem ys94 (w : yWF zl nl h) : zS h 94 = (10, 5) := congrFun w.1 94
theorem ys95 (w : yWF zl nl h) : zS h 95 = (1, 20) := congrFun w.1 95
theorem ys96 (w : yWF zl nl h) : zS h 96 = (11, 6) := congrFun w.1 96
theorem ys97 (w : yWF zl nl h) : zS h 97 = (1, 36) := congrFun w.1 97
theorem ys98 (w : yWF zl nl h) : zS h 98 = (1, 6) := congrFun w.1 98
theorem ys99 (w : yWF zl nl h) : zS h 99 = (1, 6) := congrFun w.1 99
theorem ys100 (w : yWF zl nl h) : zS h 100 = (1, 6) := congrFun w.1 100
theorem ys101 (w : yWF zl nl h) : zS h 101 = (14, 5) := congrFun w.1 101
theorem ys102 (w : yWF zl nl h) : zS h 102 = (1, 100) := congrFun w.1 102
theorem ys103 (w : yWF zl nl h) : zS h 103 = (1, 100) := congrFun w.1 103
theorem ys104 (w : yWF zl nl h) : zS h 104 = (1, 100) := congrFun w.1 104
theorem ys105 (w : yWF zl nl h) : zS h 105 = (14, 5) := congrFun w.1 105
theorem ys106 (w : yWF zl nl h) : zS h 106 = (1, 100) := congrFun w.1 106
theorem ys107 (w : yWF zl nl h) : zS h 107 = (1, 100) := congrFun w.1 107
theorem ys108 (w : yWF zl nl h) : zS h 108 = (1, 100) := congrFun w.1 108
theorem ys109 (w : yWF zl nl h) : zS h 109 = (14, 5) := congrFun w.1 109
theorem ys110 (w : yWF zl nl h) : zS h 110 = (1, 100) := congrFun w.1 110
theorem ys111 (w : yWF zl nl h) : zS h 111 = (1, 100) := congrFun w.1 111
theorem ys112 (w : yWF zl nl h) : zS h 112 = (1, 100) := congrFun w.1 112
theorem ys113 (w : yWF zl nl h) : zS h 113 = (14, 5) := congrFun w.1 113
theorem ys114 (w : yWF zl nl h) : zS h 114 = (1, 100) := congrFun w.1 114
theorem ys115 (w : yWF zl nl h) : zS h 115 = (1, 100) := congrFun w.1 115
theorem ys116 (w : yWF zl nl h) : zS h 116 = (1, 100) := congrFun w.1 116
theorem ys117 (w : yWF zl nl h) : zS h 117 = (14, 5) := congrFun w.1 117
theorem ys118 (w : yWF zl nl h) : zS h 118 = (1, 100) := congrFun w.1 118
theorem ys119 (w : yWF zl nl h) : zS h 119 = (1, 100) := congrFun w.1 119
theorem ys120 (w : yWF zl nl h) : zS h 120 = (1, 100) := congrFun w.1 120
theorem ys121 (w : yWF zl nl h) : zS h 121 = (14, 5) := congrFun w.1 121
theorem ys122 (w : yWF zl nl h) : zS h 122 = (1, 100) := congrFun w.1 122
theorem ys123 (w : yWF zl nl h) : zS h 123 = (1, 100) := congrFun w.1 123
theorem ys124 (w : yWF zl nl h) : zS h 124 = (1, 100) := congrFun w.1 124
theorem ys125 (w : yWF zl nl h) : zS h 125 = (15, 3) := congrFun w.1 125
theorem ys126 (w : yWF zl nl h) : zS h 126 = (3, 60) := congrFun w.1 126
theorem ys127 (w : yWF zl nl h) : zS h 127 = (15, 3) := congrFun w.1 127
theorem ys128 (w : yWF zl nl h) : zS h 128 = (3, 60) := congrFun w.1 128
theorem ys129 (w : yWF zl nl h) : zS h 129 = (15, 3) := congrFun w.1 129
theorem ys130 (w : yWF zl nl h) : zS h 130 = (3, 60) := congrFun w.1 130
theorem ys131 (w : yWF zl nl h) : zS h 131 = (15, 3) := congrFun w.1 131
theorem ys132 (w : yWF zl nl h) : zS h 132 = (3, 60) := congrFun w.1 132
theorem ys133 (w : yWF zl nl h) : zS h 133 = (15, 3) := congrFun w.1 133
theorem ys134 (w : yWF zl nl h) : zS h 134 = (3, 60) := congrFun w.1 134
theorem ys135 (w : yWF zl nl h) : zS h 135 = (15, 3) := congrFun w.1 135
theorem ys136 (w : yWF zl nl h) : zS h 136 = (3, 60) := congrFun w.1 136
theorem ys137 (w : yWF zl nl h) : zS h 137 = (18, 49) := congrFun w.1 137
theorem ys138 (w : yWF zl nl h) : zS h 138 = (1, 6) := congrFun w.1 138
theorem ys139 (w : yWF zl nl h) : zS h 139 = (1, 6) := congrFun w.1 139
theorem ys140 (w : yWF zl nl h) : zS h 140 = (1, 36) := congrFun w.1 140
theorem ys141 (w : yWF zl nl h) : zS h 141 = (1, 6) := congrFun w.1 141
theorem ys142 (w : yWF zl nl h) : zS h 142 = (1, 24) := congrFun w.1 142
theorem ys143 (w : yWF zl nl h) : zS h 143 = (1, 8) := congrFun w.1 143
theorem ys144 (w : yWF zl nl h) : zS h 144 = (1, 100) := congrFun w.1 144
theorem ys145 (w : yWF zl nl h) : zS h 145 = (1, 6) := congrFun w.1 145
theorem ys146 (w : yWF zl nl h) : zS h 146 = (1, 61) := congrFun w.1 146
theorem ys147 (w : yWF zl nl h) : zS h 147 = (1, 61) := congrFun w.1 147
theorem ys148 (w : yWF zl nl h) : zS h 148 = (1, 61) := congrFun w.1 148
theorem ys149 (w : yWF zl nl h) : zS h 149 = (1, 61) := congrFun w.1 149
theorem ys150 (w : yWF zl nl h) : zS h 150 = (1, 800) := congrFun w.1 150
theorem ys151 (w : yWF zl nl h) : zS h 151 = (2, 110) := congrFun w.1 151
theorem ys152 (w : yWF zl nl h) : zS h 152 = (1, 5) := congrFun w.1 152
theorem ys153 (w : yWF zl nl h) : zS h 153 = (1, 5) := congrFun w.1 153
theorem ys154 (w : yWF zl nl h) : zS h 154 = (1, 5) := congrFun w.1 154
theorem ys155 (w : yWF zl nl h) : zS h 155 = (1, 5) := congrFun w.1 155
theorem ys156 (w : yWF zl nl h) : zS h 156 = (1, 10) := congrFun w.1 156
theorem ys157 (w : yWF zl nl h) : zS h 157 = (1, 10) := congrFun w.1 157
theorem ys158 (w : yWF zl nl h) : zS h 158 = (1, 8) := congrFun w.1 158
theorem ys159 (w : yWF zl nl h) : zS h 159 = (1, 8) := congrFun w.1 159
theorem ys160 (w : yWF zl nl h) : zS h 160 = (1, 20) := congrFun w.1 160
theorem ys161 (w : yWF zl nl h) : zS h 161 = (1, 152) := congrFun w.1 161
theorem ys162 (w : yWF zl nl h) : zS h 162 = (1, 152) := congrFun w.1 162
theorem ys163 (w : yWF zl nl h) : zS h 163 = (1, 6) := congrFun w.1 163
theorem ys164 (w : yWF zl nl h) : zS h 164 = (1, 6) := congrFun w.1 164
theorem ys165 (w : yWF zl nl h) : zS h 165 = (1, 6) := congrFun w.1 165
theorem ys166 (w : yWF zl nl h) : zS h 166 = (1, 6) := congrFun w.1 166
theorem ys167 (w : yWF zl nl h) : zS h 167 = (1, 6) := congrFun w.1 167
theorem ys168 (w : yWF zl nl h) : zS h 168 = (1, 6) := congrFun w.1 168
theorem ys169 (w : yWF zl nl h) : zS h 169 = (3, 360) := congrFun w.1 169
theorem yp32_0 (w : yWF zl nl h) : zP h 32 0 = some 33 := w.2.1 32 0 rfl
theorem yp32_1 (w : yWF zl nl h) : zP h 32 1 = some 52 := w.2.1 32 1 rfl
theorem yp32_2 (w : yWF zl nl h) : zP h 32 2 = some 71 := w.2.1 32 2 rfl
theorem yp32_4 (w : yWF zl nl h) : zP h 32 4 = some 90 := w.2.1 32 4 rfl
theorem yp32_5 (w : yWF zl nl h) : zP h 32 5 = some 92 := w.2.1 32 5 rfl
theorem yp32_7 (w : yWF zl nl h) : zP h 32 7 = some 93 := w.2.1 32 7 rfl
theorem yp32_8 (w : yWF zl nl h) : zP h 32 8 = some 94 := w.2.1 32 8 rfl
theorem yp32_9 (w : yWF zl nl h) : zP h 32 9 = some 96 := w.2.1 32 9 rfl
theorem yp33_0 (w : yWF zl nl h) : zP h 33 0 = some 34 := w.2.1 33 0 rfl
theorem yp33_1 (w : yWF zl nl h) : zP h 33 1 = some 35 := w.2.1 33 1 rfl
theorem yp33_2 (w : yWF zl nl h) : zP h 33 2 = some 36 := w.2.1 33 2 rfl
theorem yp33_3 (w : yWF zl nl h) : zP h 33 3 = some 37 := w.2.1 33 3 rfl
theorem yp33_4 (w : yWF zl nl h) : zP h 33 4 = some 38 := w.2.1 33 4 rfl
theorem yp33_5 (w : yWF zl nl h) : zP h 33 5 = some 39 := w.2.1 33 5 rfl
theorem yp33_6 (w : yWF zl nl h) : zP h 33 6 = some 40 := w.2.1 33 6 rfl
theorem yp33_7 (w : yWF zl nl h) : zP h 33 7 = some 42 := w.2.1 33 7 rfl
theorem yp33_8 (w : yWF zl nl h) : zP h 33 8 = some 44 := w.2.1 33 8 rfl
theorem yp33_9 (w : yWF zl nl h) : zP h 33 9 = some 46 := w.2.1 33 9 rfl
theorem yp40_0 (w : yWF zl nl h) : zP h 40 0 = some 41 := w.2.1 40 0 rfl
theorem yp42_0 (w : yWF zl nl h) : zP h 42 0 = some 43 := w.2.1 42 0 rfl
theorem yp44_0 (w : yWF zl nl h) : zP h 44 0 = some 45 := w.2.1 44 0 rfl
theorem yp46_0 (w : yWF zl nl h) : zP h 46 0 = some 47 := w.2.1 46 0 rfl
theorem yp48_0 (w : yWF zl nl h) : zP h 48 0 = some 49 := w.2.1 48 0 rfl
theorem yp48_1 (w : yWF zl nl h) : zP h 48 1 = some 50 := w.2.1 48 1 rfl
theorem yp48_2 (w : yWF zl nl h) : zP h 48 2 = some 51 := w.2.1 48 2 rfl
theorem yp52_0 (w : yWF zl nl h) : zP h 52 0 = some 53 := w.2.1 52 0 rfl
theorem yp52_1 (w : yWF zl nl h) : zP h 52 1 = some 54 := w.2.1 52 1 rfl
theorem yp52_2 (w : yWF zl nl h) : zP h 52 2 = some 55 := w.2.1 52 2 rfl
theorem yp52_3 (w : yWF zl nl h) : zP h 52 3 = some 56 := w.2.1 52 3 rfl
theorem yp52_4 (w : yWF zl nl h) : zP h 52 4 = some 57 := w.2.1 52 4 rfl
theorem yp52_5 (w : yWF zl nl h) : zP h 52 5 = some 58 := w.2.1 52 5 rfl
theorem yp52_6 (w : yWF zl nl h) : zP h 52 6 = some 59 := w.2.1 52 6 rfl
theorem yp52_7 (w : yWF zl nl h) : zP h 52 7 = some 61 := w.2.1 52 7 rfl
theorem yp52_8 (w : yWF zl nl h) : zP h 52 8 = some 63 := w.2.1 52 8 rfl
theorem yp52_9 (w : yWF zl nl h) : zP h 52 9 = some 65 := w.2.1 52 9 rfl
theorem yp59_0 (w : yWF zl nl h) : zP h 59 0 = some 60 := w.2.1 59 0 rfl
theorem yp61_0 (w : yWF zl nl h) : zP h 61 0 = some 62 := w.2.1 61 0 rfl
theorem yp63_0 (w : yWF zl nl h) : zP h 63 0 = some 64 := w.2.1 63 0 rfl
theorem yp65_0 (w : yWF zl nl h) : zP h 65 0 = some 66 := w.2.1 65 0 rfl
theorem yp67_0 (w : yWF zl nl h) : zP h 67 0 = some 68 := w.2.1 67 0 rfl
theorem yp67_1 (w : yWF zl nl h) : zP h 67 1 = some 69 := w.2.1 67 1 rfl
theorem yp67_2 (w : yWF zl nl h) : zP h 67 2 = some 70 := w.2.1 67 2 rfl
theorem yp71_0 (w : yWF zl nl h) : zP h 71 0 = some 72 := w.2.1 71 0 rfl
theorem yp71_1 (w : yWF zl nl h) : zP h 71 1 = some 73 := w.2.1 71 1 rfl
theorem yp71_2 (w : yWF zl nl h) : zP h 71 2 = some 74 := w.2.1 71 2 rfl
theorem yp71_3 (w : yWF zl nl h) : zP h 71 3 = some 75 := w.2.1 71 3 rfl
theorem yp71_4 (w : yWF zl nl h) : zP h 71 4 = some 76 := w.2.1 71 4 rfl
theorem yp71_5 (w : yWF zl nl h) : zP h 71 5 = some 77 := w.2.1 71 5 rfl
theorem yp71_6 (w : yWF zl nl h) : zP h 71 6 = some 78 := w.2.1 71 6 rfl
theorem yp71_7 (w : yWF zl nl h) : zP h 71 7 = some 80 := w.2.1 71 7 rfl
theorem yp71_8 (w : yWF zl nl h) : zP h 71 8 = some 82 := w.2.1 71 8 rfl
theorem yp71_9 (w : yWF zl nl h) : zP h 71 9 = some 84 := w.2.1 71 9 rfl
theorem yp78_0 (w : yWF zl nl h) : zP h 78 0 = some 79 := w.2.1 78 0 rfl
theorem yp80_0 (w : yWF zl nl h) : zP h 80 0 = some 81 := w.2.1 80 0 rfl
theorem yp82_0 (w : yWF zl nl h) : zP h 82 0 = some 83 := w.2.1 82 0 rfl
theorem yp84_0 (w : yWF zl nl h) : zP h 84 0 = some 85 := w.2.1 84 0 rfl
theorem yp86_0 (w : yWF zl nl h) : zP h 86 0 = some 87 := w.2.1 86 0 rfl
theorem yp86_1 (w : yWF zl nl h) : zP h 86 1 = some 88 := w.2.1 86 1 rfl
theorem yp86_2 (w : yWF zl nl h) : zP h 86 2 = some 89 := w.2.1 86 2 rfl
theorem yp90_0 (w : yWF zl nl h) : zP h 90 0 = some 91 := w.2.1 90 0 rfl
theorem yp92_0 (w : yWF zl nl h) : zP h 92 0 = some 101 := w.2.1 92 0 rfl
theorem yp92_1 (w : yWF zl nl h) : zP h 92 1 = some 105 := w.2.1 92 1 rfl
theorem yp92_2 (w : yWF zl nl h) : zP h 92 2 = some 109 := w.2.1 92 2 rfl
theorem yp92_3 (w : yWF zl nl h) : zP h 92 3 = some 113 := w.2.1 92 3 rfl
theorem yp92_4 (w : yWF zl nl h) : zP h 92 4 = some 117 := w.2.1 92 4 rfl
theorem yp92_5 (w : yWF zl nl h) : zP h 92 5 = some 121 := w.2.1 92 5 rfl
theorem yp93_0 (w : yWF zl nl h) : zP h 93 0 = some 125 := w.2.1 93 0 rfl
theorem yp93_1 (w : yWF zl nl h) : zP h 93 1 = some 127 := w.2.1 93 1 rfl
theorem yp93_2 (w : yWF zl nl h) : zP h 93 2 = some 129 := w.2.1 93 2 rfl
theorem yp93_3 (w : yWF zl nl h) : zP h 93 3 = some 131 := w.2.1 93 3 rfl
theorem yp93_4 (w : yWF zl nl h) : zP h 93 4 = some 133 := w.2.1 93 4 rfl
theorem yp93_5 (w : yWF zl nl h) : zP h 93 5 = some 135 := w.2.1 93 5 rfl
theorem yp94_0 (w : yWF zl nl h) : zP h 94 0 = some 95 := w.2.1 94 0 rfl
theorem yp96_0 (w : yWF zl nl h) : zP h 96 0 = some 97 := w.2.1 96 0 rfl
theorem yp96_1 (w : yWF zl nl h) : zP h 96 1 = some 98 := w.2.1 96 1 rfl
theorem yp96_2 (w : yWF zl nl h) : zP h 96 2 = some 99 := w.2.1 96 2 rfl
theorem yp96_3 (w : yWF zl nl h) : zP h 96 3 = some 100 := w.2.1 96 3 rfl
theorem yp101_0 (w : yWF zl nl h) : zP h 101 0 = some 102 := w.2.1 101 0 rfl
theorem yp101_1 (w : yWF zl nl h) : zP h 101 1 = some 103 := w.2.1 101 1 rfl
theorem yp101_2 (w : yWF zl nl h) : zP h 101 2 = some 104 := w.2.1 101 2 rfl
theorem yp105_0 (w : yWF zl nl h) : zP h 105 0 = some 106 := w.2.1 105 0 rfl
theorem yp105_1 (w : yWF zl nl h) : zP h 105 1 = some 107 := w.2.1 105 1 rfl
theorem yp105_2 (w : yWF zl nl h) : zP h 105 2 = some 108 := w.2.1 105 2 rfl
theorem yp109_0 (w : yWF zl nl h) : zP h 109 0 = some 110 := w.2.1 109 0 rfl
theorem yp109_1 (w : yWF zl nl h) : zP h 109 1 = some 111 := w.2.1 109 1 rfl
theorem yp109_2 (w : yWF zl nl h) : zP h 109 2 = some 112 := w.2.1 109 2 rfl
theorem yp113_0 (w : yWF zl nl h) : zP h 113 0 = some 114 := w.2.1 113 0 rfl
theorem yp113_1 (w : yWF zl nl h) : zP h 113 1 = some 115 := w.2.1 113 1 rfl
theorem yp113_2 (w : yWF zl nl h) : zP h 113 2 = some 116 := w.2.1 113 2 rfl
theorem yp117_0 (w : yWF zl nl h) : zP h 117 0 = some 118 := w.2.1 117 0 rfl
theorem yp117_1 (w : yWF zl nl h) : zP h 117 1 = some 119 := w.2.1 117 1 rfl
theorem yp117_2 (w : yWF zl nl h) : zP h 117 2 = some 120 := w.2.1 117 2 rfl
theorem yp121_0 (w : yWF zl nl h) : zP h 121 0 = some 122 := w.2.1 121 0 rfl
theorem yp121_1 (w : yWF zl nl h) : zP h 121 1 = some 123 := w.2.1 121 1 rfl
theorem yp121_2 (w : yWF zl nl h) : zP h 121 2 = some 124 := w.2.1 121 2 rfl
theorem yp125_0 (w : yWF zl nl h) : zP h 125 0 = some 126 := w.2.1 125 0 rfl
theorem yp127_0 (w : yWF zl nl h) : zP h 127 0 = some 128 := w.2.1 127 0 rfl
theorem yp129_0 (w : yWF zl nl h) : zP h 129 0 = some 130 := w.2.1 129 0 rfl
theorem yp131_0 (w : yWF zl nl h) : zP h 131 0 = some 132 := w.2.1 131 0 rfl
theorem yp133_0 (w : yWF zl nl h) : zP h 133 0 = some 134 := w.2.1 133 0 rfl
theorem yp135_0 (w : yWF zl nl h) : zP h 135 0 = some 136 := w.2.1 135 0 rfl
theorem yp137_1 (w : yWF zl nl h) : zP h 137 1 = some 138 := w.2.1 137 1 rfl
theorem yp137_2 (w : yWF zl nl h) : zP h 137 2 = some 139 := w.2.1 137 2 rfl
theorem yp137_3 (w : yWF zl nl h) : zP h 137 3 = some 140 := w.2.1 137 3 rfl
theorem yp137_4 (w : yWF zl nl h) : zP h 137 4 = some 141 := w.2.1 137 4 rfl
theorem yp137_5 (w : yWF zl nl h) : zP h 137 5 = some 142 := w.2.1 137 5 rfl
theorem yp137_7 (w : yWF zl nl h) : zP h 137 7 = some 143 := w.2.1 137 7 rfl
theorem yp137_10 (w : yWF zl nl h) : zP h 137 10 = some 144 := w.2.1 137 10 rfl
theorem yp137_17 (w : yWF zl nl h) : zP h 137 17 = some 145 := w.2.1 137 17 rfl
theorem yp137_18 (w : yWF zl nl h) : zP h 137 18 = some 146 := w.2.1 137 18 rfl
theorem yp137_19 (w : yWF zl nl h) : zP h 137 19 = some 147 := w.2.1 137 19 rfl
theorem yp137_20 (w : yWF zl nl h) : zP h 137 20 = some 148 := w.2.1 137 20 rfl
theorem yp137_21 (w : yWF zl nl h) : zP h 137 21 = some 149 := w.2.1 137 21 rfl
theorem yp137_22 (w : yWF zl nl h) : zP h 137 22 = some 150 := w.2.1 137 22 rfl
theorem yp137_24 (w : yWF zl nl h) : zP h 137 24 = some 151 := w.2.1 137 24 rfl
theorem yp137_26 (w : yWF zl nl h) : zP h 137 26 = some 152 := w.2.1 137 26 rfl
theorem yp137_27 (w : yWF zl nl h) : zP h 137 27 = some 153 := w.2.1 137 27 rfl
theorem yp137_28 (w : yWF zl nl h) : zP h 137 28 = some 154 := w.2.1 137 28 rfl
theorem yp137_29 (w : yWF zl nl h) : zP h 137 29 = some 155 := w.2.1 137 29 rfl
theorem yp137_31 (w : yWF zl nl h) : zP h 137 31 = some 156 := w.2.1 137 31 rfl
theorem yp137_32 (w : yWF zl nl h) : zP h 137 32 = some 157 := w.2.1 137 32 rfl
theorem yp137_34 (w : yWF zl nl h) : zP h 137 34 = some 158 := w.2.1 137 34 rfl
theorem yp137_35 (w : yWF zl nl h) : zP h 137 35 = some 159 := w.2.1 137 35 rfl
theorem yp137_37 (w : yWF zl nl h) : zP h 137 37 = some 160 := w.2.1 137 37 rfl
theorem yp137_39 (w : yWF zl nl h) : zP h 137 39 = some 161 := w.2.1 137 39 rfl
theorem yp137_40 (w : yWF zl nl h) : zP h 137 40 = some 162 := w.2.1 137 40 rfl
theorem yp137_41 (w : yWF zl nl h) : zP h 137 41 = some 163 := w.2.1 137 41 rfl
theorem yp137_42 (w : yWF zl nl h) : zP h 137 42 = some 164 := w.2.1 137 42 rfl
theorem yp137_43 (w : yWF zl nl h) : zP h 137 43 = some 165 := w.2.1 137 43 rfl
theorem yp137_44 (w : yWF zl nl h) : zP h 137 44 = some 166 := w.2.1 137 44 rfl
theorem yp137_46 (w : yWF zl nl h) : zP h 137 46 = some 167 := w.2.1 137 46 rfl
theorem yp137_47 (w : yWF zl nl h) : zP h 137 47 = some 168 := w.2.1 137 47 rfl
theorem yp137_48 (w : yWF zl nl h) : zP h 137 48 = some 169 := w.2.1 137 48 rfl
theorem ysH0 (w : yWF zl nl h) (ha : yHs a) : zS h (a) = (12, 13) := by rcases ha with rfl | rfl | rfl; exact ys33 w; exact ys52 w; exact ys71 w
theorem ysH1 (w : yWF zl nl h) (ha : yHs a) : zS h (a + 1) = (1, 6) := by rcases ha with rfl | rfl | rfl; exact ys34 w; exact ys53 w; exact ys72 w
theorem ysH2 (w : yWF zl nl h) (ha : yHs a) : zS h (a + 2) = (1, 6) := by rcases ha with rfl | rfl | rfl; exact ys35 w; exact ys54 w; exact ys73 w
theorem ysH3 (w : yWF zl nl h) (ha : yHs a) : zS h (a + 3) = (1, 6) := by rcases ha with rfl | rfl | rfl; exact ys36 w; exact ys55 w; exact ys74 w
theorem ysH4 (w : yWF zl nl h) (ha : yHs a) : zS h (a + 4) = (1, 36) := by rcases ha with rfl | rfl | rfl; exact ys37 w; exact ys56 w; exact ys75 w
theorem ysH5 (w : yWF zl nl h) (ha : yHs a) : zS h (a + 5) = (1, 24) := by rcases ha with rfl | rfl | rfl; exact ys38 w; exact ys57 w; exact ys76 w
theorem ysH6 (w : yWF zl nl h) (ha : yHs a) : zS h (a + 6) = (1, 6) := by rcases ha with rfl | rfl | rfl; exact ys39 w; exact ys58 w; exact ys77 w
theorem ysH7 (w : yWF zl nl h) (ha : yHs a) : zS h (a + 7) = (13, 2) := by rcases ha with rfl | rfl | rfl; exact ys40 w; exact ys59 w; exact ys78 w
theorem ysH8 (w : yWF zl nl h) (ha : yHs a) : zS h (a + 8) = (1, 32) := by rcases ha with rfl | rfl | rfl; exact ys41 w; exact ys60 w; exact ys79 w
theorem ysH9 (w : yWF zl nl h) (ha : yHs a) : zS h (a + 9) = (13, 2) := by rcases ha with rfl | rfl | rfl; exact ys42 w; exact ys61 w; exact ys80 w
theorem ysH10 (w : yWF zl nl h) (ha : yHs a) : zS h (a + 10) = (1, 20) := by rcases ha with rfl | rfl | rfl; exact ys43 w; exact ys62 w; exact ys81 w
theorem ysH11 (w : yWF zl nl h) (ha : yHs a) : zS h (a + 11) = (13, 2) := by rcases ha with rfl | rfl | rfl; exact ys44 w; exact ys63 w; exact ys82 w
theorem ysH12 (w : yWF zl nl h) (ha : yHs a) : zS h (a + 12) = (1, 40) := by rcases ha with rfl | rfl | rfl; exact ys45 w; exact ys64 w; exact ys83 w
theorem ysH13 (w : yWF zl nl h) (ha : yHs a) : zS h (a + 13) = (13, 2) := by rcases ha with rfl | rfl | rfl; exact ys46 w; exact ys65 w; exact ys84 w
theorem ysH14 (w : yWF zl nl h) (ha : yHs a) : zS h (a + 14) = (1, 32) := by rcases ha with rfl | rfl | rfl; exact ys47 w; exact ys66 w; exact ys85 w
theorem ypH0 (w : yWF zl nl h) (ha : yHs a) : zP h a 0 = some (a + 1) := by rcases ha with rfl | rfl | rfl; exact yp33_0 w; exact yp52_0 w; exact yp71_0 w
theorem ypH1 (w : yWF zl nl h) (ha : yHs a) : zP h a 1 = some (a + 2) := by rcases ha with rfl | rfl | rfl; exact yp33_1 w; exact yp52_1 w; exact yp71_1 w
theorem ypH2 (w : yWF zl nl h) (ha : yHs a) : zP h a 2 = some (a + 3) := by rcases ha with rfl | rfl | rfl; exact yp33_2 w; exact yp52_2 w; exact yp71_2 w
theorem ypH3 (w : yWF zl nl h) (ha : yHs a) : zP h a 3 = some (a + 4) := by rcases ha with rfl | rfl | rfl; exact yp33_3 w; exact yp52_3 w; exact yp71_3 w
theorem ypH4 (w : yWF zl nl h) (ha : yHs a) : zP h a 4 = some (a + 5) := by rcases ha with rfl | rfl | rfl; exact yp33_4 w; exact yp52_4 w; exact yp71_4 w
theorem ypH5 (w : yWF zl nl h) (ha : yHs a) : zP h a 5 = some (a + 6) := by rcases ha with rfl | rfl | rfl; exact yp33_5 w; exact yp52_5 w; exact yp71_5 w
theorem ypH6 (w : yWF zl nl h) (ha : yHs a) : zP h a 6 = some (a + 7) := by rcases ha with rfl | rfl | rfl; exact yp33_6 w; exact yp52_6 w; exact yp71_6 w
theorem ypH7 (w : yWF zl nl h) (ha : yHs a) : zP h a 7 = some (a + 9) := by rcases ha with rfl | rfl | rfl; exact yp33_7 w; exact yp52_7 w; exact yp71_7 w
theorem ypH8 (w : yWF zl nl h) (ha : yHs a) : zP h a 8 = some (a + 11) := by rcases ha with rfl | rfl | rfl; exact yp33_8 w; exact yp52_8 w; exact yp71_8 w
theorem ypH9 (w : yWF zl nl h) (ha : yHs a) : zP h a 9 = some (a + 13) := by rcases ha with rfl | rfl | rfl; exact yp33_9 w; exact yp52_9 w; exact yp71_9 w
theorem ypH12 (w : yWF zl nl h) (ha : yHs a) : ∃ s, zP h a 12 = some s ∧ ySh s := w.2.2.1 a ha
theorem yR7 (ha : yHs a) : yRs (a + 7) 32 := ⟨a, ha, Or.inl ⟨rfl, rfl⟩⟩
theorem yR9 (ha : yHs a) : yRs (a + 9) 20 := ⟨a, ha, Or.inr (Or.inl ⟨rfl, rfl⟩)⟩
theorem yR11 (ha : yHs a) : yRs (a + 11) 40 := ⟨a, ha, Or.inr (Or.inr (Or.inl ⟨rfl, rfl⟩))⟩
theorem yR13 (ha : yHs a) : yRs (a + 13) 32 := ⟨a, ha, Or.inr (Or.inr (Or.inr ⟨rfl, rfl⟩))⟩
theorem ysR0 (w : yWF zl nl h) (hr : yRs r n) : zS h r = (13, 2) := by
  obtain ⟨a, ha, ⟨rfl, rfl⟩ | ⟨rfl, rfl⟩ | ⟨rfl, rfl⟩ | ⟨rfl, rfl⟩⟩ := hr
  · exact ysH7 w ha
  · exact ysH9 w ha
  · exact ysH11 w ha
  · exact ysH13 w ha
theorem ysR1 (w : yWF zl nl h) (hr : yRs r n) : zS h (r + 1) = (1, n) := by
  obtain ⟨a, ha, ⟨rfl, rfl⟩ | ⟨rfl, rfl⟩ | ⟨rfl, rfl⟩ | ⟨rfl, rfl⟩⟩ := hr
  · exact ysH8 w ha
  · exact ysH10 w ha
  · exact ysH12 w ha
  · exact ysH14 w ha
theorem ypR0 (w : yWF zl nl h) (hr : yRs r n) : zP h r 0 = some (r + 1) := by
  obtain ⟨a, rfl | rfl | rfl, ⟨rfl, rfl⟩ | ⟨rfl, rfl⟩ | ⟨rfl, rfl⟩ | ⟨rfl, rfl⟩⟩ := hr
  · exact yp40_0 w
  · exact yp42_0 w
  · exact yp44_0 w
  · exact yp46_0 w
  · exact yp59_0 w
  · exact yp61_0 w
  · exact yp63_0 w
  · exact yp65_0 w
  · exact yp78_0 w
  · exact yp80_0 w
  · exact yp82_0 w
  · exact yp84_0 w
theorem yR_32 (hr : yRs r n) : 32 ≤ r := by obtain ⟨a, rfl | rfl | rfl, ⟨rfl, rfl⟩ | ⟨rfl, rfl⟩ | ⟨rfl, rfl⟩ | ⟨rfl, rfl⟩⟩ := hr <;> omega
theorem yR_n (hr : yRs r n) : n ≤ 40 := by obtain ⟨a, ha, ⟨rfl, rfl⟩ | ⟨rfl, rfl⟩ | ⟨rfl, rfl⟩ | ⟨rfl, rfl⟩⟩ := hr <;> omega
theorem yH_32 (ha : yHs a) : 32 ≤ a := by rcases ha with rfl | rfl | rfl <;> omega
theorem ysS0 (w : yWF zl nl h) (hs : ySh s) : zS h (s) = (14, 5) := by rcases hs with rfl | rfl | rfl | rfl | rfl | rfl | rfl | rfl | rfl; exact ys48 w; exact ys67 w; exact ys86 w; exact ys101 w; exact ys105 w; exact ys109 w; exact ys113 w; exact ys117 w; exact ys121 w
theorem ysS1 (w : yWF zl nl h) (hs : ySh s) : zS h (s + 1) = (1, 100) := by rcases hs with rfl | rfl | rfl | rfl | rfl | rfl | rfl | rfl | rfl; exact ys49 w; exact ys68 w; exact ys87 w; exact ys102 w; exact ys106 w; exact ys110 w; exact ys114 w; exact ys118 w; exact ys122 w
theorem ysS2 (w : yWF zl nl h) (hs : ySh s) : zS h (s + 2) = (1, 100) := by rcases hs with rfl | rfl | rfl | rfl | rfl | rfl | rfl | rfl | rfl; exact ys50 w; exact ys69 w; exact ys88 w; exact ys103 w; exact ys107 w; exact ys111 w; exact ys115 w; exact ys119 w; exact ys123 w
theorem ysS3 (w : yWF zl nl h) (hs : ySh s) : zS h (s + 3) = (1, 100) := by rcases hs with rfl | rfl | rfl | rfl | rfl | rfl | rfl | rfl | rfl; exact ys51 w; exact ys70 w; exact ys89 w; exact ys104 w; exact ys108 w; exact ys112 w; exact ys116 w; exact ys120 w; exact ys124 w
theorem ypS0 (w : yWF zl nl h) (hs : ySh s) : zP h s 0 = some (s + 1) := by rcases hs with rfl | rfl | rfl | rfl | rfl | rfl | rfl | rfl | rfl; exact yp48_0 w; exact yp67_0 w; exact yp86_0 w; exact yp101_0 w; exact yp105_0 w; exact yp109_0 w; exact yp113_0 w; exact yp117_0 w; exact yp121_0 w
theorem ypS1 (w : yWF zl nl h) (hs : ySh s) : zP h s 1 = some (s + 2) := by rcases hs with rfl | rfl | rfl | rfl | rfl | rfl | rfl | rfl | rfl; exact yp48_1 w; exact yp67_1 w; exact yp86_1 w; exact yp101_1 w; exact yp105_1 w; exact yp109_1 w; exact yp113_1 w; exact yp117_1 w; exact yp121_1 w
theorem ypS2 (w : yWF zl nl h) (hs : ySh s) : zP h s 2 = some (s + 3) := by rcases hs with rfl | rfl | rfl | rfl | rfl | rfl | rfl | rfl | rfl; exact yp48_2 w; exact yp67_2 w; exact yp86_2 w; exact yp101_2 w; exact yp105_2 w; exact yp109_2 w; exact yp113_2 w; exact yp117_2 w; exact yp121_2 w
theorem yS_32 (hs : ySh s) : 32 ≤ s := by rcases hs with rfl | rfl | rfl | rfl | rfl | rfl | rfl | rfl | rfl <;> omega
theorem ysT0 (w : yWF zl nl h) (ht : yTp t) : zS h (t) = (15, 3) := by rcases ht with rfl | rfl | rfl | rfl | rfl | rfl; exact ys125 w; exact ys127 w; exact ys129 w; exact ys131 w; exact ys133 w; exact ys135 w
theorem ysT1 (w : yWF zl nl h) (ht : yTp t) : zS h (t + 1) = (3, 60) := by rcases ht with rfl | rfl | rfl | rfl | rfl | rfl; exact ys126 w; exact ys128 w; exact ys130 w; exact ys132 w; exact ys134 w; exact ys136 w
theorem ypT0 (w : yWF zl nl h) (ht : yTp t) : zP h t 0 = some (t + 1) := by rcases ht with rfl | rfl | rfl | rfl | rfl | rfl; exact yp125_0 w; exact yp127_0 w; exact yp129_0 w; exact yp131_0 w; exact yp133_0 w; exact yp135_0 w
theorem yT_32 (ht : yTp t) : 32 ≤ t := by rcases ht with rfl | rfl | rfl | rfl | rfl | rfl <;> omega
theorem yp92 (w : yWF zl nl h) {i : Int} (hi : 0 ≤ i ∧ i < 6) : zP h 92 i.toNat = some (101 + 4 * i.toNat) := by
  obtain ⟨j, rfl⟩ := Int.eq_ofNat_of_zero_le hi.1
  show zP h 92 j = some (101 + 4 * j)
  match j, hi with
  | 0, _ => exact yp92_0 w
  | 1, _ => exact yp92_1 w
  | 2, _ => exact yp92_2 w
  | 3, _ => exact yp92_3 w
  | 4, _ => exact yp92_4 w
  | 5, _ => exact yp92_5 w
  | j + 6, hi => omega
theorem yp92' {i : Int} (hi : 0 ≤ i ∧ i < 6) : ySh (101 + 4 * i.toNat) := by
  obtain ⟨j, rfl⟩ := Int.eq_ofNat_of_zero_le hi.1
  show ySh (101 + 4 * j)
  unfold ySh
  omega
theorem yp93 (w : yWF zl nl h) {i : Int} (hi : 0 ≤ i ∧ i < 6) : zP h 93 i.toNat = some (125 + 2 * i.toNat) := by
  obtain ⟨j, rfl⟩ := Int.eq_ofNat_of_zero_le hi.1
  show zP h 93 j = some (125 + 2 * j)
  match j, hi with
  | 0, _ => exact yp93_0 w
  | 1, _ => exact yp93_1 w
  | 2, _ => exact yp93_2 w
  | 3, _ => exact yp93_3 w
  | 4, _ => exact yp93_4 w
  | 5, _ => exact yp93_5 w
  | j + 6, hi => omega
theorem yp93' {i : Int} (hi : 0 ≤ i ∧ i < 6) : yTp (125 + 2 * i.toNat) := by
  obtain ⟨j, rfl⟩ := Int.eq_ofNat_of_zero_le hi.1
  show yTp (125 + 2 * j)
  unfold yTp
  omega
theorem yWFV {k : Nat} {x : Int} (w : yWF zl nl h) : yWF zl nl (zsetV h a k x) := w
theorem yWFJ {k : Nat} {x : Int64} (w : yWF zl nl h) : yWF zl nl (zsetJ h a k x) := w
end YWF
section YMA
variable {d : Nat} {cc : ByteArray} {o pc pc' : Nat} {L : LL} {st r : List AV} {h : Hp} {Q : Option AV → Hp → Prop}
def ymin (x y : Int) : Int := if y < x then y else x
def ymax (x y : Int) : Int := if x < y then y else x
def yfm (x y : Int) : Int := (zfm32 (zi x) (zi y)).toInt
def yabs (x : Int64) : Int64 := if 0 < x then x else -x
theorem y_mn {k z : Nat} {x y : Int} (e : decode cc pc = .ok (.invokestatic k, 3)) (hm : zmth o k = some (11, z)) (hd : 1 ≤ d) (hw : Nat.ble (zwt r) 8 = true) (hp : pc + 3 = pc') (w : ZW d cc o pc' L (vI (ymin x y) :: r) h Q) : ZW d cc o pc L (vI y :: vI x :: r) h Q := by
  refine y_s e ?_ w
  show (match zmth o k with | some (10, _) => _ | some (11, _) => _ | some (12, _) => _ | some (13, _) => _ | some (14, _) => _ | e => _) = _
  rw [hm]
  show (if 3 = 3 ∧ 1 ≤ d ∧ zwt r ≤ 8 then _ else _) = _
  rw [if_pos ⟨rfl, hd, Nat.le_of_ble_eq_true hw⟩, hp]
  rfl
theorem y_mx {k z : Nat} {x y : Int} (e : decode cc pc = .ok (.invokestatic k, 3)) (hm : zmth o k = some (12, z)) (hd : 1 ≤ d) (hw : Nat.ble (zwt r) 8 = true) (hp : pc + 3 = pc') (w : ZW d cc o pc' L (vI (ymax x y) :: r) h Q) : ZW d cc o pc L (vI y :: vI x :: r) h Q := by
  refine y_s e ?_ w
  show (match zmth o k with | some (10, _) => _ | some (11, _) => _ | some (12, _) => _ | some (13, _) => _ | some (14, _) => _ | e => _) = _
  rw [hm]
  show (if 3 = 3 ∧ 1 ≤ d ∧ zwt r ≤ 8 then _ else _) = _
  rw [if_pos ⟨rfl, hd, Nat.le_of_ble_eq_true hw⟩, hp]
  rfl
theorem y_ab {k z : Nat} {x : Int64} (e : decode cc pc = .ok (.invokestatic k, 3)) (hm : zmth o k = some (13, z)) (hd : 1 ≤ d) (hw : Nat.ble (zwt r) 8 = true) (hp : pc + 3 = pc') (w : ZW d cc o pc' L (vJ (yabs x) :: r) h Q) : ZW d cc o pc L (vJ x :: r) h Q := by
  refine y_s e ?_ w
  show (match zmth o k with | some (10, _) => _ | some (11, _) => _ | some (12, _) => _ | some (13, _) => _ | some (14, _) => _ | e => _) = _
  rw [hm]
  show (if 3 = 3 ∧ 1 ≤ d ∧ zwt r ≤ 8 then _ else _) = _
  rw [if_pos ⟨rfl, hd, Nat.le_of_ble_eq_true hw⟩, hp]
  rfl
theorem y_fm {k z : Nat} {x y : Int} (e : decode cc pc = .ok (.invokestatic k, 3)) (hm : zmth o k = some (14, z)) (hd : 1 ≤ d) (hy : y ≠ 0) (hw : Nat.ble (zwt r) 8 = true) (hp : pc + 3 = pc') (w : ZW d cc o pc' L (vI (yfm x y) :: r) h Q) : ZW d cc o pc L (vI y :: vI x :: r) h Q := by
  refine y_s e ?_ w
  show (match zmth o k with | some (10, _) => _ | some (11, _) => _ | some (12, _) => _ | some (13, _) => _ | some (14, _) => _ | e => _) = _
  rw [hm]
  show (if 3 = 3 ∧ 1 ≤ d ∧ zwt r ≤ 8 ∧ y ≠ 0 then _ else _) = _
  rw [if_pos ⟨rfl, hd, Nat.le_of_ble_eq_true hw, hy⟩, hp]
  rfl
theorem y_cp {k z a b na nb : Nat} {sp dp n : Int} (e : decode cc pc = .ok (.invokestatic k, 3)) (hm : zmth o k = some (10, z)) (hd : 1 ≤ d) (hw : Nat.ble (zwt r) 8 = true) (sa : zS h a = (1, na)) (sb : zS h b = (1, nb)) (ha : 32 ≤ a) (hb : 32 ≤ b) (hi : 0 ≤ n ∧ 0 ≤ sp ∧ 0 ≤ dp ∧ sp + n ≤ (na : Int) ∧ dp + n ≤ (nb : Int)) {h' : Hp} (hh : zcpV h a sp.toNat b dp.toNat n.toNat = h') (hp : pc + 3 = pc') (w : ZW d cc o pc' L r h' Q) : ZW d cc o pc L (vI n :: vI dp :: vR (some b) :: vI sp :: vR (some a) :: r) h Q := by
  subst hh
  refine y_s e ?_ w
  show (match zmth o k with | some (10, _) => _ | some (11, _) => _ | some (12, _) => _ | some (13, _) => _ | some (14, _) => _ | e => _) = _
  rw [hm]
  show (if 3 = 3 ∧ 1 ≤ d ∧ zwt r ≤ 8 ∧ 32 ≤ a ∧ 32 ≤ b ∧ 0 ≤ n ∧ 0 ≤ sp ∧ 0 ≤ dp ∧ sp + n ≤ ((zS h a).2 : Int) ∧ dp + n ≤ ((zS h b).2 : Int) ∧ (((zS h a).1 = 1 ∧ (zS h b).1 = 1) ∨ ((zS h a).1 = 3 ∧ (zS h b).1 = 3)) then zn (pc + 3) L r (if (zS h a).1 = 1 then zcpV h a sp.toNat b dp.toNat n.toNat else zcpJ h a sp.toNat b dp.toNat n.toNat) else none) = _
  rw [if_pos ⟨rfl, hd, Nat.le_of_ble_eq_true hw, ha, hb, hi.1, hi.2.1, hi.2.2.1, by rw [sa]; exact hi.2.2.2.1, by rw [sb]; exact hi.2.2.2.2, Or.inl ⟨by rw [sa], by rw [sb]⟩⟩, hp, if_pos (by rw [sa])]
  rfl
theorem y_cj {k z a b na nb : Nat} {sp dp n : Int} (e : decode cc pc = .ok (.invokestatic k, 3)) (hm : zmth o k = some (10, z)) (hd : 1 ≤ d) (hw : Nat.ble (zwt r) 8 = true) (sa : zS h a = (3, na)) (sb : zS h b = (3, nb)) (ha : 32 ≤ a) (hb : 32 ≤ b) (hi : 0 ≤ n ∧ 0 ≤ sp ∧ 0 ≤ dp ∧ sp + n ≤ (na : Int) ∧ dp + n ≤ (nb : Int)) {h' : Hp} (hh : zcpJ h a sp.toNat b dp.toNat n.toNat = h') (hp : pc + 3 = pc') (w : ZW d cc o pc' L r h' Q) : ZW d cc o pc L (vI n :: vI dp :: vR (some b) :: vI sp :: vR (some a) :: r) h Q := by
  subst hh
  refine y_s e ?_ w
  show (match zmth o k with | some (10, _) => _ | some (11, _) => _ | some (12, _) => _ | some (13, _) => _ | some (14, _) => _ | e => _) = _
  rw [hm]
  show (if 3 = 3 ∧ 1 ≤ d ∧ zwt r ≤ 8 ∧ 32 ≤ a ∧ 32 ≤ b ∧ 0 ≤ n ∧ 0 ≤ sp ∧ 0 ≤ dp ∧ sp + n ≤ ((zS h a).2 : Int) ∧ dp + n ≤ ((zS h b).2 : Int) ∧ (((zS h a).1 = 1 ∧ (zS h b).1 = 1) ∨ ((zS h a).1 = 3 ∧ (zS h b).1 = 3)) then zn (pc + 3) L r (if (zS h a).1 = 1 then zcpV h a sp.toNat b dp.toNat n.toNat else zcpJ h a sp.toNat b dp.toNat n.toNat) else none) = _
  rw [if_pos ⟨rfl, hd, Nat.le_of_ble_eq_true hw, ha, hb, hi.1, hi.2.1, hi.2.2.1, by rw [sa]; exact hi.2.2.2.1, by rw [sb]; exact hi.2.2.2.2, Or.inr ⟨by rw [sa], by rw [sb]⟩⟩, hp, if_neg (by rw [sa]; simp)]
  rfl
theorem y_ri {x : Int} (e : decode cc pc = .ok (.ireturn, 1)) (k : Q (some (vI x)) h) : ZW d cc o pc L [vI x] h Q := by
  have q : zact d cc o pc L [vI x] h = some (.inr (.inr (some (vI x)))) := by
    unfold zact
    rw [e]
    rfl
  rw [ZW_ret q]
  exact k
theorem y_rj {x : Int64} (e : decode cc pc = .ok (.lreturn, 1)) (k : Q (some (vJ x)) h) : ZW d cc o pc L [vJ x] h Q := by
  have q : zact d cc o pc L [vJ x] h = some (.inr (.inr (some (vJ x)))) := by
    unfold zact
    rw [e]
    rfl
  rw [ZW_ret q]
  exact k
theorem y_ru (e : decode cc pc = .ok (.return_, 1)) (k : Q none h) : ZW d cc o pc L [] h Q := by
  have q : zact d cc o pc L [] h = some (.inr (.inr none)) := by
    unfold zact
    rw [e]
    rfl
  rw [ZW_ret q]
  exact k
end YMA
