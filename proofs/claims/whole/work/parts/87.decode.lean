/-! every instruction of the tables is the bytecode's -/
def jDecOk (b : ByteArray) (x : jCode) : Bool := x.all fun ch => ch.all fun e => decide (decode b e.1 = .ok e.2)
theorem jdc0 : jDecOk (jBytesT.getD 0 .empty) jc0 = true := by decide +kernel
theorem jdc1 : jDecOk (jBytesT.getD 1 .empty) jc1 = true := by decide +kernel
theorem jdc2 : jDecOk (jBytesT.getD 2 .empty) jc2 = true := by decide +kernel
theorem jdc3 : jDecOk (jBytesT.getD 3 .empty) jc3 = true := by decide +kernel
theorem jdc4 : jDecOk (jBytesT.getD 4 .empty) jc4 = true := by decide +kernel
theorem jdc5 : jDecOk (jBytesT.getD 5 .empty) jc5 = true := by decide +kernel
theorem jdc6 : jDecOk (jBytesT.getD 6 .empty) jc6 = true := by decide +kernel
theorem jdc7 : jDecOk (jBytesT.getD 7 .empty) jc7 = true := by decide +kernel
theorem jdc8 : jDecOk (jBytesT.getD 8 .empty) jc8 = true := by decide +kernel
theorem jdc9 : jDecOk (jBytesT.getD 9 .empty) jc9 = true := by decide +kernel
theorem jdc10 : jDecOk (jBytesT.getD 10 .empty) jc10 = true := by decide +kernel
theorem jdc11 : jDecOk (jBytesT.getD 11 .empty) jc11 = true := by decide +kernel
theorem jdc12 : jDecOk (jBytesT.getD 12 .empty) jc12 = true := by decide +kernel
theorem jdc13 : jDecOk (jBytesT.getD 13 .empty) jc13 = true := by decide +kernel
theorem jdc14 : jDecOk (jBytesT.getD 14 .empty) jc14 = true := by decide +kernel
theorem jdc15 : jDecOk (jBytesT.getD 15 .empty) jc15 = true := by decide +kernel
theorem jdc16 : jDecOk (jBytesT.getD 16 .empty) jc16 = true := by decide +kernel
theorem jdc17 : jDecOk (jBytesT.getD 17 .empty) jc17 = true := by decide +kernel
theorem jdc18 : jDecOk (jBytesT.getD 18 .empty) jc18 = true := by decide +kernel
theorem jdc19 : jDecOk (jBytesT.getD 19 .empty) jc19 = true := by decide +kernel
theorem jdc20 : jDecOk (jBytesT.getD 20 .empty) jc20 = true := by decide +kernel
theorem jdc21 : jDecOk (jBytesT.getD 21 .empty) jc21 = true := by decide +kernel
theorem jdc22 : jDecOk (jBytesT.getD 22 .empty) jc22 = true := by decide +kernel
theorem jdc23 : jDecOk (jBytesT.getD 23 .empty) jc23 = true := by decide +kernel
theorem jdc24 : jDecOk (jBytesT.getD 24 .empty) jc24 = true := by decide +kernel
theorem jdc25 : jDecOk (jBytesT.getD 25 .empty) jc25 = true := by decide +kernel
theorem jdc26 : jDecOk (jBytesT.getD 26 .empty) jc26 = true := by decide +kernel
theorem jdc27 : jDecOk (jBytesT.getD 27 .empty) jc27 = true := by decide +kernel
theorem jdc28 : jDecOk (jBytesT.getD 28 .empty) jc28 = true := by decide +kernel
theorem jdc29 : jDecOk (jBytesT.getD 29 .empty) jc29 = true := by decide +kernel
theorem jdc30 : jDecOk (jBytesT.getD 30 .empty) jc30 = true := by decide +kernel
theorem jdc31 : jDecOk (jBytesT.getD 31 .empty) jc31 = true := by decide +kernel
theorem jdc32 : jDecOk (jBytesT.getD 32 .empty) jc32 = true := by decide +kernel
theorem jdc33 : jDecOk (jBytesT.getD 33 .empty) jc33 = true := by decide +kernel
theorem jdc34 : jDecOk (jBytesT.getD 34 .empty) jc34 = true := by decide +kernel
theorem jdc35 : jDecOk (jBytesT.getD 35 .empty) jc35 = true := by decide +kernel
theorem jdc36 : jDecOk (jBytesT.getD 36 .empty) jc36 = true := by decide +kernel
theorem jdc37 : jDecOk (jBytesT.getD 37 .empty) jc37 = true := by decide +kernel
theorem jdc38 : jDecOk (jBytesT.getD 38 .empty) jc38 = true := by decide +kernel
theorem jdc39 : jDecOk (jBytesT.getD 39 .empty) jc39 = true := by decide +kernel
theorem jdc40 : jDecOk (jBytesT.getD 40 .empty) jc40 = true := by decide +kernel
theorem jdc41 : jDecOk (jBytesT.getD 41 .empty) jc41 = true := by decide +kernel
theorem jdc42 : jDecOk (jBytesT.getD 42 .empty) jc42 = true := by decide +kernel
theorem jdc43 : jDecOk (jBytesT.getD 43 .empty) jc43 = true := by decide +kernel
theorem jdc44 : jDecOk (jBytesT.getD 44 .empty) jc44 = true := by decide +kernel
theorem jdc45 : jDecOk (jBytesT.getD 45 .empty) jc45 = true := by decide +kernel
theorem jdc46 : jDecOk (jBytesT.getD 46 .empty) jc46 = true := by decide +kernel
theorem jdc47 : jDecOk (jBytesT.getD 47 .empty) jc47 = true := by decide +kernel
theorem jdc48 : jDecOk (jBytesT.getD 48 .empty) jc48 = true := by decide +kernel
theorem jdc49 : jDecOk (jBytesT.getD 49 .empty) jc49 = true := by decide +kernel
theorem jdc50 : jDecOk (jBytesT.getD 50 .empty) jc50 = true := by decide +kernel
theorem jdc51 : jDecOk (jBytesT.getD 51 .empty) jc51 = true := by decide +kernel
theorem jdc52 : jDecOk (jBytesT.getD 52 .empty) jc52 = true := by decide +kernel
theorem jdc53 : jDecOk (jBytesT.getD 53 .empty) jc53 = true := by decide +kernel
theorem jdc54 : jDecOk (jBytesT.getD 54 .empty) jc54 = true := by decide +kernel
theorem jdc55 : jDecOk (jBytesT.getD 55 .empty) jc55 = true := by decide +kernel
theorem jdc56 : jDecOk (jBytesT.getD 56 .empty) jc56 = true := by decide +kernel
theorem jdc57 : jDecOk (jBytesT.getD 57 .empty) jc57 = true := by decide +kernel
theorem jdc58 : jDecOk (jBytesT.getD 58 .empty) jc58 = true := by decide +kernel
theorem jdc59 : jDecOk (jBytesT.getD 59 .empty) jc59 = true := by decide +kernel
theorem jdc60 : jDecOk (jBytesT.getD 60 .empty) jc60 = true := by decide +kernel
theorem jdc61 : jDecOk (jBytesT.getD 61 .empty) jc61 = true := by decide +kernel
theorem jdc62 : jDecOk (jBytesT.getD 62 .empty) jc62 = true := by decide +kernel
theorem jdc63 : jDecOk (jBytesT.getD 63 .empty) jc63 = true := by decide +kernel
theorem jdc64 : jDecOk (jBytesT.getD 64 .empty) jc64 = true := by decide +kernel
theorem jdc65 : jDecOk (jBytesT.getD 65 .empty) jc65 = true := by decide +kernel
theorem jdc66 : jDecOk (jBytesT.getD 66 .empty) jc66 = true := by decide +kernel
theorem jdc67 : jDecOk (jBytesT.getD 67 .empty) jc67 = true := by decide +kernel
theorem jdc68 : jDecOk (jBytesT.getD 68 .empty) jc68 = true := by decide +kernel
theorem jdc69 : jDecOk (jBytesT.getD 69 .empty) jc69 = true := by decide +kernel
theorem jdc70 : jDecOk (jBytesT.getD 70 .empty) jc70 = true := by decide +kernel
theorem jdc71 : jDecOk (jBytesT.getD 71 .empty) jc71 = true := by decide +kernel
theorem jdc72 : jDecOk (jBytesT.getD 72 .empty) jc72 = true := by decide +kernel
theorem jdc73 : jDecOk (jBytesT.getD 73 .empty) jc73 = true := by decide +kernel
theorem jdc74 : jDecOk (jBytesT.getD 74 .empty) jc74 = true := by decide +kernel
theorem jdc75 : jDecOk (jBytesT.getD 75 .empty) jc75 = true := by decide +kernel
theorem jdc76 : jDecOk (jBytesT.getD 76 .empty) jc76 = true := by decide +kernel
theorem jdc77 : jDecOk (jBytesT.getD 77 .empty) jc77 = true := by decide +kernel
theorem jdc78 : jDecOk (jBytesT.getD 78 .empty) jc78 = true := by decide +kernel
theorem jdc79 : jDecOk (jBytesT.getD 79 .empty) jc79 = true := by decide +kernel
theorem jdc80 : jDecOk (jBytesT.getD 80 .empty) jc80 = true := by decide +kernel
theorem jdc81 : jDecOk (jBytesT.getD 81 .empty) jc81 = true := by decide +kernel
theorem jdc82 : jDecOk (jBytesT.getD 82 .empty) jc82 = true := by decide +kernel
theorem jdc83 : jDecOk (jBytesT.getD 83 .empty) jc83 = true := by decide +kernel
theorem jdc84 : jDecOk (jBytesT.getD 84 .empty) jc84 = true := by decide +kernel
theorem jdc85 : jDecOk (jBytesT.getD 85 .empty) jc85 = true := by decide +kernel
theorem jdc86 : jDecOk (jBytesT.getD 86 .empty) jc86 = true := by decide +kernel
theorem jdc87 : jDecOk (jBytesT.getD 87 .empty) jc87 = true := by decide +kernel
theorem jdc88 : jDecOk (jBytesT.getD 88 .empty) jc88 = true := by decide +kernel
theorem jdc89 : jDecOk (jBytesT.getD 89 .empty) jc89 = true := by decide +kernel
theorem jdc90 : jDecOk (jBytesT.getD 90 .empty) jc90 = true := by decide +kernel
theorem jdc91 : jDecOk (jBytesT.getD 91 .empty) jc91 = true := by decide +kernel
theorem jdc92 : jDecOk (jBytesT.getD 92 .empty) jc92 = true := by decide +kernel
theorem jdc93 : jDecOk (jBytesT.getD 93 .empty) jc93 = true := by decide +kernel
theorem jdc94 : jDecOk (jBytesT.getD 94 .empty) jc94 = true := by decide +kernel
theorem jdc95 : jDecOk (jBytesT.getD 95 .empty) jc95 = true := by decide +kernel
theorem jdc96 : jDecOk (jBytesT.getD 96 .empty) jc96 = true := by decide +kernel
theorem jdc97 : jDecOk (jBytesT.getD 97 .empty) jc97 = true := by decide +kernel
theorem jdc98 : jDecOk (jBytesT.getD 98 .empty) jc98 = true := by decide +kernel
theorem jdc99 : jDecOk (jBytesT.getD 99 .empty) jc99 = true := by decide +kernel
theorem jdc100 : jDecOk (jBytesT.getD 100 .empty) jc100 = true := by decide +kernel
theorem jdc101 : jDecOk (jBytesT.getD 101 .empty) jc101 = true := by decide +kernel
theorem jdc102 : jDecOk (jBytesT.getD 102 .empty) jc102 = true := by decide +kernel
theorem jdc103 : jDecOk (jBytesT.getD 103 .empty) jc103 = true := by decide +kernel
theorem jdc104 : jDecOk (jBytesT.getD 104 .empty) jc104 = true := by decide +kernel
theorem jdc105 : jDecOk (jBytesT.getD 105 .empty) jc105 = true := by decide +kernel
theorem jdc106 : jDecOk (jBytesT.getD 106 .empty) jc106 = true := by decide +kernel
theorem jdc107 : jDecOk (jBytesT.getD 107 .empty) jc107 = true := by decide +kernel
theorem jdc108 : jDecOk (jBytesT.getD 108 .empty) jc108 = true := by decide +kernel
theorem jdc109 : jDecOk (jBytesT.getD 109 .empty) jc109 = true := by decide +kernel
theorem jdc110 : jDecOk (jBytesT.getD 110 .empty) jc110 = true := by decide +kernel
theorem jdc111 : jDecOk (jBytesT.getD 111 .empty) jc111 = true := by decide +kernel
theorem jdc112 : jDecOk (jBytesT.getD 112 .empty) jc112 = true := by decide +kernel
theorem jdc113 : jDecOk (jBytesT.getD 113 .empty) jc113 = true := by decide +kernel
theorem jdc114 : jDecOk (jBytesT.getD 114 .empty) jc114 = true := by decide +kernel
theorem jdc115 : jDecOk (jBytesT.getD 115 .empty) jc115 = true := by decide +kernel
theorem jdc116 : jDecOk (jBytesT.getD 116 .empty) jc116 = true := by decide +kernel
theorem jdc117 : jDecOk (jBytesT.getD 117 .empty) jc117 = true := by decide +kernel
theorem jdc118 : jDecOk (jBytesT.getD 118 .empty) jc118 = true := by decide +kernel
theorem jdc119 : jDecOk (jBytesT.getD 119 .empty) jc119 = true := by decide +kernel
theorem jdc120 : jDecOk (jBytesT.getD 120 .empty) jc120 = true := by decide +kernel
theorem jdc121 : jDecOk (jBytesT.getD 121 .empty) jc121 = true := by decide +kernel
theorem jdc122 : jDecOk (jBytesT.getD 122 .empty) jc122 = true := by decide +kernel
theorem jdc123 : jDecOk (jBytesT.getD 123 .empty) jc123 = true := by decide +kernel
theorem jdc124 : jDecOk (jBytesT.getD 124 .empty) jc124 = true := by decide +kernel
theorem jdc125 : jDecOk (jBytesT.getD 125 .empty) jc125 = true := by decide +kernel
theorem jdc126 : jDecOk (jBytesT.getD 126 .empty) jc126 = true := by decide +kernel
theorem jdc127 : jDecOk (jBytesT.getD 127 .empty) jc127 = true := by decide +kernel
theorem jdc128 : jDecOk (jBytesT.getD 128 .empty) jc128 = true := by decide +kernel
theorem jdc129 : jDecOk (jBytesT.getD 129 .empty) jc129 = true := by decide +kernel
theorem jdc130 : jDecOk (jBytesT.getD 130 .empty) jc130 = true := by decide +kernel
theorem jdc131 : jDecOk (jBytesT.getD 131 .empty) jc131 = true := by decide +kernel
theorem jdc132 : jDecOk (jBytesT.getD 132 .empty) jc132 = true := by decide +kernel
theorem jdc133 : jDecOk (jBytesT.getD 133 .empty) jc133 = true := by decide +kernel
theorem jdc134 : jDecOk (jBytesT.getD 134 .empty) jc134 = true := by decide +kernel
theorem jdc135 : jDecOk (jBytesT.getD 135 .empty) jc135 = true := by decide +kernel
theorem jdc136 : jDecOk (jBytesT.getD 136 .empty) jc136 = true := by decide +kernel
theorem jdc137 : jDecOk (jBytesT.getD 137 .empty) jc137 = true := by decide +kernel
theorem jdc138 : jDecOk (jBytesT.getD 138 .empty) jc138 = true := by decide +kernel
theorem jdc139 : jDecOk (jBytesT.getD 139 .empty) jc139 = true := by decide +kernel
theorem jdc140 : jDecOk (jBytesT.getD 140 .empty) jc140 = true := by decide +kernel
theorem jdc141 : jDecOk (jBytesT.getD 141 .empty) jc141 = true := by decide +kernel
theorem jdc142 : jDecOk (jBytesT.getD 142 .empty) jc142 = true := by decide +kernel
theorem jdc143 : jDecOk (jBytesT.getD 143 .empty) jc143 = true := by decide +kernel
theorem jdc144 : jDecOk (jBytesT.getD 144 .empty) jc144 = true := by decide +kernel
theorem jdc145 : jDecOk (jBytesT.getD 145 .empty) jc145 = true := by decide +kernel
theorem jdc146 : jDecOk (jBytesT.getD 146 .empty) jc146 = true := by decide +kernel
theorem jdc147 : jDecOk (jBytesT.getD 147 .empty) jc147 = true := by decide +kernel
theorem jdc148 : jDecOk (jBytesT.getD 148 .empty) jc148 = true := by decide +kernel
theorem jdc149 : jDecOk (jBytesT.getD 149 .empty) jc149 = true := by decide +kernel
theorem jdc150 : jDecOk (jBytesT.getD 150 .empty) jc150 = true := by decide +kernel
theorem jdc151 : jDecOk (jBytesT.getD 151 .empty) jc151 = true := by decide +kernel
theorem jdc152 : jDecOk (jBytesT.getD 152 .empty) jc152 = true := by decide +kernel
theorem jdc153 : jDecOk (jBytesT.getD 153 .empty) jc153 = true := by decide +kernel
theorem jdc154 : jDecOk (jBytesT.getD 154 .empty) jc154 = true := by decide +kernel
theorem jdc155 : jDecOk (jBytesT.getD 155 .empty) jc155 = true := by decide +kernel
theorem jdc156 : jDecOk (jBytesT.getD 156 .empty) jc156 = true := by decide +kernel
theorem jdc157 : jDecOk (jBytesT.getD 157 .empty) jc157 = true := by decide +kernel
theorem jdc158 : jDecOk (jBytesT.getD 158 .empty) jc158 = true := by decide +kernel
theorem jdc159 : jDecOk (jBytesT.getD 159 .empty) jc159 = true := by decide +kernel
theorem jdc160 : jDecOk (jBytesT.getD 160 .empty) jc160 = true := by decide +kernel
theorem jdc161 : jDecOk (jBytesT.getD 161 .empty) jc161 = true := by decide +kernel
theorem jdc162 : jDecOk (jBytesT.getD 162 .empty) jc162 = true := by decide +kernel
theorem jdc163 : jDecOk (jBytesT.getD 163 .empty) jc163 = true := by decide +kernel
theorem jdc164 : jDecOk (jBytesT.getD 164 .empty) jc164 = true := by decide +kernel
theorem jdc165 : jDecOk (jBytesT.getD 165 .empty) jc165 = true := by decide +kernel
theorem jdc166 : jDecOk (jBytesT.getD 166 .empty) jc166 = true := by decide +kernel
theorem jdc167 : jDecOk (jBytesT.getD 167 .empty) jc167 = true := by decide +kernel
theorem jdc168 : jDecOk (jBytesT.getD 168 .empty) jc168 = true := by decide +kernel
theorem jdc169 : jDecOk (jBytesT.getD 169 .empty) jc169 = true := by decide +kernel
theorem jdc170 : jDecOk (jBytesT.getD 170 .empty) jc170 = true := by decide +kernel
theorem jdc171 : jDecOk (jBytesT.getD 171 .empty) jc171 = true := by decide +kernel
theorem jdc172 : jDecOk (jBytesT.getD 172 .empty) jc172 = true := by decide +kernel
theorem jdc173 : jDecOk (jBytesT.getD 173 .empty) jc173 = true := by decide +kernel
theorem jdc174 : jDecOk (jBytesT.getD 174 .empty) jc174 = true := by decide +kernel
theorem jdc175 : jDecOk (jBytesT.getD 175 .empty) jc175 = true := by decide +kernel
theorem jdc176 : jDecOk (jBytesT.getD 176 .empty) jc176 = true := by decide +kernel
theorem jdc177 : jDecOk (jBytesT.getD 177 .empty) jc177 = true := by decide +kernel
theorem jdc178 : jDecOk (jBytesT.getD 178 .empty) jc178 = true := by decide +kernel
theorem jdc179 : jDecOk (jBytesT.getD 179 .empty) jc179 = true := by decide +kernel
theorem jdc180 : jDecOk (jBytesT.getD 180 .empty) jc180 = true := by decide +kernel
theorem jdc181 : jDecOk (jBytesT.getD 181 .empty) jc181 = true := by decide +kernel
theorem jdc182 : jDecOk (jBytesT.getD 182 .empty) jc182 = true := by decide +kernel
theorem jdc183 : jDecOk (jBytesT.getD 183 .empty) jc183 = true := by decide +kernel
theorem jdc184 : jDecOk (jBytesT.getD 184 .empty) jc184 = true := by decide +kernel
theorem jdc185 : jDecOk (jBytesT.getD 185 .empty) jc185 = true := by decide +kernel
theorem jdc186 : jDecOk (jBytesT.getD 186 .empty) jc186 = true := by decide +kernel
theorem jdc187 : jDecOk (jBytesT.getD 187 .empty) jc187 = true := by decide +kernel
theorem jdc188 : jDecOk (jBytesT.getD 188 .empty) jc188 = true := by decide +kernel
theorem jdc189 : jDecOk (jBytesT.getD 189 .empty) jc189 = true := by decide +kernel
theorem jdc190 : jDecOk (jBytesT.getD 190 .empty) jc190 = true := by decide +kernel
theorem jdc191 : jDecOk (jBytesT.getD 191 .empty) jc191 = true := by decide +kernel
theorem jdc192 : jDecOk (jBytesT.getD 192 .empty) jc192 = true := by decide +kernel
theorem jdc193 : jDecOk (jBytesT.getD 193 .empty) jc193 = true := by decide +kernel
theorem jdc194 : jDecOk (jBytesT.getD 194 .empty) jc194 = true := by decide +kernel
theorem jdc195 : jDecOk (jBytesT.getD 195 .empty) jc195 = true := by decide +kernel
theorem jdc196 : jDecOk (jBytesT.getD 196 .empty) jc196 = true := by decide +kernel
theorem jdc197 : jDecOk (jBytesT.getD 197 .empty) jc197 = true := by decide +kernel
theorem jdc198 : jDecOk (jBytesT.getD 198 .empty) jc198 = true := by decide +kernel
theorem jdc199 : jDecOk (jBytesT.getD 199 .empty) jc199 = true := by decide +kernel
theorem jdec_all : ∀ k, k < 200 → jDecOk (jBytesT.getD k .empty) (jCodeT.getD k []) = true
  | 0, _ => jdc0
  | 1, _ => jdc1
  | 2, _ => jdc2
  | 3, _ => jdc3
  | 4, _ => jdc4
  | 5, _ => jdc5
  | 6, _ => jdc6
  | 7, _ => jdc7
  | 8, _ => jdc8
  | 9, _ => jdc9
  | 10, _ => jdc10
  | 11, _ => jdc11
  | 12, _ => jdc12
  | 13, _ => jdc13
  | 14, _ => jdc14
  | 15, _ => jdc15
  | 16, _ => jdc16
  | 17, _ => jdc17
  | 18, _ => jdc18
  | 19, _ => jdc19
  | 20, _ => jdc20
  | 21, _ => jdc21
  | 22, _ => jdc22
  | 23, _ => jdc23
  | 24, _ => jdc24
  | 25, _ => jdc25
  | 26, _ => jdc26
  | 27, _ => jdc27
  | 28, _ => jdc28
  | 29, _ => jdc29
  | 30, _ => jdc30
  | 31, _ => jdc31
  | 32, _ => jdc32
  | 33, _ => jdc33
  | 34, _ => jdc34
  | 35, _ => jdc35
  | 36, _ => jdc36
  | 37, _ => jdc37
  | 38, _ => jdc38
  | 39, _ => jdc39
  | 40, _ => jdc40
  | 41, _ => jdc41
  | 42, _ => jdc42
  | 43, _ => jdc43
  | 44, _ => jdc44
  | 45, _ => jdc45
  | 46, _ => jdc46
  | 47, _ => jdc47
  | 48, _ => jdc48
  | 49, _ => jdc49
  | 50, _ => jdc50
  | 51, _ => jdc51
  | 52, _ => jdc52
  | 53, _ => jdc53
  | 54, _ => jdc54
  | 55, _ => jdc55
  | 56, _ => jdc56
  | 57, _ => jdc57
  | 58, _ => jdc58
  | 59, _ => jdc59
  | 60, _ => jdc60
  | 61, _ => jdc61
  | 62, _ => jdc62
  | 63, _ => jdc63
  | 64, _ => jdc64
  | 65, _ => jdc65
  | 66, _ => jdc66
  | 67, _ => jdc67
  | 68, _ => jdc68
  | 69, _ => jdc69
  | 70, _ => jdc70
  | 71, _ => jdc71
  | 72, _ => jdc72
  | 73, _ => jdc73
  | 74, _ => jdc74
  | 75, _ => jdc75
  | 76, _ => jdc76
  | 77, _ => jdc77
  | 78, _ => jdc78
  | 79, _ => jdc79
  | 80, _ => jdc80
  | 81, _ => jdc81
  | 82, _ => jdc82
  | 83, _ => jdc83
  | 84, _ => jdc84
  | 85, _ => jdc85
  | 86, _ => jdc86
  | 87, _ => jdc87
  | 88, _ => jdc88
  | 89, _ => jdc89
  | 90, _ => jdc90
  | 91, _ => jdc91
  | 92, _ => jdc92
  | 93, _ => jdc93
  | 94, _ => jdc94
  | 95, _ => jdc95
  | 96, _ => jdc96
  | 97, _ => jdc97
  | 98, _ => jdc98
  | 99, _ => jdc99
  | 100, _ => jdc100
  | 101, _ => jdc101
  | 102, _ => jdc102
  | 103, _ => jdc103
  | 104, _ => jdc104
  | 105, _ => jdc105
  | 106, _ => jdc106
  | 107, _ => jdc107
  | 108, _ => jdc108
  | 109, _ => jdc109
  | 110, _ => jdc110
  | 111, _ => jdc111
  | 112, _ => jdc112
  | 113, _ => jdc113
  | 114, _ => jdc114
  | 115, _ => jdc115
  | 116, _ => jdc116
  | 117, _ => jdc117
  | 118, _ => jdc118
  | 119, _ => jdc119
  | 120, _ => jdc120
  | 121, _ => jdc121
  | 122, _ => jdc122
  | 123, _ => jdc123
  | 124, _ => jdc124
  | 125, _ => jdc125
  | 126, _ => jdc126
  | 127, _ => jdc127
  | 128, _ => jdc128
  | 129, _ => jdc129
  | 130, _ => jdc130
  | 131, _ => jdc131
  | 132, _ => jdc132
  | 133, _ => jdc133
  | 134, _ => jdc134
  | 135, _ => jdc135
  | 136, _ => jdc136
  | 137, _ => jdc137
  | 138, _ => jdc138
  | 139, _ => jdc139
  | 140, _ => jdc140
  | 141, _ => jdc141
  | 142, _ => jdc142
  | 143, _ => jdc143
  | 144, _ => jdc144
  | 145, _ => jdc145
  | 146, _ => jdc146
  | 147, _ => jdc147
  | 148, _ => jdc148
  | 149, _ => jdc149
  | 150, _ => jdc150
  | 151, _ => jdc151
  | 152, _ => jdc152
  | 153, _ => jdc153
  | 154, _ => jdc154
  | 155, _ => jdc155
  | 156, _ => jdc156
  | 157, _ => jdc157
  | 158, _ => jdc158
  | 159, _ => jdc159
  | 160, _ => jdc160
  | 161, _ => jdc161
  | 162, _ => jdc162
  | 163, _ => jdc163
  | 164, _ => jdc164
  | 165, _ => jdc165
  | 166, _ => jdc166
  | 167, _ => jdc167
  | 168, _ => jdc168
  | 169, _ => jdc169
  | 170, _ => jdc170
  | 171, _ => jdc171
  | 172, _ => jdc172
  | 173, _ => jdc173
  | 174, _ => jdc174
  | 175, _ => jdc175
  | 176, _ => jdc176
  | 177, _ => jdc177
  | 178, _ => jdc178
  | 179, _ => jdc179
  | 180, _ => jdc180
  | 181, _ => jdc181
  | 182, _ => jdc182
  | 183, _ => jdc183
  | 184, _ => jdc184
  | 185, _ => jdc185
  | 186, _ => jdc186
  | 187, _ => jdc187
  | 188, _ => jdc188
  | 189, _ => jdc189
  | 190, _ => jdc190
  | 191, _ => jdc191
  | 192, _ => jdc192
  | 193, _ => jdc193
  | 194, _ => jdc194
  | 195, _ => jdc195
  | 196, _ => jdc196
  | 197, _ => jdc197
  | 198, _ => jdc198
  | 199, _ => jdc199
  | n + 200, h => absurd h (by omega)
