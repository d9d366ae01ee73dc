/-! THE SIMPLE MACHINE. A reference is (tag, n): the kind of the cell, its number since the law's entry (tags from 60 on: what stood there before). -/
abbrev Rf := Nat × Nat
abbrev SV := Int32 ⊕ (Int64 ⊕ Option Rf)
abbrev vI (x : Int32) : SV := .inl x
abbrev vL (x : Int64) : SV := .inr (.inl x)
abbrev vR (r : Option Rf) : SV := .inr (.inr r)
/-- numbers, references (by tag, cell, slot), the cells' tags, lengths of arrays (by tag, cell), how many cells, how many slots -/
abbrev Mem := (Nat → Nat → Nat → Int32) × (Nat → Nat → Nat → Option Rf) × (Nat → Nat) × (Nat → Nat → Nat) × Nat × Nat
def gI (m : Mem) (t n k : Nat) : Int32 := m.1 t n k
def gP (m : Mem) (t n k : Nat) : Option Rf := m.2.1 t n k
def rgn (m : Mem) (n : Nat) : Nat := m.2.2.1 n
def gL (m : Mem) (t n : Nat) : Nat := m.2.2.2.1 t n
def nX (m : Mem) : Nat := m.2.2.2.2.1
def nS (m : Mem) : Nat := m.2.2.2.2.2
def sI (m : Mem) (t n k : Nat) (v : Int32) : Mem := (fun t' n' k' => if k' = k then (if n' = n then (if t' = t then v else gI m t' n' k') else gI m t' n' k') else gI m t' n' k', m.2)
def sP (m : Mem) (t n k : Nat) (v : Option Rf) : Mem := (m.1, fun t' n' k' => if k' = k then (if n' = n then (if t' = t then v else gP m t' n' k') else gP m t' n' k') else gP m t' n' k', m.2.2)
/-- a whole row of numbers -/
def sA (m : Mem) (t n : Nat) (f : Nat → Int32) : Mem := (fun t' n' k' => if n' = n then (if t' = t then f k' else gI m t' n' k') else gI m t' n' k', m.2)
/-- a new cell of tag t, of length z -/
def al (m : Mem) (t z : Nat) : Mem :=
  (fun t' n' k' => if n' = nX m then (if t' < 60 then 0 else gI m t' n' k') else gI m t' n' k', fun t' n' k' => if n' = nX m then none else gP m t' n' k', fun n' => if n' = nX m then t else rgn m n',
    fun t' n' => if n' = nX m then (if t' < 60 then z else gL m t' n') else gL m t' n', nX m + 1, nS m + z)
/-- an instruction: place, what, the next place, four numbers, constants, a switch's targets -/
abbrev Ent := Nat × Instr × Nat × Nat × Nat × Nat × Nat × Int32 × Int64 × List (Int32 × Nat)
abbrev e0 (p : Nat) (i : Instr) (n : Nat) : Ent := (p, i, n, 0, 0, 0, 0, 0, 0, [])
abbrev eC (p : Nat) (i : Instr) (n : Nat) (c : Int32) : Ent := (p, i, n, 0, 0, 0, 0, c, 0, [])
abbrev eL (p : Nat) (i : Instr) (n : Nat) (c : Int64) (w : Nat) : Ent := (p, i, n, 0, 0, 0, w, 0, c, [])
abbrev eK (p : Nat) (i : Instr) (n : Nat) (c : Int32) (w : Nat) : Ent := (p, i, n, 0, 0, 0, w, c, 0, [])
abbrev eJ (p : Nat) (i : Instr) (n t : Nat) : Ent := (p, i, n, t, 0, 0, 0, 0, 0, [])
abbrev eF (p : Nat) (i : Instr) (n a b c w : Nat) : Ent := (p, i, n, a, b, c, w, 0, 0, [])
abbrev eM (p : Nat) (i : Instr) (n y k w : Nat) : Ent := (p, i, n, y, k, 0, w, 0, 0, [])
abbrev eT (p : Nat) (i : Instr) (n d : Nat) (c : Int32) (ts : List (Int32 × Nat)) : Ent := (p, i, n, d, 0, 0, 0, c, 0, ts)
def fnd : List Ent → Nat → Option Ent
  | [], _ => none
  | e :: r, p => match Nat.beq e.1 p with
    | true => some e
    | false => fnd r p
def fnd2 : List (Nat × List Ent) → Nat → Option Ent
  | [], _ => none
  | (b, l) :: r, p => match Nat.ble b p with
    | true => fnd2 r p
    | false => fnd l p
/-- kinds of tags: 0 an object, 1 numbers, 2 bytes, 3 references, 9 none -/
def tk (t : Nat) : Nat := match t with
  | 0 => 0 | 1 => 0 | 4 => 0 | 6 => 0 | 8 => 0 | 10 => 0 | 22 => 0 | 23 => 0 | 11 => 3 | 21 => 2 | 31 => 2 | 32 => 2
  | 2 => 1 | 3 => 1 | 5 => 1 | 7 => 1 | 9 => 1 | 12 => 1 | 13 => 1 | 14 => 1 | 15 => 1 | 16 => 1 | 17 => 1 | 20 => 1
  | 24 => 1 | 25 => 1 | 26 => 1 | 27 => 1 | 28 => 1 | 29 => 1 | 30 => 1 | 33 => 1 | 34 => 1 | 35 => 1 | 36 => 1 | 37 => 1 | 38 => 1 | 39 => 1 | 40 => 1 | 41 => 1 | 42 => 1 | 43 => 1 | 44 => 1 | 45 => 1 | 46 => 1 | 47 => 1
  | 60 => 1 | 61 => 0 | 62 => 2 | 63 => 1 | 64 => 2
  | _ => 9
/-- the class of an object's tag -/
def tc (t : Nat) : Nat := match t with
  | 22 => 0 | 8 => 1 | 1 => 2 | 6 => 3 | 10 => 4 | 4 => 5 | 0 => 6 | 23 => 7 | 61 => 61
  | _ => 99
/-- how long an array of a tag is, where the tag says it -/
def tl (t : Nat) : Option Nat := match t with
  | 2 => some 800 | 3 => some 63 | 5 => some 7 | 7 => some 144 | 9 => some 4 | 11 => some 49 | 12 => some 120 | 13 => some 48 | 14 => some 48 | 15 => some 48 | 16 => some 48 | 17 => some 5 | 24 => some 7 | 25 => some 7 | 26 => some 7 | 27 => some 7 | 28 => some 7 | 29 => some 1604 | 30 => some 1634 | 31 => some 800 | 32 => some 77 | 33 => some 63 | 34 => some 3600 | 35 => some 3600 | 36 => some 3600 | 37 => some 3600 | 38 => some 3600 | 39 => some 3600 | 40 => some 3600 | 41 => some 48 | 42 => some 48 | 43 => some 144 | 44 => some 48 | 45 => some 48 | 46 => some 60 | 47 => some 30
  | _ => none
/-- references that never change behind the constructors: by tag, slot, cell -/
def FR (t k n : Nat) : Option Rf := match t with
  | 0 => (match k with | 0 => some (1, 1) | 1 => some (4, 4) | 4 => some (8, 229) | _ => none)
  | 1 => (match k with | 0 => some (2, 2) | 15 => some (3, 3) | _ => none)
  | 4 => (match k with | 0 => some (5, 5) | 1 => some (6, 6) | 2 => some (6, 16) | 12 => some (17, 26) | _ => none)
  | 6 => (match k with | 12 => some (7, n + 1) | 13 => some (13, n + 2) | 14 => some (14, n + 3) | 15 => some (15, n + 4) | 16 => some (16, n + 5) | _ => none)
  | 8 => (match k with | 8 => some (9, n + 1) | _ => none)
  | 10 => (match k with | 0 => some (11, n + 1) | 2 => some (12, n + 2) | _ => none)
  | 23 => (match k with | 1 => some (24, 232) | 2 => some (25, 233) | 3 => some (26, 234) | 4 => some (27, 235) | 5 => some (28, 236) | 6 => some (29, 237) | 7 => some (30, 238) | 8 => some (31, 239) | 18 => some (32, 240) | 25 => some (33, 241) | 31 => some (34, 242) | 32 => some (35, 243) | 33 => some (36, 244) | 34 => some (37, 245) | 35 => some (38, 246) | 36 => some (39, 247) | 37 => some (40, 248) | 38 => some (41, 249) | 39 => some (42, 250) | 40 => some (43, 251) | 41 => some (44, 252) | 42 => some (45, 253) | 53 => some (46, 254) | 55 => some (47, 255) | _ => none)
  | 11 => some (8, n + 2 + 2 * k)
  | _ => none
def stI (n : Nat) : List Int32 := match n with
  | 0 => [0, 2, 0] | 1 => [1, 0, 2, 0] | 2 => [2, 0, 1, 0] | 3 => [0, 2, 0, 2, 0] | 4 => [0, 1, 0] | 5 => [1, 0, 1, 0] | 6 => [0, 2, 4, 5, 7, 9, 11] | 7 => [1, 3, 5, 0, 2, 4, 6] | 8 => [5, 3, 1, 6, 4, 2, 0] | 9 => [20, 8, 0, 0, 0, 25, 0] | 10 => [250, 64, 1, 1, 1, 400, 1]
  | _ => []
def stS (n : Nat) : List Int32 := match n with
  | 0 => [110, 111, 116, 101] | 1 => [114, 101, 115, 116] | 2 => [116, 105, 101] | 3 => [107, 101, 121] | 4 => [109, 101, 116, 101, 114] | 5 => [115, 112, 101, 101, 100] | 6 => [99, 100, 101, 102, 103, 97, 98] | 7 => [115, 108] | 8 => [103, 114] | 9 => [97, 112] | 10 => [117, 112] | 11 => [100, 111, 119, 110] | 12 => [116, 114, 109, 111, 112, 114, 116, 117, 100, 116, 105, 116, 108, 109, 100, 99] | 13 => [110, 98] | 14 => [97, 110] | 15 => [99, 100, 101, 102, 103, 97, 98]
  | _ => []
def stD (n : Nat) : List Int32 := match n with
  | 0 => (List.range 100).map (fun k => nI (48 + k % 10))
  | _ => (List.range 100).map (fun k => nI (48 + k / 10))
def nf (c : Nat) : Nat := match c with
  | 0 => 4 | 1 => 16 | 2 => 18 | 3 => 17 | 4 => 5 | 5 => 14 | 6 => 7 | 7 => 56
  | _ => 0
/-- a field: 0 int, 1 boolean, 2 byte, 3 a reference -/
def ft (c k : Nat) : Nat := match c with
  | 0 => (match k with | 0 => 3 | 1 => 2 | 2 => 1 | _ => 0)
  | 1 => (match k with | 8 => 3 | _ => 0)
  | 2 => (match k with | 0 => 3 | 9 => 3 | 14 => 1 | 15 => 3 | _ => 0)
  | 3 => (match k with | 0 => 1 | 2 => 3 | 3 => 3 | 4 => 3 | 5 => 3 | 7 => 1 | 12 => 3 | 13 => 3 | 14 => 3 | 15 => 3 | 16 => 3 | _ => 0)
  | 4 => (match k with | 0 => 3 | 2 => 3 | _ => 0)
  | 5 => (match k with | 0 => 3 | 1 => 3 | 2 => 3 | 3 => 1 | 4 => 3 | 5 => 3 | 8 => 3 | 9 => 3 | 12 => 3 | 13 => 1 | _ => 0)
  | 6 => (match k with | 0 => 3 | 1 => 3 | 2 => 3 | 3 => 3 | 4 => 3 | _ => 0)
  | 7 => (match k with | 1 => 3 | 2 => 3 | 3 => 3 | 4 => 3 | 5 => 3 | 6 => 3 | 7 => 3 | 8 => 3 | 18 => 3 | 24 => 1 | 25 => 3 | 30 => 1 | 31 => 3 | 32 => 3 | 33 => 3 | 34 => 3 | 35 => 3 | 36 => 3 | 37 => 3 | 38 => 3 | 39 => 3 | 40 => 3 | 41 => 3 | 42 => 3 | 52 => 1 | 53 => 3 | 55 => 3 | _ => 0)
  | _ => 0
def mcl (y : Nat) : Nat := (bif Nat.ble 141 y then (bif Nat.ble 211 y then (bif Nat.ble 246 y then (bif Nat.ble 264 y then (bif Nat.ble 273 y then (bif Nat.ble 277 y then (bif Nat.ble 279 y then (bif Nat.ble 280 y then (bif Nat.ble 281 y then 98 else 98) else 98) else (bif Nat.ble 278 y then 0 else 0)) else (bif Nat.ble 275 y then (bif Nat.ble 276 y then 0 else 0) else (bif Nat.ble 274 y then 0 else 0))) else (bif Nat.ble 268 y then (bif Nat.ble 270 y then (bif Nat.ble 271 y then (bif Nat.ble 272 y then 0 else 0) else 0) else (bif Nat.ble 269 y then 0 else 0)) else (bif Nat.ble 266 y then (bif Nat.ble 267 y then 0 else 0) else (bif Nat.ble 265 y then 98 else 98)))) else (bif Nat.ble 255 y then (bif Nat.ble 259 y then (bif Nat.ble 261 y then (bif Nat.ble 262 y then (bif Nat.ble 263 y then 98 else 98) else 98) else (bif Nat.ble 260 y then 98 else 61)) else (bif Nat.ble 257 y then (bif Nat.ble 258 y then 61 else 61) else (bif Nat.ble 256 y then 61 else 61))) else (bif Nat.ble 250 y then (bif Nat.ble 252 y then (bif Nat.ble 253 y then (bif Nat.ble 254 y then 61 else 61) else 98) else (bif Nat.ble 251 y then 98 else 98)) else (bif Nat.ble 248 y then (bif Nat.ble 249 y then 98 else 98) else (bif Nat.ble 247 y then 98 else 98))))) else (bif Nat.ble 228 y then (bif Nat.ble 237 y then (bif Nat.ble 241 y then (bif Nat.ble 243 y then (bif Nat.ble 244 y then (bif Nat.ble 245 y then 98 else 98) else 7) else (bif Nat.ble 242 y then 7 else 7)) else (bif Nat.ble 239 y then (bif Nat.ble 240 y then 7 else 7) else (bif Nat.ble 238 y then 7 else 7))) else (bif Nat.ble 232 y then (bif Nat.ble 234 y then (bif Nat.ble 235 y then (bif Nat.ble 236 y then 7 else 7) else 7) else (bif Nat.ble 233 y then 7 else 7)) else (bif Nat.ble 230 y then (bif Nat.ble 231 y then 7 else 7) else (bif Nat.ble 229 y then 7 else 7)))) else (bif Nat.ble 219 y then (bif Nat.ble 223 y then (bif Nat.ble 225 y then (bif Nat.ble 226 y then (bif Nat.ble 227 y then 7 else 7) else 7) else (bif Nat.ble 224 y then 7 else 7)) else (bif Nat.ble 221 y then (bif Nat.ble 222 y then 7 else 7) else (bif Nat.ble 220 y then 7 else 7))) else (bif Nat.ble 215 y then (bif Nat.ble 217 y then (bif Nat.ble 218 y then 7 else 7) else (bif Nat.ble 216 y then 7 else 7)) else (bif Nat.ble 213 y then (bif Nat.ble 214 y then 7 else 7) else (bif Nat.ble 212 y then 7 else 7)))))) else (bif Nat.ble 176 y then (bif Nat.ble 193 y then (bif Nat.ble 202 y then (bif Nat.ble 206 y then (bif Nat.ble 208 y then (bif Nat.ble 209 y then (bif Nat.ble 210 y then 7 else 7) else 7) else (bif Nat.ble 207 y then 7 else 7)) else (bif Nat.ble 204 y then (bif Nat.ble 205 y then 7 else 7) else (bif Nat.ble 203 y then 7 else 7))) else (bif Nat.ble 197 y then (bif Nat.ble 199 y then (bif Nat.ble 200 y then (bif Nat.ble 201 y then 7 else 7) else 7) else (bif Nat.ble 198 y then 7 else 7)) else (bif Nat.ble 195 y then (bif Nat.ble 196 y then 7 else 7) else (bif Nat.ble 194 y then 7 else 7)))) else (bif Nat.ble 184 y then (bif Nat.ble 188 y then (bif Nat.ble 190 y then (bif Nat.ble 191 y then (bif Nat.ble 192 y then 7 else 7) else 7) else (bif Nat.ble 189 y then 7 else 7)) else (bif Nat.ble 186 y then (bif Nat.ble 187 y then 7 else 7) else (bif Nat.ble 185 y then 7 else 7))) else (bif Nat.ble 180 y then (bif Nat.ble 182 y then (bif Nat.ble 183 y then 7 else 7) else (bif Nat.ble 181 y then 7 else 7)) else (bif Nat.ble 178 y then (bif Nat.ble 179 y then 7 else 7) else (bif Nat.ble 177 y then 7 else 7))))) else (bif Nat.ble 158 y then (bif Nat.ble 167 y then (bif Nat.ble 171 y then (bif Nat.ble 173 y then (bif Nat.ble 174 y then (bif Nat.ble 175 y then 7 else 7) else 7) else (bif Nat.ble 172 y then 7 else 7)) else (bif Nat.ble 169 y then (bif Nat.ble 170 y then 7 else 7) else (bif Nat.ble 168 y then 7 else 7))) else (bif Nat.ble 162 y then (bif Nat.ble 164 y then (bif Nat.ble 165 y then (bif Nat.ble 166 y then 7 else 7) else 7) else (bif Nat.ble 163 y then 7 else 7)) else (bif Nat.ble 160 y then (bif Nat.ble 161 y then 7 else 7) else (bif Nat.ble 159 y then 7 else 7)))) else (bif Nat.ble 149 y then (bif Nat.ble 153 y then (bif Nat.ble 155 y then (bif Nat.ble 156 y then (bif Nat.ble 157 y then 7 else 7) else 7) else (bif Nat.ble 154 y then 7 else 7)) else (bif Nat.ble 151 y then (bif Nat.ble 152 y then 7 else 7) else (bif Nat.ble 150 y then 7 else 7))) else (bif Nat.ble 145 y then (bif Nat.ble 147 y then (bif Nat.ble 148 y then 7 else 7) else (bif Nat.ble 146 y then 7 else 7)) else (bif Nat.ble 143 y then (bif Nat.ble 144 y then 7 else 7) else (bif Nat.ble 142 y then 7 else 7))))))) else (bif Nat.ble 70 y then (bif Nat.ble 105 y then (bif Nat.ble 123 y then (bif Nat.ble 132 y then (bif Nat.ble 136 y then (bif Nat.ble 138 y then (bif Nat.ble 139 y then (bif Nat.ble 140 y then 7 else 7) else 7) else (bif Nat.ble 137 y then 7 else 7)) else (bif Nat.ble 134 y then (bif Nat.ble 135 y then 7 else 7) else (bif Nat.ble 133 y then 7 else 7))) else (bif Nat.ble 127 y then (bif Nat.ble 129 y then (bif Nat.ble 130 y then (bif Nat.ble 131 y then 6 else 6) else 6) else (bif Nat.ble 128 y then 6 else 6)) else (bif Nat.ble 125 y then (bif Nat.ble 126 y then 6 else 6) else (bif Nat.ble 124 y then 6 else 6)))) else (bif Nat.ble 114 y then (bif Nat.ble 118 y then (bif Nat.ble 120 y then (bif Nat.ble 121 y then (bif Nat.ble 122 y then 6 else 6) else 6) else (bif Nat.ble 119 y then 6 else 6)) else (bif Nat.ble 116 y then (bif Nat.ble 117 y then 6 else 6) else (bif Nat.ble 115 y then 6 else 6))) else (bif Nat.ble 109 y then (bif Nat.ble 111 y then (bif Nat.ble 112 y then (bif Nat.ble 113 y then 6 else 6) else 6) else (bif Nat.ble 110 y then 6 else 6)) else (bif Nat.ble 107 y then (bif Nat.ble 108 y then 6 else 6) else (bif Nat.ble 106 y then 6 else 6))))) else (bif Nat.ble 87 y then (bif Nat.ble 96 y then (bif Nat.ble 100 y then (bif Nat.ble 102 y then (bif Nat.ble 103 y then (bif Nat.ble 104 y then 6 else 6) else 6) else (bif Nat.ble 101 y then 6 else 6)) else (bif Nat.ble 98 y then (bif Nat.ble 99 y then 6 else 6) else (bif Nat.ble 97 y then 6 else 6))) else (bif Nat.ble 91 y then (bif Nat.ble 93 y then (bif Nat.ble 94 y then (bif Nat.ble 95 y then 6 else 6) else 6) else (bif Nat.ble 92 y then 6 else 6)) else (bif Nat.ble 89 y then (bif Nat.ble 90 y then 6 else 6) else (bif Nat.ble 88 y then 6 else 5)))) else (bif Nat.ble 78 y then (bif Nat.ble 82 y then (bif Nat.ble 84 y then (bif Nat.ble 85 y then (bif Nat.ble 86 y then 5 else 5) else 5) else (bif Nat.ble 83 y then 5 else 5)) else (bif Nat.ble 80 y then (bif Nat.ble 81 y then 5 else 5) else (bif Nat.ble 79 y then 5 else 5))) else (bif Nat.ble 74 y then (bif Nat.ble 76 y then (bif Nat.ble 77 y then 5 else 5) else (bif Nat.ble 75 y then 5 else 5)) else (bif Nat.ble 72 y then (bif Nat.ble 73 y then 5 else 5) else (bif Nat.ble 71 y then 5 else 5)))))) else (bif Nat.ble 35 y then (bif Nat.ble 52 y then (bif Nat.ble 61 y then (bif Nat.ble 65 y then (bif Nat.ble 67 y then (bif Nat.ble 68 y then (bif Nat.ble 69 y then 5 else 5) else 5) else (bif Nat.ble 66 y then 5 else 5)) else (bif Nat.ble 63 y then (bif Nat.ble 64 y then 5 else 5) else (bif Nat.ble 62 y then 5 else 5))) else (bif Nat.ble 56 y then (bif Nat.ble 58 y then (bif Nat.ble 59 y then (bif Nat.ble 60 y then 5 else 4) else 4) else (bif Nat.ble 57 y then 4 else 4)) else (bif Nat.ble 54 y then (bif Nat.ble 55 y then 4 else 4) else (bif Nat.ble 53 y then 4 else 4)))) else (bif Nat.ble 43 y then (bif Nat.ble 47 y then (bif Nat.ble 49 y then (bif Nat.ble 50 y then (bif Nat.ble 51 y then 4 else 3) else 3) else (bif Nat.ble 48 y then 3 else 3)) else (bif Nat.ble 45 y then (bif Nat.ble 46 y then 3 else 3) else (bif Nat.ble 44 y then 3 else 3))) else (bif Nat.ble 39 y then (bif Nat.ble 41 y then (bif Nat.ble 42 y then 3 else 3) else (bif Nat.ble 40 y then 3 else 3)) else (bif Nat.ble 37 y then (bif Nat.ble 38 y then 3 else 2) else (bif Nat.ble 36 y then 2 else 2))))) else (bif Nat.ble 17 y then (bif Nat.ble 26 y then (bif Nat.ble 30 y then (bif Nat.ble 32 y then (bif Nat.ble 33 y then (bif Nat.ble 34 y then 2 else 2) else 2) else (bif Nat.ble 31 y then 2 else 2)) else (bif Nat.ble 28 y then (bif Nat.ble 29 y then 2 else 2) else (bif Nat.ble 27 y then 2 else 2))) else (bif Nat.ble 21 y then (bif Nat.ble 23 y then (bif Nat.ble 24 y then (bif Nat.ble 25 y then 2 else 2) else 2) else (bif Nat.ble 22 y then 2 else 2)) else (bif Nat.ble 19 y then (bif Nat.ble 20 y then 2 else 2) else (bif Nat.ble 18 y then 2 else 2)))) else (bif Nat.ble 8 y then (bif Nat.ble 12 y then (bif Nat.ble 14 y then (bif Nat.ble 15 y then (bif Nat.ble 16 y then 2 else 2) else 2) else (bif Nat.ble 13 y then 2 else 2)) else (bif Nat.ble 10 y then (bif Nat.ble 11 y then 2 else 2) else (bif Nat.ble 9 y then 2 else 2))) else (bif Nat.ble 4 y then (bif Nat.ble 6 y then (bif Nat.ble 7 y then 1 else 1) else (bif Nat.ble 5 y then 1 else 1)) else (bif Nat.ble 2 y then (bif Nat.ble 3 y then 1 else 1) else (bif Nat.ble 1 y then 1 else 1))))))))
def stT (t n k : Nat) : Int32 := match t with
  | 60 => (stI n).getD k 0
  | 62 => (stS n).getD k 0
  | _ => (stD n).getD k 0
def lnK (m : Mem) (t n : Nat) (k : Nat → Prop) : Prop := match tl t with
  | some z => k z
  | none => match t with
    | 60 => k (stI n).length
    | 62 => k (stS n).length
    | 64 => k 100
    | _ => k (gL m t n)
def ln (m : Mem) (t n : Nat) : Nat := match tl t with
  | some z => z
  | none => match t with
    | 60 => (stI n).length
    | 62 => (stS n).length
    | 64 => 100
    | _ => gL m t n
theorem lnK_eq (m : Mem) (t n : Nat) (k : Nat → Prop) : lnK m t n k = k (ln m t n) := by
  unfold lnK ln
  split
  · rfl
  · split <;> rfl
/-- a reference that is there -/
def okR (m : Mem) (a : Rf) : Prop := (a.1 < 60 → a.2 < nX m ∧ rgn m a.2 = a.1) ∧ (60 ≤ a.1 → (a.1 = 60 ∧ a.2 < 11) ∨ (a.1 = 61 ∧ a.2 < 16) ∨ (a.1 = 62 ∧ a.2 < 16) ∨ (a.1 = 63 ∧ a.2 = 0) ∨ (a.1 = 64 ∧ a.2 < 2) ∨ (a.1 = 65 ∧ a.2 = 0))
def okV (m : Mem) : SV → Prop
  | .inr (.inr (some a)) => okR m a
  | _ => True
def okS (m : Mem) (st : List SV) : Prop := ∀ v ∈ st, okV m v
def okL (m : Mem) (sl : List (Option SV)) : Prop := ∀ v, some v ∈ sl → okV m v
/-- references in the memory are there; the tags are tags of cells -/
def okM (m : Mem) : Prop := (∀ t n k a, gP m t n k = some a → okR m a) ∧ ∀ n, n < nX m → rgn m n < 48 ∧ tk (rgn m n) < 9
/-- behind the constructors -/
def FRok (m : Mem) : Prop := ∀ n k a, n < nX m → FR (rgn m n) k n = some a → (rgn m n = 11 → k < 49) → gP m (rgn m n) n k = some a
/-! THE MACHINE's side: class numbers, the classes of int[], byte[], Note[], the first new address, the addresses of what stood there before, SIOOBE_FORMATTER -/
abbrev Ctx := va_G × ClassId × ClassId × ClassId × Nat × (Nat → Nat → Nat) × Value
abbrev cD (C : Ctx) : va_G := C.1
abbrev cIA (C : Ctx) : ClassId := C.2.1
abbrev cBA (C : Ctx) : ClassId := C.2.2.1
abbrev cNA (C : Ctx) : ClassId := C.2.2.2.1
abbrev cB0 (C : Ctx) : Nat := C.2.2.2.2.1
abbrev cSA (C : Ctx) : Nat → Nat → Nat := C.2.2.2.2.2.1
abbrev cSQ (C : Ctx) : Value := C.2.2.2.2.2.2
def adr (C : Ctx) (a : Rf) : Nat := if a.1 < 60 then cB0 C + a.2 else cSA C a.1 a.2
def tv (C : Ctx) : SV → Value
  | .inl x => .int x
  | .inr (.inl x) => .long x
  | .inr (.inr none) => .null
  | .inr (.inr (some a)) => if a.1 = 65 then cSQ C else .ref (adr C a)
def fv (C : Ctx) (m : Mem) (t n k : Nat) : Value := if ft (tc t) k = 3 then tv C (vR (gP m t n k)) else .int (gI m t n k)
def entC (C : Ctx) (m : Mem) (t n : Nat) : va_E := match tk t with
  | 0 => .inr (tc t, (List.range (nf (tc t))).map (fv C m t n))
  | 1 => .inl (cIA C, (ln m t n, .inl (gI m t n)))
  | 2 => .inl (cBA C, (ln m t n, .inl (gI m t n)))
  | _ => .inl (cNA C, (ln m t n, .inr (.inr (.inr (.inr (fun k => (gP m t n k).map (adr C)))))))
def wsO (C : Ctx) (m : Mem) : va_W := (List.range (nX m)).map (fun n => (cB0 C + n, entC C m (rgn m n) n))
abbrev cA (C : Ctx) : Nat → Prop := fun q => cB0 C ≤ q
abbrev cT (C : Ctx) : List (ClassId × FieldType) := [(cIA C, .int), (cBA C, .byte), (cNA C, .object RX0)]
/-- the heap holds the memory -/
def HR (C : Ctx) (m : Mem) (H : Heap) : Prop := H.size = cB0 C + nX m ∧ va_P (cD C) vwCl (wsO C m) H ∧ okM m
/-- two private methods of AbstractStringBuilder, asked of a StringBuilder -/
def GU : List Cond := [.selects "java/lang/StringBuilder" (mN 273) (mN 273), .selects "java/lang/StringBuilder" (mN 274) (mN 274)]
def GW : List Cond := (GU ++ lw_tbl).filter goodWord
def isNest : Cond → Bool
  | .fieldLinkNest .. => true
  | .methodLinkNest .. => true
  | _ => false
def NW : List Cond := tables_1.filter isNest
def stN (k : Nat) : String := match k with
  | 0 => "MORDENT_SHAPE" | 1 => "TURN_SHAPE" | 2 => "INVERTED_TURN_SHAPE" | 3 => "LONG_MORDENT_SHAPE" | 4 => "SHORT_PRALL_SHAPE" | 5 => "PRALL_SHAPE" | 6 => "LETTER_NUMBERS" | 7 => "SHARPS_BEFORE" | 8 => "FLATS_BEFORE" | 9 => "TERMS_LEAST" | _ => "TERMS_MOST"
def stDN (k : Nat) : String := match k with
  | 0 => "DigitOnes" | _ => "DigitTens"
/-- the String constants: whose pool, which entry, the text -/
def stQ (k : Nat) : String × Nat × String := match k with
  | 0 => (RX1, 91, "note") | 1 => (RX1, 101, "rest") | 2 => (RX1, 106, "tie") | 3 => (RX1, 111, "key") | 4 => (RX1, 115, "meter") | 5 => (RX1, 119, "speed") | 6 => (RX1, 281, "cdefgab") | 7 => (RX1, 223, "sl") | 8 => (RX1, 228, "gr") | 9 => (RX1, 230, "ap") | 10 => (RX1, 242, "up") | 11 => (RX1, 244, "down") | 12 => (RX1, 286, "trmoprtudtitlmdc") | 13 => (RX1, 259, "nb") | 14 => (RX1, 261, "an") | _ => (RX5, 231, "cdefgab")
/-- what stood there before, at a state U with its heap: tables, statics, String constants, the script -/
def Sta (C : Ctx) (L : Nat) (xs : Nat → Int32) (U : State) : Prop :=
  va_K (cD C) vwCl (cT C) U ∧ (∀ w ∈ NW, va_Nw w U) ∧ va_AO RX0 U ∧
  (∀ k, k < 11 → va_Z RX5 (stN k) "[I" (.ref (cSA C 60 k)) (cA C) U U.heap ∧ va_T .int (cSA C 60 k) (stI k).length (fun j => .int ((stI k).getD j 0)) (cA C) U U.heap) ∧
  (∀ k, k < 2 → va_Z "java/lang/Integer" (stDN k) "[B" (.ref (cSA C 64 k)) (cA C) U U.heap ∧ va_T .byte (cSA C 64 k) 100 (fun j => .int ((stD k).getD j 0)) (cA C) U U.heap) ∧
  va_Z "java/lang/String" "COMPACT_STRINGS" "Z" (.int 1) (cA C) U U.heap ∧
  (va_Z "jdk/internal/util/Preconditions" "SIOOBE_FORMATTER" "Ljava/util/function/BiFunction;" (cSQ C) (cA C) U U.heap ∧ (cSQ C = .null ∨ ∃ a, cSQ C = .ref a)) ∧
  (∀ k, k < 16 → va_O "java/lang/String" (cSA C 61 k) (cA C) U U.heap ∧ va_OF "java/lang/String" "coder" "B" (.int 0) (cSA C 61 k) (cA C) U U.heap ∧ va_OF "java/lang/String" "value" "[B" (.ref (cSA C 62 k)) (cSA C 61 k) (cA C) U U.heap ∧ va_T .byte (cSA C 62 k) (stS k).length (fun j => .int ((stS k).getD j 0)) (cA C) U U.heap ∧ vk_R (stQ k).1 (stQ k).2.1 (stQ k).2.2 (cSA C 61 k) U) ∧
  va_X (cSA C 63 0) L xs U U.heap ∧ ¬ cA C (cSA C 63 0)
theorem Sta.move {C : Ctx} {L : Nat} {xs : Nat → Int32} {s U : State} (h : Sta C L xs s) (hq : ∀ q : Nat, q < s.heap.size → ¬ cA C q → U.heap[q]? = s.heap[q]?) (hW : s.WarmedH U.vm) : Sta C L xs U := by
  obtain ⟨h1, h2, h3, h4, h5, h6, h7, h8, h9, h10⟩ := h
  have hv := hW.alike
  refine ⟨h1.moved hv, fun w hw => ?_, h3.moved hv, fun k hk => ⟨((h4 k hk).1.kept hq).moved hv, ((h4 k hk).2.kept hq).moved hv⟩, fun k hk => ⟨((h5 k hk).1.kept hq).moved hv, ((h5 k hk).2.kept hq).moved hv⟩, (h6.kept hq).moved hv, ⟨(h7.1.kept hq).moved hv, h7.2⟩, fun k hk => ?_, ?_, h10⟩
  · have h0 := h2 w hw
    have hn := (List.mem_filter.mp hw).2
    cases w <;> simp only [isNest] at hn <;> first | exact absurd hn (by decide) | exact va_Nw.warmF hW h0 | exact va_Nw.warmM hW h0
  · obtain ⟨a, b, c, d, e⟩ := h8 k hk
    exact ⟨(a.kept hq).moved hv, (b.kept hq).moved hv, (c.kept hq).moved hv, (d.kept hq).moved hv, e.warm hW⟩
  · obtain ⟨scr, a, b, c⟩ := h9
    have hl := (Array.getElem?_eq_some_iff.mp a).1
    exact va_X.moved hv ⟨scr, by rw [hq _ hl h10]; exact a, b, c⟩
