section
variable {p : Program} {l : Launch} {e : Env} {R : Room} {s : State} {m : MethodId} {args : Array Value} {below : List Frame} {meth : Method} {c : Code} {H : Heap} {locs : List Loc} {cells slots : Nat} {Q : State → Prop}
variable {cc : ByteArray} {pc nL : Nat} {ls : Array Slot} {rest : List Value} {D : va_G} {cA : Nat → ClassId} {A : Nat → Prop} {a : Nat} {h : Hp}
theorem gf_X11_110 (cx : CallFix p m c cc nL s args tbG RX11) (hB : hp_B D cA A s h H locs) (hka : h.1 a = 12) {b : Nat} (ho : h.2.2.2.1 a 50 = some b) (hdg : decode cc pc = .ok (.getfield 110, 3)) (kk : W p l e R s m args below meth c H locs cells slots Q (F0 m (pc + 3) ls (.ref b :: rest))) : W p l e R s m args below meth c H locs cells slots Q (F0 m pc ls (.ref a :: rest)) :=
  hp_getR cx hB (ci := 11) 50 rfl inX11 (by decide) rfl (by decide) rfl qw_782 hka (o := some b) ho.symm hdg kk
end
abbrev yX11_arrange : MethodName := ⟨"SpokenMenusModel", "arrange", "(I)I"⟩
theorem dX11_arrange_0 : decode prog_13_method_50_code 0 = .ok (.aload_n 0, 1) := by decide +kernel
theorem dX11_arrange_1 : decode prog_13_method_50_code 1 = .ok (.iload_n 1, 1) := by decide +kernel
theorem dX11_arrange_2 : decode prog_13_method_50_code 2 = .ok (.invokevirtual 145, 3) := by decide +kernel
theorem dX11_arrange_5 : decode prog_13_method_50_code 5 = .ok (.ifCond .ne 5, 3) := by decide +kernel
theorem dX11_arrange_8 : decode prog_13_method_50_code 8 = .ok (.iconst (-1), 1) := by decide +kernel
theorem dX11_arrange_9 : decode prog_13_method_50_code 9 = .ok (.ireturn, 1) := by decide +kernel
theorem dX11_arrange_10 : decode prog_13_method_50_code 10 = .ok (.aload_n 0, 1) := by decide +kernel
theorem dX11_arrange_11 : decode prog_13_method_50_code 11 = .ok (.iload_n 1, 1) := by decide +kernel
theorem dX11_arrange_12 : decode prog_13_method_50_code 12 = .ok (.invokevirtual 270, 3) := by decide +kernel
theorem dX11_arrange_15 : decode prog_13_method_50_code 15 = .ok (.iconst 0, 1) := by decide +kernel
theorem dX11_arrange_16 : decode prog_13_method_50_code 16 = .ok (.istore_n 2, 1) := by decide +kernel
theorem dX11_arrange_17 : decode prog_13_method_50_code 17 = .ok (.iload_n 2, 1) := by decide +kernel
theorem dX11_arrange_18 : decode prog_13_method_50_code 18 = .ok (.aload_n 0, 1) := by decide +kernel
theorem dX11_arrange_19 : decode prog_13_method_50_code 19 = .ok (.getfield 37, 3) := by decide +kernel
theorem dX11_arrange_22 : decode prog_13_method_50_code 22 = .ok (.iload_n 1, 1) := by decide +kernel
theorem dX11_arrange_23 : decode prog_13_method_50_code 23 = .ok (.iaload, 1) := by decide +kernel
theorem dX11_arrange_24 : decode prog_13_method_50_code 24 = .ok (.if_icmp .ge 78, 3) := by decide +kernel
theorem dX11_arrange_27 : decode prog_13_method_50_code 27 = .ok (.bipush 6, 2) := by decide +kernel
theorem dX11_arrange_29 : decode prog_13_method_50_code 29 = .ok (.iload_n 1, 1) := by decide +kernel
theorem dX11_arrange_30 : decode prog_13_method_50_code 30 = .ok (.imul, 1) := by decide +kernel
theorem dX11_arrange_31 : decode prog_13_method_50_code 31 = .ok (.aload_n 0, 1) := by decide +kernel
theorem dX11_arrange_32 : decode prog_13_method_50_code 32 = .ok (.getfield 107, 3) := by decide +kernel
theorem dX11_arrange_35 : decode prog_13_method_50_code 35 = .ok (.iload_n 2, 1) := by decide +kernel
theorem dX11_arrange_36 : decode prog_13_method_50_code 36 = .ok (.iaload, 1) := by decide +kernel
theorem dX11_arrange_37 : decode prog_13_method_50_code 37 = .ok (.iadd, 1) := by decide +kernel
theorem dX11_arrange_38 : decode prog_13_method_50_code 38 = .ok (.istore_n 3, 1) := by decide +kernel
theorem dX11_arrange_39 : decode prog_13_method_50_code 39 = .ok (.aload_n 0, 1) := by decide +kernel
theorem dX11_arrange_40 : decode prog_13_method_50_code 40 = .ok (.getfield 110, 3) := by decide +kernel
theorem dX11_arrange_43 : decode prog_13_method_50_code 43 = .ok (.iload_n 2, 1) := by decide +kernel
theorem dX11_arrange_44 : decode prog_13_method_50_code 44 = .ok (.aload_n 0, 1) := by decide +kernel
theorem dX11_arrange_45 : decode prog_13_method_50_code 45 = .ok (.getfield 40, 3) := by decide +kernel
theorem dX11_arrange_48 : decode prog_13_method_50_code 48 = .ok (.iload_n 3, 1) := by decide +kernel
theorem dX11_arrange_49 : decode prog_13_method_50_code 49 = .ok (.iaload, 1) := by decide +kernel
theorem dX11_arrange_50 : decode prog_13_method_50_code 50 = .ok (.iastore, 1) := by decide +kernel
theorem dX11_arrange_51 : decode prog_13_method_50_code 51 = .ok (.aload_n 0, 1) := by decide +kernel
theorem dX11_arrange_52 : decode prog_13_method_50_code 52 = .ok (.getfield 110, 3) := by decide +kernel
theorem dX11_arrange_55 : decode prog_13_method_50_code 55 = .ok (.bipush 6, 2) := by decide +kernel
theorem dX11_arrange_57 : decode prog_13_method_50_code 57 = .ok (.iload_n 2, 1) := by decide +kernel
theorem dX11_arrange_58 : decode prog_13_method_50_code 58 = .ok (.iadd, 1) := by decide +kernel
theorem dX11_arrange_59 : decode prog_13_method_50_code 59 = .ok (.aload_n 0, 1) := by decide +kernel
theorem dX11_arrange_60 : decode prog_13_method_50_code 60 = .ok (.getfield 43, 3) := by decide +kernel
theorem dX11_arrange_63 : decode prog_13_method_50_code 63 = .ok (.iload_n 3, 1) := by decide +kernel
theorem dX11_arrange_64 : decode prog_13_method_50_code 64 = .ok (.iaload, 1) := by decide +kernel
theorem dX11_arrange_65 : decode prog_13_method_50_code 65 = .ok (.iastore, 1) := by decide +kernel
theorem dX11_arrange_66 : decode prog_13_method_50_code 66 = .ok (.aload_n 0, 1) := by decide +kernel
theorem dX11_arrange_67 : decode prog_13_method_50_code 67 = .ok (.getfield 110, 3) := by decide +kernel
theorem dX11_arrange_70 : decode prog_13_method_50_code 70 = .ok (.bipush 12, 2) := by decide +kernel
theorem dX11_arrange_72 : decode prog_13_method_50_code 72 = .ok (.iload_n 2, 1) := by decide +kernel
theorem dX11_arrange_73 : decode prog_13_method_50_code 73 = .ok (.iadd, 1) := by decide +kernel
theorem dX11_arrange_74 : decode prog_13_method_50_code 74 = .ok (.aload_n 0, 1) := by decide +kernel
theorem dX11_arrange_75 : decode prog_13_method_50_code 75 = .ok (.getfield 46, 3) := by decide +kernel
theorem dX11_arrange_78 : decode prog_13_method_50_code 78 = .ok (.iload_n 3, 1) := by decide +kernel
theorem dX11_arrange_79 : decode prog_13_method_50_code 79 = .ok (.iaload, 1) := by decide +kernel
theorem dX11_arrange_80 : decode prog_13_method_50_code 80 = .ok (.iastore, 1) := by decide +kernel
theorem dX11_arrange_81 : decode prog_13_method_50_code 81 = .ok (.aload_n 0, 1) := by decide +kernel
theorem dX11_arrange_82 : decode prog_13_method_50_code 82 = .ok (.getfield 110, 3) := by decide +kernel
theorem dX11_arrange_85 : decode prog_13_method_50_code 85 = .ok (.bipush 18, 2) := by decide +kernel
theorem dX11_arrange_87 : decode prog_13_method_50_code 87 = .ok (.iload_n 2, 1) := by decide +kernel
theorem dX11_arrange_88 : decode prog_13_method_50_code 88 = .ok (.iadd, 1) := by decide +kernel
theorem dX11_arrange_89 : decode prog_13_method_50_code 89 = .ok (.aload_n 0, 1) := by decide +kernel
theorem dX11_arrange_90 : decode prog_13_method_50_code 90 = .ok (.getfield 49, 3) := by decide +kernel
theorem dX11_arrange_93 : decode prog_13_method_50_code 93 = .ok (.iload_n 3, 1) := by decide +kernel
theorem dX11_arrange_94 : decode prog_13_method_50_code 94 = .ok (.iaload, 1) := by decide +kernel
theorem dX11_arrange_95 : decode prog_13_method_50_code 95 = .ok (.iastore, 1) := by decide +kernel
theorem dX11_arrange_96 : decode prog_13_method_50_code 96 = .ok (.iinc 2 1, 3) := by decide +kernel
theorem dX11_arrange_99 : decode prog_13_method_50_code 99 = .ok (.goto (-82), 3) := by decide +kernel
theorem dX11_arrange_102 : decode prog_13_method_50_code 102 = .ok (.iconst 0, 1) := by decide +kernel
theorem dX11_arrange_103 : decode prog_13_method_50_code 103 = .ok (.istore_n 2, 1) := by decide +kernel
theorem dX11_arrange_104 : decode prog_13_method_50_code 104 = .ok (.iload_n 2, 1) := by decide +kernel
theorem dX11_arrange_105 : decode prog_13_method_50_code 105 = .ok (.aload_n 0, 1) := by decide +kernel
theorem dX11_arrange_106 : decode prog_13_method_50_code 106 = .ok (.getfield 37, 3) := by decide +kernel
theorem dX11_arrange_109 : decode prog_13_method_50_code 109 = .ok (.iload_n 1, 1) := by decide +kernel
theorem dX11_arrange_110 : decode prog_13_method_50_code 110 = .ok (.iaload, 1) := by decide +kernel
theorem dX11_arrange_111 : decode prog_13_method_50_code 111 = .ok (.if_icmp .ge 86, 3) := by decide +kernel
theorem dX11_arrange_114 : decode prog_13_method_50_code 114 = .ok (.aload_n 0, 1) := by decide +kernel
theorem dX11_arrange_115 : decode prog_13_method_50_code 115 = .ok (.getfield 40, 3) := by decide +kernel
theorem dX11_arrange_118 : decode prog_13_method_50_code 118 = .ok (.bipush 6, 2) := by decide +kernel
theorem dX11_arrange_120 : decode prog_13_method_50_code 120 = .ok (.iload_n 1, 1) := by decide +kernel
theorem dX11_arrange_121 : decode prog_13_method_50_code 121 = .ok (.imul, 1) := by decide +kernel
theorem dX11_arrange_122 : decode prog_13_method_50_code 122 = .ok (.iload_n 2, 1) := by decide +kernel
theorem dX11_arrange_123 : decode prog_13_method_50_code 123 = .ok (.iadd, 1) := by decide +kernel
theorem dX11_arrange_124 : decode prog_13_method_50_code 124 = .ok (.aload_n 0, 1) := by decide +kernel
theorem dX11_arrange_125 : decode prog_13_method_50_code 125 = .ok (.getfield 110, 3) := by decide +kernel
theorem dX11_arrange_128 : decode prog_13_method_50_code 128 = .ok (.iload_n 2, 1) := by decide +kernel
theorem dX11_arrange_129 : decode prog_13_method_50_code 129 = .ok (.iaload, 1) := by decide +kernel
theorem dX11_arrange_130 : decode prog_13_method_50_code 130 = .ok (.iastore, 1) := by decide +kernel
theorem dX11_arrange_131 : decode prog_13_method_50_code 131 = .ok (.aload_n 0, 1) := by decide +kernel
theorem dX11_arrange_132 : decode prog_13_method_50_code 132 = .ok (.getfield 43, 3) := by decide +kernel
theorem dX11_arrange_135 : decode prog_13_method_50_code 135 = .ok (.bipush 6, 2) := by decide +kernel
theorem dX11_arrange_137 : decode prog_13_method_50_code 137 = .ok (.iload_n 1, 1) := by decide +kernel
theorem dX11_arrange_138 : decode prog_13_method_50_code 138 = .ok (.imul, 1) := by decide +kernel
theorem dX11_arrange_139 : decode prog_13_method_50_code 139 = .ok (.iload_n 2, 1) := by decide +kernel
theorem dX11_arrange_140 : decode prog_13_method_50_code 140 = .ok (.iadd, 1) := by decide +kernel
theorem dX11_arrange_141 : decode prog_13_method_50_code 141 = .ok (.aload_n 0, 1) := by decide +kernel
theorem dX11_arrange_142 : decode prog_13_method_50_code 142 = .ok (.getfield 110, 3) := by decide +kernel
theorem dX11_arrange_145 : decode prog_13_method_50_code 145 = .ok (.bipush 6, 2) := by decide +kernel
theorem dX11_arrange_147 : decode prog_13_method_50_code 147 = .ok (.iload_n 2, 1) := by decide +kernel
theorem dX11_arrange_148 : decode prog_13_method_50_code 148 = .ok (.iadd, 1) := by decide +kernel
theorem dX11_arrange_149 : decode prog_13_method_50_code 149 = .ok (.iaload, 1) := by decide +kernel
theorem dX11_arrange_150 : decode prog_13_method_50_code 150 = .ok (.iastore, 1) := by decide +kernel
theorem dX11_arrange_151 : decode prog_13_method_50_code 151 = .ok (.aload_n 0, 1) := by decide +kernel
theorem dX11_arrange_152 : decode prog_13_method_50_code 152 = .ok (.getfield 46, 3) := by decide +kernel
theorem dX11_arrange_155 : decode prog_13_method_50_code 155 = .ok (.bipush 6, 2) := by decide +kernel
theorem dX11_arrange_157 : decode prog_13_method_50_code 157 = .ok (.iload_n 1, 1) := by decide +kernel
theorem dX11_arrange_158 : decode prog_13_method_50_code 158 = .ok (.imul, 1) := by decide +kernel
theorem dX11_arrange_159 : decode prog_13_method_50_code 159 = .ok (.iload_n 2, 1) := by decide +kernel
theorem dX11_arrange_160 : decode prog_13_method_50_code 160 = .ok (.iadd, 1) := by decide +kernel
theorem dX11_arrange_161 : decode prog_13_method_50_code 161 = .ok (.aload_n 0, 1) := by decide +kernel
theorem dX11_arrange_162 : decode prog_13_method_50_code 162 = .ok (.getfield 110, 3) := by decide +kernel
theorem dX11_arrange_165 : decode prog_13_method_50_code 165 = .ok (.bipush 12, 2) := by decide +kernel
theorem dX11_arrange_167 : decode prog_13_method_50_code 167 = .ok (.iload_n 2, 1) := by decide +kernel
theorem dX11_arrange_168 : decode prog_13_method_50_code 168 = .ok (.iadd, 1) := by decide +kernel
theorem dX11_arrange_169 : decode prog_13_method_50_code 169 = .ok (.iaload, 1) := by decide +kernel
theorem dX11_arrange_170 : decode prog_13_method_50_code 170 = .ok (.iastore, 1) := by decide +kernel
theorem dX11_arrange_171 : decode prog_13_method_50_code 171 = .ok (.aload_n 0, 1) := by decide +kernel
theorem dX11_arrange_172 : decode prog_13_method_50_code 172 = .ok (.getfield 49, 3) := by decide +kernel
theorem dX11_arrange_175 : decode prog_13_method_50_code 175 = .ok (.bipush 6, 2) := by decide +kernel
theorem dX11_arrange_177 : decode prog_13_method_50_code 177 = .ok (.iload_n 1, 1) := by decide +kernel
theorem dX11_arrange_178 : decode prog_13_method_50_code 178 = .ok (.imul, 1) := by decide +kernel
theorem dX11_arrange_179 : decode prog_13_method_50_code 179 = .ok (.iload_n 2, 1) := by decide +kernel
theorem dX11_arrange_180 : decode prog_13_method_50_code 180 = .ok (.iadd, 1) := by decide +kernel
theorem dX11_arrange_181 : decode prog_13_method_50_code 181 = .ok (.aload_n 0, 1) := by decide +kernel
theorem dX11_arrange_182 : decode prog_13_method_50_code 182 = .ok (.getfield 110, 3) := by decide +kernel
theorem dX11_arrange_185 : decode prog_13_method_50_code 185 = .ok (.bipush 18, 2) := by decide +kernel
theorem dX11_arrange_187 : decode prog_13_method_50_code 187 = .ok (.iload_n 2, 1) := by decide +kernel
theorem dX11_arrange_188 : decode prog_13_method_50_code 188 = .ok (.iadd, 1) := by decide +kernel
theorem dX11_arrange_189 : decode prog_13_method_50_code 189 = .ok (.iaload, 1) := by decide +kernel
theorem dX11_arrange_190 : decode prog_13_method_50_code 190 = .ok (.iastore, 1) := by decide +kernel
theorem dX11_arrange_191 : decode prog_13_method_50_code 191 = .ok (.iinc 2 1, 3) := by decide +kernel
theorem dX11_arrange_194 : decode prog_13_method_50_code 194 = .ok (.goto (-90), 3) := by decide +kernel
theorem dX11_arrange_197 : decode prog_13_method_50_code 197 = .ok (.iconst 0, 1) := by decide +kernel
theorem dX11_arrange_198 : decode prog_13_method_50_code 198 = .ok (.ireturn, 1) := by decide +kernel
abbrev rmX11_arrange : Room := { frames := 9, cells := 0, slots := 0, locals := 209 }
def bX11_arrange_104  (rc : Nat → Int32 → Int32 → Hp → Option (Int32 × Hp)) (t0 : Nat) (v1 : Int32) (v2 : Int32) (h : Hp) : Option (Int32 × Hp) :=
  gk (h.1 t0) 12 <|
  bd (h.2.2.2.1 t0 10) fun a2 =>
  gk (h.1 a2) 13 <|
  gd (ix v1 (h.2.1 a2)) <|
  if (h.2.2.1 a2 (Int32.toNatClampNeg v1)) ≤ v2 then
  (some (0, h))
  else
  (bd (h.2.2.2.1 t0 11) fun a7 =>
  bd (h.2.2.2.1 t0 50) fun a9 =>
  gk (h.1 a9) 13 <|
  gd (ix v2 (h.2.1 a9)) <|
  gk (h.1 a7) 13 <|
  gd (ix ((6 * v1) + v2) (h.2.1 a7)) <|
  nm (hp_si h a7 (Int32.toNatClampNeg ((6 * v1) + v2)) (h.2.2.1 a9 (Int32.toNatClampNeg v2))) fun g15 =>
  bd (g15.2.2.2.1 t0 12) fun a17 =>
  gd (ix (6 + v2) (g15.2.1 a9)) <|
  gk (g15.1 a17) 13 <|
  gd (ix ((6 * v1) + v2) (g15.2.1 a17)) <|
  nm (hp_si g15 a17 (Int32.toNatClampNeg ((6 * v1) + v2)) (g15.2.2.1 a9 (Int32.toNatClampNeg (6 + v2)))) fun g24 =>
  bd (g24.2.2.2.1 t0 13) fun a26 =>
  gd (ix (12 + v2) (g24.2.1 a9)) <|
  gk (g24.1 a26) 13 <|
  gd (ix ((6 * v1) + v2) (g24.2.1 a26)) <|
  nm (hp_si g24 a26 (Int32.toNatClampNeg ((6 * v1) + v2)) (g24.2.2.1 a9 (Int32.toNatClampNeg (12 + v2)))) fun g33 =>
  bd (g33.2.2.2.1 t0 14) fun a35 =>
  gd (ix (18 + v2) (g33.2.1 a9)) <|
  gk (g33.1 a35) 13 <|
  gd (ix ((6 * v1) + v2) (g33.2.1 a35)) <|
  nm (hp_si g33 a35 (Int32.toNatClampNeg ((6 * v1) + v2)) (g33.2.2.1 a9 (Int32.toNatClampNeg (18 + v2)))) fun g42 =>
  nm (v2 + 1) fun x43 =>
  rc t0 v1 x43 g42)
def fX11_arrange_104  : Nat → Int32 → Int32 → Hp → Option (Int32 × Hp) := fx (bX11_arrange_104 ) (fun _ _ _ _ => none) NF
def bX11_arrange_17  (rc : Nat → Int32 → Int32 → Hp → Option (Int32 × Hp)) (t0 : Nat) (v1 : Int32) (v2 : Int32) (h : Hp) : Option (Int32 × Hp) :=
  gk (h.1 t0) 12 <|
  bd (h.2.2.2.1 t0 10) fun a2 =>
  gk (h.1 a2) 13 <|
  gd (ix v1 (h.2.1 a2)) <|
  if (h.2.2.1 a2 (Int32.toNatClampNeg v1)) ≤ v2 then
  (fX11_arrange_104  t0 v1 0 h)
  else
  (bd (h.2.2.2.1 t0 49) fun a7 =>
  gk (h.1 a7) 13 <|
  gd (ix v2 (h.2.1 a7)) <|
  nm ((6 * v1) + (h.2.2.1 a7 (Int32.toNatClampNeg v2))) fun x11 =>
  bd (h.2.2.2.1 t0 50) fun a12 =>
  bd (h.2.2.2.1 t0 11) fun a14 =>
  gk (h.1 a14) 13 <|
  gd (ix x11 (h.2.1 a14)) <|
  gk (h.1 a12) 13 <|
  gd (ix v2 (h.2.1 a12)) <|
  nm (hp_si h a12 (Int32.toNatClampNeg v2) (h.2.2.1 a14 (Int32.toNatClampNeg x11))) fun g20 =>
  bd (g20.2.2.2.1 t0 12) fun a23 =>
  gk (g20.1 a23) 13 <|
  gd (ix x11 (g20.2.1 a23)) <|
  gd (ix (6 + v2) (g20.2.1 a12)) <|
  nm (hp_si g20 a12 (Int32.toNatClampNeg (6 + v2)) (g20.2.2.1 a23 (Int32.toNatClampNeg x11))) fun g29 =>
  bd (g29.2.2.2.1 t0 13) fun a32 =>
  gk (g29.1 a32) 13 <|
  gd (ix x11 (g29.2.1 a32)) <|
  gd (ix (12 + v2) (g29.2.1 a12)) <|
  nm (hp_si g29 a12 (Int32.toNatClampNeg (12 + v2)) (g29.2.2.1 a32 (Int32.toNatClampNeg x11))) fun g38 =>
  bd (g38.2.2.2.1 t0 14) fun a41 =>
  gk (g38.1 a41) 13 <|
  gd (ix x11 (g38.2.1 a41)) <|
  gd (ix (18 + v2) (g38.2.1 a12)) <|
  nm (hp_si g38 a12 (Int32.toNatClampNeg (18 + v2)) (g38.2.2.1 a41 (Int32.toNatClampNeg x11))) fun g47 =>
  nm (v2 + 1) fun x48 =>
  rc t0 v1 x48 g47)
def fX11_arrange_17  : Nat → Int32 → Int32 → Hp → Option (Int32 × Hp) := fx (bX11_arrange_17 ) (fun _ _ _ _ => none) NF
def fX11_arrange  (t0 : Nat) (v1 : Int32) (h : Hp) : Option (Int32 × Hp) :=
  gk (h.1 t0) 12 <|
  b2 (fX11_isMenu t0 v1 h) fun r4 g2 =>
  if r4 = 0 then
  (some ((-1), g2))
  else
  (gk (g2.1 t0) 12 <|
  b2 (fX11_layOrder t0 v1 g2) fun _ g8 =>
  fX11_arrange_17  t0 v1 0 g8)
section
variable {p : Program} {l : Launch} {e : Env} {s : State} {m : MethodId} {args : Array Value} {below : List Frame} {meth : Method} {c : Code} {D : va_G} {cA : Nat → ClassId} {h0 h9 : Hp}
set_option maxHeartbeats 4000000 in
set_option maxRecDepth 100000 in
theorem tX11_arrange_104  {r : Int32} (cx : CallFix p m c prog_13_method_50_code 4 s args tbG RX11) (hr : meth.sig.returnType = (Option.some FieldType.int)) (hlk : meth.locks = false)  (n : Nat) : ∀ (t0 : Nat) (v1 : Int32) (v2 : Int32) (h : Hp) (H : Heap) (locs : List Loc) (ls : Array Slot), hp_B D cA (hp_A h0) s h H locs → lv_has ls 4 [(0, .ref t0), (1, .int v1), (2, .int v2)] → fx (bX11_arrange_104 ) (fun _ _ _ _ => none) n t0 v1 v2 h = some (r, h9) → W p l e rmX11_arrange s m args below meth c H locs 0 0 (MQ below (hp_Qi D cA h0 h9 r) args s 0 0 (hp_A h0)) (F0 m 104 ls []) := by
  obtain ⟨hx, hb, -⟩ := id cx
  induction n with
  | zero => intro t0 v1 v2 h H locs ls hB hl hf; cases hf
  | succ n ih =>
    intro t0 v1 v2 h H locs ls hB hl hf
    replace hf : bX11_arrange_104  (fx (bX11_arrange_104 ) (fun _ _ _ _ => none) n) t0 v1 v2 h = some (r, h9) := hf
    unfold bX11_arrange_104 at hf
    refine lv_iload_n hx hb dX11_arrange_104 rfl (lv_at hl 2 rfl) ?_
    refine lv_aload_n hx hb dX11_arrange_105 rfl (lv_at hl 0 rfl) ?_
    obtain ⟨k1, hf⟩ := gk_ok hf
    obtain ⟨a2, q3, hf⟩ := bd_ok hf
    refine gf_X11_37 cx hB k1 q3 dX11_arrange_106 ?_
    refine lv_iload_n hx hb dX11_arrange_109 rfl (lv_at hl 1 rfl) ?_
    obtain ⟨k4, hf⟩ := gk_ok hf
    obtain ⟨j5, hf⟩ := gd_ok hf
    refine hp_iald cx hB k4 j5 dX11_arrange_110 ?_
    refine lv_icmp_ge (tgt := 197) hx hb dX11_arrange_111 (by decide) (fun c6 => ?_) (fun c6 => ?_)
    · replace hf := it_t c6 hf
      refine lv_iconst (v := 0) hx hb dX11_arrange_197 (by decide) ?_
      obtain ⟨rfl, rfl⟩ := rt_ok hf
      exact hp_iret cx hB hr hlk (Nat.le_of_ble_eq_true rfl) (Nat.le_of_ble_eq_true rfl) dX11_arrange_198
    · replace hf := it_f c6 hf
      refine lv_aload_n hx hb dX11_arrange_114 rfl (lv_at hl 0 rfl) ?_
      obtain ⟨a7, q8, hf⟩ := bd_ok hf
      refine gf_X11_40 cx hB k1 q8 dX11_arrange_115 ?_
      refine lv_bipush (v := 6) hx hb dX11_arrange_118 (by decide) ?_
      refine lv_iload_n hx hb dX11_arrange_120 rfl (lv_at hl 1 rfl) ?_
      refine lv_imul hx hb dX11_arrange_121 ?_
      refine lv_iload_n hx hb dX11_arrange_122 rfl (lv_at hl 2 rfl) ?_
      refine lv_iadd hx hb dX11_arrange_123 ?_
      refine lv_aload_n hx hb dX11_arrange_124 rfl (lv_at hl 0 rfl) ?_
      obtain ⟨a9, q10, hf⟩ := bd_ok hf
      refine gf_X11_110 cx hB k1 q10 dX11_arrange_125 ?_
      refine lv_iload_n hx hb dX11_arrange_128 rfl (lv_at hl 2 rfl) ?_
      obtain ⟨k11, hf⟩ := gk_ok hf
      obtain ⟨j12, hf⟩ := gd_ok hf
      refine hp_iald cx hB k11 j12 dX11_arrange_129 ?_
      obtain ⟨k13, hf⟩ := gk_ok hf
      obtain ⟨j14, hf⟩ := gd_ok hf
      obtain ⟨g15, eg15, hf⟩ := nm_ok hf
      refine hp_iast cx hB k13 j14 dX11_arrange_130 (fun H locs hB => ?_)
      rw [← eg15] at hB
      refine lv_aload_n hx hb dX11_arrange_131 rfl (lv_at hl 0 rfl) ?_
      have k16 : g15.1 t0 = 12 := by rw [eg15]; exact k1
      obtain ⟨a17, q18, hf⟩ := bd_ok hf
      refine gf_X11_43 cx hB k16 q18 dX11_arrange_132 ?_
      refine lv_bipush (v := 6) hx hb dX11_arrange_135 (by decide) ?_
      refine lv_iload_n hx hb dX11_arrange_137 rfl (lv_at hl 1 rfl) ?_
      refine lv_imul hx hb dX11_arrange_138 ?_
      refine lv_iload_n hx hb dX11_arrange_139 rfl (lv_at hl 2 rfl) ?_
      refine lv_iadd hx hb dX11_arrange_140 ?_
      refine lv_aload_n hx hb dX11_arrange_141 rfl (lv_at hl 0 rfl) ?_
      have q19 : g15.2.2.2.1 t0 50 = some a9 := by rw [eg15]; exact q10
      refine gf_X11_110 cx hB k16 q19 dX11_arrange_142 ?_
      refine lv_bipush (v := 6) hx hb dX11_arrange_145 (by decide) ?_
      refine lv_iload_n hx hb dX11_arrange_147 rfl (lv_at hl 2 rfl) ?_
      refine lv_iadd hx hb dX11_arrange_148 ?_
      have k20 : g15.1 a9 = 13 := by rw [eg15]; exact k11
      obtain ⟨j21, hf⟩ := gd_ok hf
      refine hp_iald cx hB k20 j21 dX11_arrange_149 ?_
      obtain ⟨k22, hf⟩ := gk_ok hf
      obtain ⟨j23, hf⟩ := gd_ok hf
      obtain ⟨g24, eg24, hf⟩ := nm_ok hf
      refine hp_iast cx hB k22 j23 dX11_arrange_150 (fun H locs hB => ?_)
      rw [← eg24] at hB
      refine lv_aload_n hx hb dX11_arrange_151 rfl (lv_at hl 0 rfl) ?_
      have k25 : g24.1 t0 = 12 := by rw [eg24]; exact k16
      obtain ⟨a26, q27, hf⟩ := bd_ok hf
      refine gf_X11_46 cx hB k25 q27 dX11_arrange_152 ?_
      refine lv_bipush (v := 6) hx hb dX11_arrange_155 (by decide) ?_
      refine lv_iload_n hx hb dX11_arrange_157 rfl (lv_at hl 1 rfl) ?_
      refine lv_imul hx hb dX11_arrange_158 ?_
      refine lv_iload_n hx hb dX11_arrange_159 rfl (lv_at hl 2 rfl) ?_
      refine lv_iadd hx hb dX11_arrange_160 ?_
      refine lv_aload_n hx hb dX11_arrange_161 rfl (lv_at hl 0 rfl) ?_
      have q28 : g24.2.2.2.1 t0 50 = some a9 := by rw [eg24]; exact q19
      refine gf_X11_110 cx hB k25 q28 dX11_arrange_162 ?_
      refine lv_bipush (v := 12) hx hb dX11_arrange_165 (by decide) ?_
      refine lv_iload_n hx hb dX11_arrange_167 rfl (lv_at hl 2 rfl) ?_
      refine lv_iadd hx hb dX11_arrange_168 ?_
      have k29 : g24.1 a9 = 13 := by rw [eg24]; exact k20
      obtain ⟨j30, hf⟩ := gd_ok hf
      refine hp_iald cx hB k29 j30 dX11_arrange_169 ?_
      obtain ⟨k31, hf⟩ := gk_ok hf
      obtain ⟨j32, hf⟩ := gd_ok hf
      obtain ⟨g33, eg33, hf⟩ := nm_ok hf
      refine hp_iast cx hB k31 j32 dX11_arrange_170 (fun H locs hB => ?_)
      rw [← eg33] at hB
      refine lv_aload_n hx hb dX11_arrange_171 rfl (lv_at hl 0 rfl) ?_
      have k34 : g33.1 t0 = 12 := by rw [eg33]; exact k25
      obtain ⟨a35, q36, hf⟩ := bd_ok hf
      refine gf_X11_49 cx hB k34 q36 dX11_arrange_172 ?_
      refine lv_bipush (v := 6) hx hb dX11_arrange_175 (by decide) ?_
      refine lv_iload_n hx hb dX11_arrange_177 rfl (lv_at hl 1 rfl) ?_
      refine lv_imul hx hb dX11_arrange_178 ?_
      refine lv_iload_n hx hb dX11_arrange_179 rfl (lv_at hl 2 rfl) ?_
      refine lv_iadd hx hb dX11_arrange_180 ?_
      refine lv_aload_n hx hb dX11_arrange_181 rfl (lv_at hl 0 rfl) ?_
      have q37 : g33.2.2.2.1 t0 50 = some a9 := by rw [eg33]; exact q28
      refine gf_X11_110 cx hB k34 q37 dX11_arrange_182 ?_
      refine lv_bipush (v := 18) hx hb dX11_arrange_185 (by decide) ?_
      refine lv_iload_n hx hb dX11_arrange_187 rfl (lv_at hl 2 rfl) ?_
      refine lv_iadd hx hb dX11_arrange_188 ?_
      have k38 : g33.1 a9 = 13 := by rw [eg33]; exact k29
      obtain ⟨j39, hf⟩ := gd_ok hf
      refine hp_iald cx hB k38 j39 dX11_arrange_189 ?_
      obtain ⟨k40, hf⟩ := gk_ok hf
      obtain ⟨j41, hf⟩ := gd_ok hf
      obtain ⟨g42, eg42, hf⟩ := nm_ok hf
      refine hp_iast cx hB k40 j41 dX11_arrange_190 (fun H locs hB => ?_)
      rw [← eg42] at hB
      obtain ⟨x43, ex43, hf⟩ := nm_ok hf
      refine lv_iinc (v := x43) (lv' := [(2, .int x43), (0, .ref t0), (1, .int v1)]) hx hb dX11_arrange_191 hl (k := 2) rfl (by rw [ex43]; rfl) (by decide) rfl (fun ls hl => ?_)
      refine lv_goto (tgt := 104) hx hb dX11_arrange_194 (by decide) ?_
      exact ih t0 v1 x43 g42 _ _ _ hB (lv_sub hl [1, 2, 0] rfl) hf
set_option maxHeartbeats 4000000 in
set_option maxRecDepth 100000 in
theorem tX11_arrange_17  {r : Int32} (cx : CallFix p m c prog_13_method_50_code 4 s args tbG RX11) (hr : meth.sig.returnType = (Option.some FieldType.int)) (hlk : meth.locks = false)  (n : Nat) : ∀ (t0 : Nat) (v1 : Int32) (v2 : Int32) (h : Hp) (H : Heap) (locs : List Loc) (ls : Array Slot), hp_B D cA (hp_A h0) s h H locs → lv_has ls 4 [(0, .ref t0), (1, .int v1), (2, .int v2)] → fx (bX11_arrange_17 ) (fun _ _ _ _ => none) n t0 v1 v2 h = some (r, h9) → W p l e rmX11_arrange s m args below meth c H locs 0 0 (MQ below (hp_Qi D cA h0 h9 r) args s 0 0 (hp_A h0)) (F0 m 17 ls []) := by
  obtain ⟨hx, hb, -⟩ := id cx
  induction n with
  | zero => intro t0 v1 v2 h H locs ls hB hl hf; cases hf
  | succ n ih =>
    intro t0 v1 v2 h H locs ls hB hl hf
    replace hf : bX11_arrange_17  (fx (bX11_arrange_17 ) (fun _ _ _ _ => none) n) t0 v1 v2 h = some (r, h9) := hf
    unfold bX11_arrange_17 at hf
    refine lv_iload_n hx hb dX11_arrange_17 rfl (lv_at hl 2 rfl) ?_
    refine lv_aload_n hx hb dX11_arrange_18 rfl (lv_at hl 0 rfl) ?_
    obtain ⟨k1, hf⟩ := gk_ok hf
    obtain ⟨a2, q3, hf⟩ := bd_ok hf
    refine gf_X11_37 cx hB k1 q3 dX11_arrange_19 ?_
    refine lv_iload_n hx hb dX11_arrange_22 rfl (lv_at hl 1 rfl) ?_
    obtain ⟨k4, hf⟩ := gk_ok hf
    obtain ⟨j5, hf⟩ := gd_ok hf
    refine hp_iald cx hB k4 j5 dX11_arrange_23 ?_
    refine lv_icmp_ge (tgt := 102) hx hb dX11_arrange_24 (by decide) (fun c6 => ?_) (fun c6 => ?_)
    · replace hf := it_t c6 hf
      refine lv_iconst (v := 0) hx hb dX11_arrange_102 (by decide) ?_
      refine lv_istore_n (lv' := [(2, .int 0), (0, .ref t0), (1, .int v1)]) hx hb dX11_arrange_103 rfl hl (by decide) rfl (fun ls hl => ?_)
      exact tX11_arrange_104 cx hr hlk  NF t0 v1 0 h _ _ _ hB (lv_sub hl [1, 2, 0] rfl) hf
    · replace hf := it_f c6 hf
      refine lv_bipush (v := 6) hx hb dX11_arrange_27 (by decide) ?_
      refine lv_iload_n hx hb dX11_arrange_29 rfl (lv_at hl 1 rfl) ?_
      refine lv_imul hx hb dX11_arrange_30 ?_
      refine lv_aload_n hx hb dX11_arrange_31 rfl (lv_at hl 0 rfl) ?_
      obtain ⟨a7, q8, hf⟩ := bd_ok hf
      refine gf_X11_107 cx hB k1 q8 dX11_arrange_32 ?_
      refine lv_iload_n hx hb dX11_arrange_35 rfl (lv_at hl 2 rfl) ?_
      obtain ⟨k9, hf⟩ := gk_ok hf
      obtain ⟨j10, hf⟩ := gd_ok hf
      refine hp_iald cx hB k9 j10 dX11_arrange_36 ?_
      refine lv_iadd hx hb dX11_arrange_37 ?_
      obtain ⟨x11, ex11, hf⟩ := nm_ok hf
      refine lv_ren ex11 ?_
      refine lv_istore_n (lv' := [(3, .int x11), (0, .ref t0), (1, .int v1), (2, .int v2)]) hx hb dX11_arrange_38 rfl hl (by decide) rfl (fun ls hl => ?_)
      refine lv_aload_n hx hb dX11_arrange_39 rfl (lv_at hl 1 rfl) ?_
      obtain ⟨a12, q13, hf⟩ := bd_ok hf
      refine gf_X11_110 cx hB k1 q13 dX11_arrange_40 ?_
      refine lv_iload_n hx hb dX11_arrange_43 rfl (lv_at hl 3 rfl) ?_
      refine lv_aload_n hx hb dX11_arrange_44 rfl (lv_at hl 1 rfl) ?_
      obtain ⟨a14, q15, hf⟩ := bd_ok hf
      refine gf_X11_40 cx hB k1 q15 dX11_arrange_45 ?_
      refine lv_iload_n hx hb dX11_arrange_48 rfl (lv_at hl 0 rfl) ?_
      obtain ⟨k16, hf⟩ := gk_ok hf
      obtain ⟨j17, hf⟩ := gd_ok hf
      refine hp_iald cx hB k16 j17 dX11_arrange_49 ?_
      obtain ⟨k18, hf⟩ := gk_ok hf
      obtain ⟨j19, hf⟩ := gd_ok hf
      obtain ⟨g20, eg20, hf⟩ := nm_ok hf
      refine hp_iast cx hB k18 j19 dX11_arrange_50 (fun H locs hB => ?_)
      rw [← eg20] at hB
      refine lv_aload_n hx hb dX11_arrange_51 rfl (lv_at hl 1 rfl) ?_
      have k21 : g20.1 t0 = 12 := by rw [eg20]; exact k1
      have q22 : g20.2.2.2.1 t0 50 = some a12 := by rw [eg20]; exact q13
      refine gf_X11_110 cx hB k21 q22 dX11_arrange_52 ?_
      refine lv_bipush (v := 6) hx hb dX11_arrange_55 (by decide) ?_
      refine lv_iload_n hx hb dX11_arrange_57 rfl (lv_at hl 3 rfl) ?_
      refine lv_iadd hx hb dX11_arrange_58 ?_
      refine lv_aload_n hx hb dX11_arrange_59 rfl (lv_at hl 1 rfl) ?_
      obtain ⟨a23, q24, hf⟩ := bd_ok hf
      refine gf_X11_43 cx hB k21 q24 dX11_arrange_60 ?_
      refine lv_iload_n hx hb dX11_arrange_63 rfl (lv_at hl 0 rfl) ?_
      obtain ⟨k25, hf⟩ := gk_ok hf
      obtain ⟨j26, hf⟩ := gd_ok hf
      refine hp_iald cx hB k25 j26 dX11_arrange_64 ?_
      have k27 : g20.1 a12 = 13 := by rw [eg20]; exact k18
      obtain ⟨j28, hf⟩ := gd_ok hf
      obtain ⟨g29, eg29, hf⟩ := nm_ok hf
      refine hp_iast cx hB k27 j28 dX11_arrange_65 (fun H locs hB => ?_)
      rw [← eg29] at hB
      refine lv_aload_n hx hb dX11_arrange_66 rfl (lv_at hl 1 rfl) ?_
      have k30 : g29.1 t0 = 12 := by rw [eg29]; exact k21
      have q31 : g29.2.2.2.1 t0 50 = some a12 := by rw [eg29]; exact q22
      refine gf_X11_110 cx hB k30 q31 dX11_arrange_67 ?_
      refine lv_bipush (v := 12) hx hb dX11_arrange_70 (by decide) ?_
      refine lv_iload_n hx hb dX11_arrange_72 rfl (lv_at hl 3 rfl) ?_
      refine lv_iadd hx hb dX11_arrange_73 ?_
      refine lv_aload_n hx hb dX11_arrange_74 rfl (lv_at hl 1 rfl) ?_
      obtain ⟨a32, q33, hf⟩ := bd_ok hf
      refine gf_X11_46 cx hB k30 q33 dX11_arrange_75 ?_
      refine lv_iload_n hx hb dX11_arrange_78 rfl (lv_at hl 0 rfl) ?_
      obtain ⟨k34, hf⟩ := gk_ok hf
      obtain ⟨j35, hf⟩ := gd_ok hf
      refine hp_iald cx hB k34 j35 dX11_arrange_79 ?_
      have k36 : g29.1 a12 = 13 := by rw [eg29]; exact k27
      obtain ⟨j37, hf⟩ := gd_ok hf
      obtain ⟨g38, eg38, hf⟩ := nm_ok hf
      refine hp_iast cx hB k36 j37 dX11_arrange_80 (fun H locs hB => ?_)
      rw [← eg38] at hB
      refine lv_aload_n hx hb dX11_arrange_81 rfl (lv_at hl 1 rfl) ?_
      have k39 : g38.1 t0 = 12 := by rw [eg38]; exact k30
      have q40 : g38.2.2.2.1 t0 50 = some a12 := by rw [eg38]; exact q31
      refine gf_X11_110 cx hB k39 q40 dX11_arrange_82 ?_
      refine lv_bipush (v := 18) hx hb dX11_arrange_85 (by decide) ?_
      refine lv_iload_n hx hb dX11_arrange_87 rfl (lv_at hl 3 rfl) ?_
      refine lv_iadd hx hb dX11_arrange_88 ?_
      refine lv_aload_n hx hb dX11_arrange_89 rfl (lv_at hl 1 rfl) ?_
      obtain ⟨a41, q42, hf⟩ := bd_ok hf
      refine gf_X11_49 cx hB k39 q42 dX11_arrange_90 ?_
      refine lv_iload_n hx hb dX11_arrange_93 rfl (lv_at hl 0 rfl) ?_
      obtain ⟨k43, hf⟩ := gk_ok hf
      obtain ⟨j44, hf⟩ := gd_ok hf
      refine hp_iald cx hB k43 j44 dX11_arrange_94 ?_
      have k45 : g38.1 a12 = 13 := by rw [eg38]; exact k36
      obtain ⟨j46, hf⟩ := gd_ok hf
      obtain ⟨g47, eg47, hf⟩ := nm_ok hf
      refine hp_iast cx hB k45 j46 dX11_arrange_95 (fun H locs hB => ?_)
      rw [← eg47] at hB
      obtain ⟨x48, ex48, hf⟩ := nm_ok hf
      refine lv_iinc (v := x48) (lv' := [(2, .int x48), (3, .int x11), (0, .ref t0), (1, .int v1)]) hx hb dX11_arrange_96 hl (k := 3) rfl (by rw [ex48]; rfl) (by decide) rfl (fun ls hl => ?_)
      refine lv_goto (tgt := 17) hx hb dX11_arrange_99 (by decide) ?_
      exact ih t0 v1 x48 g47 _ _ _ hB (lv_sub hl [2, 3, 0] rfl) hf
set_option maxHeartbeats 4000000 in
set_option maxRecDepth 100000 in
theorem tX11_arrange_0  {r : Int32} (cx : CallFix p m c prog_13_method_50_code 4 s args tbG RX11) (hr : meth.sig.returnType = (Option.some FieldType.int)) (hlk : meth.locks = false)  (t0 : Nat) (v1 : Int32) (h : Hp) (H : Heap) (locs : List Loc) (ls : Array Slot) (hB : hp_B D cA (hp_A h0) s h H locs) (hl : lv_has ls 4 [(0, .ref t0), (1, .int v1)]) (hf : fX11_arrange  t0 v1 h = some (r, h9)) : W p l e rmX11_arrange s m args below meth c H locs 0 0 (MQ below (hp_Qi D cA h0 h9 r) args s 0 0 (hp_A h0)) (F0 m 0 ls []) := by
  obtain ⟨hx, hb, -⟩ := id cx
  unfold fX11_arrange at hf
  refine lv_aload_n hx hb dX11_arrange_0 rfl (lv_at hl 0 rfl) ?_
  refine lv_iload_n hx hb dX11_arrange_1 rfl (lv_at hl 1 rfl) ?_
  obtain ⟨k1, hf⟩ := gk_ok hf
  obtain ⟨r4, g2, m3, hf⟩ := b2_ok hf
  refine hp_cI0 (cl_X11_145 cx hB (cX11_isMenu l D cA t0 v1 h _ g2 m3) k1 ⟨Nat.le_of_ble_eq_true rfl, Nat.le_of_ble_eq_true rfl⟩ rfl hl.1 rfl (Nat.le_of_ble_eq_true rfl) ⟨Nat.le_of_ble_eq_true rfl, Nat.le_of_ble_eq_true rfl⟩ dX11_arrange_2) rfl rfl hB (fun H locs hB => ?_)
  refine lv_if_ne (tgt := 10) hx hb dX11_arrange_5 (by decide) (fun c6 => ?_) (fun c6 => ?_)
  · replace hf := it_f c6 hf
    refine lv_aload_n hx hb dX11_arrange_10 rfl (lv_at hl 0 rfl) ?_
    refine lv_iload_n hx hb dX11_arrange_11 rfl (lv_at hl 1 rfl) ?_
    obtain ⟨k7, hf⟩ := gk_ok hf
    obtain ⟨uu, g8, m9, hf⟩ := b2_ok hf
    refine hp_cV0 (cl_X11_270 cx hB (cX11_layOrder l D cA t0 v1 g2 _ g8 m9) k7 ⟨Nat.le_of_ble_eq_true rfl, Nat.le_of_ble_eq_true rfl⟩ rfl hl.1 rfl (Nat.le_of_ble_eq_true rfl) ⟨Nat.le_of_ble_eq_true rfl, Nat.le_of_ble_eq_true rfl⟩ dX11_arrange_12) rfl rfl hB (fun H locs hB => ?_)
    refine lv_iconst (v := 0) hx hb dX11_arrange_15 (by decide) ?_
    refine lv_istore_n (lv' := [(2, .int 0), (0, .ref t0), (1, .int v1)]) hx hb dX11_arrange_16 rfl hl (by decide) rfl (fun ls hl => ?_)
    exact tX11_arrange_17 cx hr hlk  NF t0 v1 0 g8 _ _ _ hB (lv_sub hl [1, 2, 0] rfl) hf
  · replace hf := it_t c6 hf
    refine lv_iconst (v := (-1)) hx hb dX11_arrange_8 (by decide) ?_
    obtain ⟨rfl, rfl⟩ := rt_ok hf
    exact hp_iret cx hB hr hlk (Nat.le_of_ble_eq_true rfl) (Nat.le_of_ble_eq_true rfl) dX11_arrange_9
end
set_option maxHeartbeats 4000000 in
set_option maxRecDepth 100000 in
theorem cX11_arrange (l : Launch) (D : va_G) (cA : Nat → ClassId) (t0 : Nat) (v1 : Int32) (h : Hp) (r : Int32) (h9 : Hp) (hf : fX11_arrange t0 v1 h = some (r, h9)) : hp_M l yX11_arrange prog_13_method_50_code 4 (Option.some FieldType.int) rmX11_arrange D cA h [.ref t0, .int v1] (hp_Qi D cA h h9 r) := by
  refine Met.ofW (cc := prog_13_method_50_code) (maxL := 4) (ret := (Option.some FieldType.int)) (by decide) rfl ?_
  intro p e s m args below meth c s₁ B hml hv
  obtain ⟨rfl, hU⟩ := hv
  have hts := atoms_spec (ws := Cond.code yX11_arrange prog_13_method_50_code 4 (Option.some FieldType.int) :: tbG) B.pre
  have hl := lv_entry ([.ref t0, .int v1]) (n := 4) (Nat.le_of_ble_eq_true rfl)
  rw [lg_entry_eq]
  generalize (lg_sl ([.ref t0, .int v1]) ++ List.replicate (4 - (lg_sl ([.ref t0, .int v1])).length) Slot.unset).toArray = ls at hl ⊢
  exact tX11_arrange_0 ⟨B.exec, B.bytes, hml, findClass_of_methodNamed B.named, fun w hw => hts w (List.mem_cons_of_mem _ hw)⟩ B.returns B.notSynchronized t0 v1 h _ _ _ (hp_B.entry hU) hl hf
section
variable {p : Program} {l : Launch} {e : Env} {R : Room} {s : State} {m : MethodId} {args : Array Value} {below : List Frame} {meth : Method} {c : Code} {H : Heap} {locs : List Loc} {cells slots : Nat} {Q : State → Prop}
variable {cc : ByteArray} {pc nL : Nat} {ls : Array Slot} {rest : List Value} {D : va_G} {cA : Nat → ClassId} {A : Nat → Prop} {a : Nat} {h : Hp}
theorem gf_X11_79 (cx : CallFix p m c cc nL s args tbG RX11) (hB : hp_B D cA A s h H locs) (hka : h.1 a = 12) {b : Nat} (ho : h.2.2.2.1 a 30 = some b) (hdg : decode cc pc = .ok (.getfield 79, 3)) (kk : W p l e R s m args below meth c H locs cells slots Q (F0 m (pc + 3) ls (.ref b :: rest))) : W p l e R s m args below meth c H locs cells slots Q (F0 m pc ls (.ref a :: rest)) :=
  hp_getR cx hB (ci := 11) 30 rfl inX11 (by decide) rfl (by decide) rfl qw_762 hka (o := some b) ho.symm hdg kk
end
abbrev yX11_wish : MethodName := ⟨"SpokenMenusModel", "wish", "(III)I"⟩
theorem dX11_wish_0 : decode prog_13_method_51_code 0 = .ok (.iload_n 1, 1) := by decide +kernel
theorem dX11_wish_1 : decode prog_13_method_51_code 1 = .ok (.iconst 0, 1) := by decide +kernel
theorem dX11_wish_2 : decode prog_13_method_51_code 2 = .ok (.bipush 7, 2) := by decide +kernel
theorem dX11_wish_4 : decode prog_13_method_51_code 4 = .ok (.invokestatic 129, 3) := by decide +kernel
theorem dX11_wish_7 : decode prog_13_method_51_code 7 = .ok (.ifCond .eq 25, 3) := by decide +kernel
theorem dX11_wish_10 : decode prog_13_method_51_code 10 = .ok (.iload_n 2, 1) := by decide +kernel
theorem dX11_wish_11 : decode prog_13_method_51_code 11 = .ok (.iconst 1, 1) := by decide +kernel
theorem dX11_wish_12 : decode prog_13_method_51_code 12 = .ok (.sipush 200, 3) := by decide +kernel
theorem dX11_wish_15 : decode prog_13_method_51_code 15 = .ok (.invokestatic 129, 3) := by decide +kernel
theorem dX11_wish_18 : decode prog_13_method_51_code 18 = .ok (.ifCond .eq 14, 3) := by decide +kernel
theorem dX11_wish_21 : decode prog_13_method_51_code 21 = .ok (.iload_n 3, 1) := by decide +kernel
theorem dX11_wish_22 : decode prog_13_method_51_code 22 = .ok (.iconst 0, 1) := by decide +kernel
theorem dX11_wish_23 : decode prog_13_method_51_code 23 = .ok (.sipush 1000, 3) := by decide +kernel
theorem dX11_wish_26 : decode prog_13_method_51_code 26 = .ok (.invokestatic 129, 3) := by decide +kernel
theorem dX11_wish_29 : decode prog_13_method_51_code 29 = .ok (.ifCond .ne 5, 3) := by decide +kernel
theorem dX11_wish_32 : decode prog_13_method_51_code 32 = .ok (.iconst (-1), 1) := by decide +kernel
theorem dX11_wish_33 : decode prog_13_method_51_code 33 = .ok (.ireturn, 1) := by decide +kernel
theorem dX11_wish_34 : decode prog_13_method_51_code 34 = .ok (.aload_n 0, 1) := by decide +kernel
theorem dX11_wish_35 : decode prog_13_method_51_code 35 = .ok (.getfield 76, 3) := by decide +kernel
theorem dX11_wish_38 : decode prog_13_method_51_code 38 = .ok (.iload_n 1, 1) := by decide +kernel
theorem dX11_wish_39 : decode prog_13_method_51_code 39 = .ok (.iload_n 2, 1) := by decide +kernel
theorem dX11_wish_40 : decode prog_13_method_51_code 40 = .ok (.iastore, 1) := by decide +kernel
theorem dX11_wish_41 : decode prog_13_method_51_code 41 = .ok (.aload_n 0, 1) := by decide +kernel
theorem dX11_wish_42 : decode prog_13_method_51_code 42 = .ok (.getfield 79, 3) := by decide +kernel
theorem dX11_wish_45 : decode prog_13_method_51_code 45 = .ok (.iload_n 1, 1) := by decide +kernel
theorem dX11_wish_46 : decode prog_13_method_51_code 46 = .ok (.iload_n 3, 1) := by decide +kernel
theorem dX11_wish_47 : decode prog_13_method_51_code 47 = .ok (.iastore, 1) := by decide +kernel
theorem dX11_wish_48 : decode prog_13_method_51_code 48 = .ok (.iconst 0, 1) := by decide +kernel
theorem dX11_wish_49 : decode prog_13_method_51_code 49 = .ok (.ireturn, 1) := by decide +kernel
abbrev rmX11_wish : Room := { frames := 1, cells := 0, slots := 0, locals := 22 }
def fX11_wish  (t0 : Nat) (v1 : Int32) (v2 : Int32) (v3 : Int32) (h : Hp) : Option (Int32 × Hp) :=
  b2 (fX11_in v1 0 7 h) fun r3 g1 =>
  if r3 = 0 then
  (some ((-1), g1))
  else
  (b2 (fX11_in v2 1 200 g1) fun r8 g6 =>
  if r8 = 0 then
  (some ((-1), g6))
  else
  (b2 (fX11_in v3 0 1000 g6) fun r13 g11 =>
  if r13 = 0 then
  (some ((-1), g11))
  else
  (gk (g11.1 t0) 12 <|
  bd (g11.2.2.2.1 t0 29) fun a17 =>
  gk (g11.1 a17) 13 <|
  gd (ix v1 (g11.2.1 a17)) <|
  nm (hp_si g11 a17 (Int32.toNatClampNeg v1) v2) fun g21 =>
  bd (g21.2.2.2.1 t0 30) fun a23 =>
  gk (g21.1 a23) 13 <|
  gd (ix v1 (g21.2.1 a23)) <|
  nm (hp_si g21 a23 (Int32.toNatClampNeg v1) v3) fun g27 =>
  some (0, g27))))
section
variable {p : Program} {l : Launch} {e : Env} {s : State} {m : MethodId} {args : Array Value} {below : List Frame} {meth : Method} {c : Code} {D : va_G} {cA : Nat → ClassId} {h0 h9 : Hp}
set_option maxHeartbeats 4000000 in
set_option maxRecDepth 100000 in
theorem tX11_wish_0  {r : Int32} (cx : CallFix p m c prog_13_method_51_code 4 s args tbG RX11) (hr : meth.sig.returnType = (Option.some FieldType.int)) (hlk : meth.locks = false)  (t0 : Nat) (v1 : Int32) (v2 : Int32) (v3 : Int32) (h : Hp) (H : Heap) (locs : List Loc) (ls : Array Slot) (hB : hp_B D cA (hp_A h0) s h H locs) (hl : lv_has ls 4 [(0, .ref t0), (1, .int v1), (2, .int v2), (3, .int v3)]) (hf : fX11_wish  t0 v1 v2 v3 h = some (r, h9)) : W p l e rmX11_wish s m args below meth c H locs 0 0 (MQ below (hp_Qi D cA h0 h9 r) args s 0 0 (hp_A h0)) (F0 m 0 ls []) := by
  obtain ⟨hx, hb, -⟩ := id cx
  unfold fX11_wish at hf
  refine lv_iload_n hx hb dX11_wish_0 rfl (lv_at hl 1 rfl) ?_
  refine lv_iconst (v := 0) hx hb dX11_wish_1 (by decide) ?_
  refine lv_bipush (v := 7) hx hb dX11_wish_2 (by decide) ?_
  obtain ⟨r3, g1, m2, hf⟩ := b2_ok hf
  refine hp_cI0 (cl_X11_129 cx hB (cX11_in l D cA v1 0 7 h _ g1 m2) ⟨Nat.le_of_ble_eq_true rfl, Nat.le_of_ble_eq_true rfl⟩ rfl hl.1 rfl (Nat.le_of_ble_eq_true rfl) ⟨Nat.le_of_ble_eq_true rfl, Nat.le_of_ble_eq_true rfl⟩ dX11_wish_4) rfl rfl hB (fun H locs hB => ?_)
  refine lv_if_eq (tgt := 32) hx hb dX11_wish_7 (by decide) (fun c5 => ?_) (fun c5 => ?_)
  · replace hf := it_t c5 hf
    refine lv_iconst (v := (-1)) hx hb dX11_wish_32 (by decide) ?_
    obtain ⟨rfl, rfl⟩ := rt_ok hf
    exact hp_iret cx hB hr hlk (Nat.le_of_ble_eq_true rfl) (Nat.le_of_ble_eq_true rfl) dX11_wish_33
  · replace hf := it_f c5 hf
    refine lv_iload_n hx hb dX11_wish_10 rfl (lv_at hl 2 rfl) ?_
    refine lv_iconst (v := 1) hx hb dX11_wish_11 (by decide) ?_
    refine lv_sipush (v := 200) hx hb dX11_wish_12 (by decide) ?_
    obtain ⟨r8, g6, m7, hf⟩ := b2_ok hf
    refine hp_cI0 (cl_X11_129 cx hB (cX11_in l D cA v2 1 200 g1 _ g6 m7) ⟨Nat.le_of_ble_eq_true rfl, Nat.le_of_ble_eq_true rfl⟩ rfl hl.1 rfl (Nat.le_of_ble_eq_true rfl) ⟨Nat.le_of_ble_eq_true rfl, Nat.le_of_ble_eq_true rfl⟩ dX11_wish_15) rfl rfl hB (fun H locs hB => ?_)
    refine lv_if_eq (tgt := 32) hx hb dX11_wish_18 (by decide) (fun c10 => ?_) (fun c10 => ?_)
    · replace hf := it_t c10 hf
      refine lv_iconst (v := (-1)) hx hb dX11_wish_32 (by decide) ?_
      obtain ⟨rfl, rfl⟩ := rt_ok hf
      exact hp_iret cx hB hr hlk (Nat.le_of_ble_eq_true rfl) (Nat.le_of_ble_eq_true rfl) dX11_wish_33
    · replace hf := it_f c10 hf
      refine lv_iload_n hx hb dX11_wish_21 rfl (lv_at hl 3 rfl) ?_
      refine lv_iconst (v := 0) hx hb dX11_wish_22 (by decide) ?_
      refine lv_sipush (v := 1000) hx hb dX11_wish_23 (by decide) ?_
      obtain ⟨r13, g11, m12, hf⟩ := b2_ok hf
      refine hp_cI0 (cl_X11_129 cx hB (cX11_in l D cA v3 0 1000 g6 _ g11 m12) ⟨Nat.le_of_ble_eq_true rfl, Nat.le_of_ble_eq_true rfl⟩ rfl hl.1 rfl (Nat.le_of_ble_eq_true rfl) ⟨Nat.le_of_ble_eq_true rfl, Nat.le_of_ble_eq_true rfl⟩ dX11_wish_26) rfl rfl hB (fun H locs hB => ?_)
      refine lv_if_ne (tgt := 34) hx hb dX11_wish_29 (by decide) (fun c15 => ?_) (fun c15 => ?_)
      · replace hf := it_f c15 hf
        refine lv_aload_n hx hb dX11_wish_34 rfl (lv_at hl 0 rfl) ?_
        obtain ⟨k16, hf⟩ := gk_ok hf
        obtain ⟨a17, q18, hf⟩ := bd_ok hf
        refine gf_X11_76 cx hB k16 q18 dX11_wish_35 ?_
        refine lv_iload_n hx hb dX11_wish_38 rfl (lv_at hl 1 rfl) ?_
        refine lv_iload_n hx hb dX11_wish_39 rfl (lv_at hl 2 rfl) ?_
        obtain ⟨k19, hf⟩ := gk_ok hf
        obtain ⟨j20, hf⟩ := gd_ok hf
        obtain ⟨g21, eg21, hf⟩ := nm_ok hf
        refine hp_iast cx hB k19 j20 dX11_wish_40 (fun H locs hB => ?_)
        rw [← eg21] at hB
        refine lv_aload_n hx hb dX11_wish_41 rfl (lv_at hl 0 rfl) ?_
        have k22 : g21.1 t0 = 12 := by rw [eg21]; exact k16
        obtain ⟨a23, q24, hf⟩ := bd_ok hf
        refine gf_X11_79 cx hB k22 q24 dX11_wish_42 ?_
        refine lv_iload_n hx hb dX11_wish_45 rfl (lv_at hl 1 rfl) ?_
        refine lv_iload_n hx hb dX11_wish_46 rfl (lv_at hl 3 rfl) ?_
        obtain ⟨k25, hf⟩ := gk_ok hf
        obtain ⟨j26, hf⟩ := gd_ok hf
        obtain ⟨g27, eg27, hf⟩ := nm_ok hf
        refine hp_iast cx hB k25 j26 dX11_wish_47 (fun H locs hB => ?_)
        rw [← eg27] at hB
        refine lv_iconst (v := 0) hx hb dX11_wish_48 (by decide) ?_
        obtain ⟨rfl, rfl⟩ := rt_ok hf
        exact hp_iret cx hB hr hlk (Nat.le_of_ble_eq_true rfl) (Nat.le_of_ble_eq_true rfl) dX11_wish_49
      · replace hf := it_t c15 hf
        refine lv_iconst (v := (-1)) hx hb dX11_wish_32 (by decide) ?_
        obtain ⟨rfl, rfl⟩ := rt_ok hf
        exact hp_iret cx hB hr hlk (Nat.le_of_ble_eq_true rfl) (Nat.le_of_ble_eq_true rfl) dX11_wish_33
end
set_option maxHeartbeats 4000000 in
set_option maxRecDepth 100000 in
theorem cX11_wish (l : Launch) (D : va_G) (cA : Nat → ClassId) (t0 : Nat) (v1 : Int32) (v2 : Int32) (v3 : Int32) (h : Hp) (r : Int32) (h9 : Hp) (hf : fX11_wish t0 v1 v2 v3 h = some (r, h9)) : hp_M l yX11_wish prog_13_method_51_code 4 (Option.some FieldType.int) rmX11_wish D cA h [.ref t0, .int v1, .int v2, .int v3] (hp_Qi D cA h h9 r) := by
  refine Met.ofW (cc := prog_13_method_51_code) (maxL := 4) (ret := (Option.some FieldType.int)) (by decide) rfl ?_
  intro p e s m args below meth c s₁ B hml hv
  obtain ⟨rfl, hU⟩ := hv
  have hts := atoms_spec (ws := Cond.code yX11_wish prog_13_method_51_code 4 (Option.some FieldType.int) :: tbG) B.pre
  have hl := lv_entry ([.ref t0, .int v1, .int v2, .int v3]) (n := 4) (Nat.le_of_ble_eq_true rfl)
  rw [lg_entry_eq]
  generalize (lg_sl ([.ref t0, .int v1, .int v2, .int v3]) ++ List.replicate (4 - (lg_sl ([.ref t0, .int v1, .int v2, .int v3])).length) Slot.unset).toArray = ls at hl ⊢
  exact tX11_wish_0 ⟨B.exec, B.bytes, hml, findClass_of_methodNamed B.named, fun w hw => hts w (List.mem_cons_of_mem _ hw)⟩ B.returns B.notSynchronized t0 v1 v2 v3 h _ _ _ (hp_B.entry hU) hl hf
abbrev yX11_isAlone : MethodName := ⟨"SpokenMenusModel", "isAlone", "(I)Z"⟩
theorem dX11_isAlone_0 : decode prog_13_method_52_code 0 = .ok (.iload_n 0, 1) := by decide +kernel
theorem dX11_isAlone_1 : decode prog_13_method_52_code 1 = .ok (.iload_n 0, 1) := by decide +kernel
theorem dX11_isAlone_2 : decode prog_13_method_52_code 2 = .ok (.iconst 1, 1) := by decide +kernel
theorem dX11_isAlone_3 : decode prog_13_method_52_code 3 = .ok (.isub, 1) := by decide +kernel
theorem dX11_isAlone_4 : decode prog_13_method_52_code 4 = .ok (.iand, 1) := by decide +kernel
theorem dX11_isAlone_5 : decode prog_13_method_52_code 5 = .ok (.ifCond .ne 7, 3) := by decide +kernel
theorem dX11_isAlone_8 : decode prog_13_method_52_code 8 = .ok (.iconst 1, 1) := by decide +kernel
theorem dX11_isAlone_9 : decode prog_13_method_52_code 9 = .ok (.goto 4, 3) := by decide +kernel
theorem dX11_isAlone_12 : decode prog_13_method_52_code 12 = .ok (.iconst 0, 1) := by decide +kernel
theorem dX11_isAlone_13 : decode prog_13_method_52_code 13 = .ok (.ireturn, 1) := by decide +kernel
abbrev rmX11_isAlone : Room := { frames := 0, cells := 0, slots := 0, locals := 0 }
def fX11_isAlone  (v0 : Int32) (h : Hp) : Option (Int32 × Hp) :=
  if (v0 &&& (v0 - 1)) = 0 then
  (some (1, h))
  else
  (some (0, h))
section
variable {p : Program} {l : Launch} {e : Env} {s : State} {m : MethodId} {args : Array Value} {below : List Frame} {meth : Method} {c : Code} {D : va_G} {cA : Nat → ClassId} {h0 h9 : Hp}
set_option maxHeartbeats 4000000 in
set_option maxRecDepth 100000 in
theorem tX11_isAlone_0  {r : Int32} (cx : CallFix p m c prog_13_method_52_code 1 s args tbG RX11) (hr : meth.sig.returnType = (Option.some FieldType.boolean)) (hlk : meth.locks = false)  (v0 : Int32) (h : Hp) (H : Heap) (locs : List Loc) (ls : Array Slot) (hB : hp_B D cA (hp_A h0) s h H locs) (hl : lv_has ls 1 [(0, .int v0)]) (hf : fX11_isAlone  v0 h = some (r, h9)) : W p l e rmX11_isAlone s m args below meth c H locs 0 0 (MQ below (hp_Qi D cA h0 h9 r) args s 0 0 (hp_A h0)) (F0 m 0 ls []) := by
  obtain ⟨hx, hb, -⟩ := id cx
  unfold fX11_isAlone at hf
  refine lv_iload_n hx hb dX11_isAlone_0 rfl (lv_at hl 0 rfl) ?_
  refine lv_iload_n hx hb dX11_isAlone_1 rfl (lv_at hl 0 rfl) ?_
  refine lv_iconst (v := 1) hx hb dX11_isAlone_2 (by decide) ?_
  refine lv_isub hx hb dX11_isAlone_3 ?_
  refine lv_iand hx hb dX11_isAlone_4 ?_
  refine lv_if_ne (tgt := 12) hx hb dX11_isAlone_5 (by decide) (fun c1 => ?_) (fun c1 => ?_)
  · replace hf := it_f c1 hf
    refine lv_iconst (v := 0) hx hb dX11_isAlone_12 (by decide) ?_
    obtain ⟨rfl, rfl⟩ := rt_ok hf
    exact hp_zret cx hB hr hlk (Nat.le_of_ble_eq_true rfl) (Nat.le_of_ble_eq_true rfl) rfl dX11_isAlone_13
  · replace hf := it_t c1 hf
    refine lv_iconst (v := 1) hx hb dX11_isAlone_8 (by decide) ?_
    refine lv_goto (tgt := 13) hx hb dX11_isAlone_9 (by decide) ?_
    obtain ⟨rfl, rfl⟩ := rt_ok hf
    exact hp_zret cx hB hr hlk (Nat.le_of_ble_eq_true rfl) (Nat.le_of_ble_eq_true rfl) rfl dX11_isAlone_13
end
set_option maxHeartbeats 4000000 in
set_option maxRecDepth 100000 in
theorem cX11_isAlone (l : Launch) (D : va_G) (cA : Nat → ClassId) (v0 : Int32) (h : Hp) (r : Int32) (h9 : Hp) (hf : fX11_isAlone v0 h = some (r, h9)) : hp_M l yX11_isAlone prog_13_method_52_code 1 (Option.some FieldType.boolean) rmX11_isAlone D cA h [.int v0] (hp_Qi D cA h h9 r) := by
  refine Met.ofW (cc := prog_13_method_52_code) (maxL := 1) (ret := (Option.some FieldType.boolean)) (by decide) rfl ?_
  intro p e s m args below meth c s₁ B hml hv
  obtain ⟨rfl, hU⟩ := hv
  have hts := atoms_spec (ws := Cond.code yX11_isAlone prog_13_method_52_code 1 (Option.some FieldType.boolean) :: tbG) B.pre
  have hl := lv_entry ([.int v0]) (n := 1) (Nat.le_of_ble_eq_true rfl)
  rw [lg_entry_eq]
  generalize (lg_sl ([.int v0]) ++ List.replicate (1 - (lg_sl ([.int v0])).length) Slot.unset).toArray = ls at hl ⊢
  exact tX11_isAlone_0 ⟨B.exec, B.bytes, hml, findClass_of_methodNamed B.named, fun w hw => hts w (List.mem_cons_of_mem _ hw)⟩ B.returns B.notSynchronized v0 h _ _ _ (hp_B.entry hU) hl hf
section
variable {p : Program} {l : Launch} {e : Env} {R : Room} {s : State} {m : MethodId} {args : Array Value} {below : List Frame} {meth : Method} {c : Code} {H : Heap} {locs : List Loc} {cells slots : Nat} {Q : State → Prop}
variable {cc : ByteArray} {pc nL : Nat} {ls : Array Slot} {rest : List Value} {D : va_G} {cA : Nat → ClassId} {A : Nat → Prop} {a : Nat} {h : Hp}
theorem gf_X11_273 (cx : CallFix p m c cc nL s args tbG RX11) (hB : hp_B D cA A s h H locs) (hka : h.1 a = 12) (hdg : decode cc pc = .ok (.getfield 273, 3)) (kk : W p l e R s m args below meth c H locs cells slots Q (F0 m (pc + 3) ls (.int (h.2.2.1 a 53) :: rest))) : W p l e R s m args below meth c H locs cells slots Q (F0 m pc ls (.ref a :: rest)) :=
  hp_getI cx hB (ci := 11) 53 rfl inX11 (by decide) rfl (by decide) rfl qw_785 hka hdg kk
theorem cl_X11_276 {As st0 : List Value} {Qc : Array Value → State → Outcome → State → Prop} (cx : CallFix p m c cc nL s args tbG RX11) (hB : hp_B D cA A s h H locs) (hM : hp_M l yX11_isAlone prog_13_method_52_code 1 (Option.some FieldType.boolean) rmX11_isAlone D cA h As Qc) (hR : rmX11_isAlone.frames + 1 ≤ R.frames ∧ 8 + (1 + 11) + rmX11_isAlone.locals ≤ R.locals) (hn : As.length = 1) (hls : ls.size = nL) (hst : st0 = As.reverse ++ rest) (hW : (rest.map fun v => v.category).sum ≤ 8) (hf : cells + rmX11_isAlone.cells ≤ R.cells ∧ slots + rmX11_isAlone.slots ≤ R.slots) (hdg : decode cc pc = .ok (.invokestatic 276, 3)) :
    va_Run p l e R s m args below meth c H locs cells slots rmX11_isAlone.cells rmX11_isAlone.slots (F0 m pc ls st0) rest (Qc As.toArray) (hp_A h) :=
  hp_runS cx hB hM qw_1112 qw_1110 qw_1111 qw_10 (by decide +kernel) hR hn hls hst hW hf hdg
theorem gf_X11_122 (cx : CallFix p m c cc nL s args tbG RX11) (hB : hp_B D cA A s h H locs) (hka : h.1 a = 12) {b : Nat} (ho : h.2.2.2.1 a 56 = some b) (hdg : decode cc pc = .ok (.getfield 122, 3)) (kk : W p l e R s m args below meth c H locs cells slots Q (F0 m (pc + 3) ls (.ref b :: rest))) : W p l e R s m args below meth c H locs cells slots Q (F0 m pc ls (.ref a :: rest)) :=
  hp_getR cx hB (ci := 11) 56 rfl inX11 (by decide) rfl (by decide) rfl qw_788 hka (o := some b) ho.symm hdg kk
end
abbrev yX11_ticksOf : MethodName := ⟨"SpokenMenusModel", "ticksOf", "(I)I"⟩
theorem dX11_ticksOf_0 : decode prog_13_method_53_code 0 = .ok (.aload_n 0, 1) := by decide +kernel
theorem dX11_ticksOf_1 : decode prog_13_method_53_code 1 = .ok (.getfield 273, 3) := by decide +kernel
theorem dX11_ticksOf_4 : decode prog_13_method_53_code 4 = .ok (.istore_n 2, 1) := by decide +kernel
theorem dX11_ticksOf_5 : decode prog_13_method_53_code 5 = .ok (.iconst 0, 1) := by decide +kernel
theorem dX11_ticksOf_6 : decode prog_13_method_53_code 6 = .ok (.istore_n 3, 1) := by decide +kernel
theorem dX11_ticksOf_7 : decode prog_13_method_53_code 7 = .ok (.iload_n 3, 1) := by decide +kernel
theorem dX11_ticksOf_8 : decode prog_13_method_53_code 8 = .ok (.bipush 8, 2) := by decide +kernel
theorem dX11_ticksOf_10 : decode prog_13_method_53_code 10 = .ok (.if_icmp .ge 34, 3) := by decide +kernel
theorem dX11_ticksOf_13 : decode prog_13_method_53_code 13 = .ok (.iload_n 1, 1) := by decide +kernel
theorem dX11_ticksOf_14 : decode prog_13_method_53_code 14 = .ok (.invokestatic 276, 3) := by decide +kernel
theorem dX11_ticksOf_17 : decode prog_13_method_53_code 17 = .ok (.ifCond .eq 27, 3) := by decide +kernel
theorem dX11_ticksOf_20 : decode prog_13_method_53_code 20 = .ok (.iload_n 1, 1) := by decide +kernel
theorem dX11_ticksOf_21 : decode prog_13_method_53_code 21 = .ok (.iconst 1, 1) := by decide +kernel
theorem dX11_ticksOf_22 : decode prog_13_method_53_code 22 = .ok (.iload_n 3, 1) := by decide +kernel
theorem dX11_ticksOf_23 : decode prog_13_method_53_code 23 = .ok (.ishl, 1) := by decide +kernel
theorem dX11_ticksOf_24 : decode prog_13_method_53_code 24 = .ok (.if_icmp .ne 12, 3) := by decide +kernel
theorem dX11_ticksOf_27 : decode prog_13_method_53_code 27 = .ok (.aload_n 0, 1) := by decide +kernel
theorem dX11_ticksOf_28 : decode prog_13_method_53_code 28 = .ok (.getfield 122, 3) := by decide +kernel
theorem dX11_ticksOf_31 : decode prog_13_method_53_code 31 = .ok (.iload_n 3, 1) := by decide +kernel
theorem dX11_ticksOf_32 : decode prog_13_method_53_code 32 = .ok (.iaload, 1) := by decide +kernel
theorem dX11_ticksOf_33 : decode prog_13_method_53_code 33 = .ok (.goto 4, 3) := by decide +kernel
theorem dX11_ticksOf_36 : decode prog_13_method_53_code 36 = .ok (.iload_n 2, 1) := by decide +kernel
theorem dX11_ticksOf_37 : decode prog_13_method_53_code 37 = .ok (.istore_n 2, 1) := by decide +kernel
theorem dX11_ticksOf_38 : decode prog_13_method_53_code 38 = .ok (.iinc 3 1, 3) := by decide +kernel
theorem dX11_ticksOf_41 : decode prog_13_method_53_code 41 = .ok (.goto (-34), 3) := by decide +kernel
theorem dX11_ticksOf_44 : decode prog_13_method_53_code 44 = .ok (.iload_n 2, 1) := by decide +kernel
theorem dX11_ticksOf_45 : decode prog_13_method_53_code 45 = .ok (.ireturn, 1) := by decide +kernel
abbrev rmX11_ticksOf : Room := { frames := 1, cells := 0, slots := 0, locals := 20 }
def bX11_ticksOf_7  (rc : Nat → Int32 → Int32 → Int32 → Hp → Option (Int32 × Hp)) (t0 : Nat) (v1 : Int32) (v2 : Int32) (v3 : Int32) (h : Hp) : Option (Int32 × Hp) :=
  if 8 ≤ v3 then
  (some (v2, h))
  else
  (b2 (fX11_isAlone v1 h) fun r4 g2 =>
  if r4 = 0 then
  (some (v2, g2))
  else
  (if v1 = (1 <<< (v3 &&& 31)) then
  (gk (g2.1 t0) 12 <|
  bd (g2.2.2.2.1 t0 56) fun a10 =>
  gk (g2.1 a10) 13 <|
  gd (ix v3 (g2.2.1 a10)) <|
  nm (g2.2.2.1 a10 (Int32.toNatClampNeg v3)) fun x14 =>
  nm (v3 + 1) fun x15 =>
  rc t0 v1 x14 x15 g2)
  else
  (nm (v3 + 1) fun x8 =>
  rc t0 v1 v2 x8 g2)))
def fX11_ticksOf_7  : Nat → Int32 → Int32 → Int32 → Hp → Option (Int32 × Hp) := fx (bX11_ticksOf_7 ) (fun _ _ _ _ _ => none) NF
def fX11_ticksOf  (t0 : Nat) (v1 : Int32) (h : Hp) : Option (Int32 × Hp) :=
  gk (h.1 t0) 12 <|
  nm (h.2.2.1 t0 53) fun x2 =>
  fX11_ticksOf_7  t0 v1 x2 0 h
section
variable {p : Program} {l : Launch} {e : Env} {s : State} {m : MethodId} {args : Array Value} {below : List Frame} {meth : Method} {c : Code} {D : va_G} {cA : Nat → ClassId} {h0 h9 : Hp}
set_option maxHeartbeats 4000000 in
set_option maxRecDepth 100000 in
theorem tX11_ticksOf_7  {r : Int32} (cx : CallFix p m c prog_13_method_53_code 4 s args tbG RX11) (hr : meth.sig.returnType = (Option.some FieldType.int)) (hlk : meth.locks = false)  (n : Nat) : ∀ (t0 : Nat) (v1 : Int32) (v2 : Int32) (v3 : Int32) (h : Hp) (H : Heap) (locs : List Loc) (ls : Array Slot), hp_B D cA (hp_A h0) s h H locs → lv_has ls 4 [(0, .ref t0), (1, .int v1), (2, .int v2), (3, .int v3)] → fx (bX11_ticksOf_7 ) (fun _ _ _ _ _ => none) n t0 v1 v2 v3 h = some (r, h9) → W p l e rmX11_ticksOf s m args below meth c H locs 0 0 (MQ below (hp_Qi D cA h0 h9 r) args s 0 0 (hp_A h0)) (F0 m 7 ls []) := by
  obtain ⟨hx, hb, -⟩ := id cx
  induction n with
  | zero => intro t0 v1 v2 v3 h H locs ls hB hl hf; cases hf
  | succ n ih =>
    intro t0 v1 v2 v3 h H locs ls hB hl hf
    replace hf : bX11_ticksOf_7  (fx (bX11_ticksOf_7 ) (fun _ _ _ _ _ => none) n) t0 v1 v2 v3 h = some (r, h9) := hf
    unfold bX11_ticksOf_7 at hf
    refine lv_iload_n hx hb dX11_ticksOf_7 rfl (lv_at hl 3 rfl) ?_
    refine lv_bipush (v := 8) hx hb dX11_ticksOf_8 (by decide) ?_
    refine lv_icmp_ge (tgt := 44) hx hb dX11_ticksOf_10 (by decide) (fun c1 => ?_) (fun c1 => ?_)
    · replace hf := it_t c1 hf
      refine lv_iload_n hx hb dX11_ticksOf_44 rfl (lv_at hl 2 rfl) ?_
      obtain ⟨rfl, rfl⟩ := rt_ok hf
      exact hp_iret cx hB hr hlk (Nat.le_of_ble_eq_true rfl) (Nat.le_of_ble_eq_true rfl) dX11_ticksOf_45
    · replace hf := it_f c1 hf
      refine lv_iload_n hx hb dX11_ticksOf_13 rfl (lv_at hl 1 rfl) ?_
      obtain ⟨r4, g2, m3, hf⟩ := b2_ok hf
      refine hp_cI0 (cl_X11_276 cx hB (cX11_isAlone l D cA v1 h _ g2 m3) ⟨Nat.le_of_ble_eq_true rfl, Nat.le_of_ble_eq_true rfl⟩ rfl hl.1 rfl (Nat.le_of_ble_eq_true rfl) ⟨Nat.le_of_ble_eq_true rfl, Nat.le_of_ble_eq_true rfl⟩ dX11_ticksOf_14) rfl rfl hB (fun H locs hB => ?_)
      refine lv_if_eq (tgt := 44) hx hb dX11_ticksOf_17 (by decide) (fun c6 => ?_) (fun c6 => ?_)
      · replace hf := it_t c6 hf
        refine lv_iload_n hx hb dX11_ticksOf_44 rfl (lv_at hl 2 rfl) ?_
        obtain ⟨rfl, rfl⟩ := rt_ok hf
        exact hp_iret cx hB hr hlk (Nat.le_of_ble_eq_true rfl) (Nat.le_of_ble_eq_true rfl) dX11_ticksOf_45
      · replace hf := it_f c6 hf
        refine lv_iload_n hx hb dX11_ticksOf_20 rfl (lv_at hl 1 rfl) ?_
        refine lv_iconst (v := 1) hx hb dX11_ticksOf_21 (by decide) ?_
        refine lv_iload_n hx hb dX11_ticksOf_22 rfl (lv_at hl 3 rfl) ?_
        refine lv_ishl hx hb dX11_ticksOf_23 ?_
        refine lv_icmp_ne (tgt := 36) hx hb dX11_ticksOf_24 (by decide) (fun c7 => ?_) (fun c7 => ?_)
        · replace hf := it_f c7 hf
          refine lv_iload_n hx hb dX11_ticksOf_36 rfl (lv_at hl 2 rfl) ?_
          refine lv_istore_n (lv' := [(2, .int v2), (0, .ref t0), (1, .int v1), (3, .int v3)]) hx hb dX11_ticksOf_37 rfl hl (by decide) rfl (fun ls hl => ?_)
          obtain ⟨x8, ex8, hf⟩ := nm_ok hf
          refine lv_iinc (v := x8) (lv' := [(3, .int x8), (2, .int v2), (0, .ref t0), (1, .int v1)]) hx hb dX11_ticksOf_38 hl (k := 3) rfl (by rw [ex8]; rfl) (by decide) rfl (fun ls hl => ?_)
          refine lv_goto (tgt := 7) hx hb dX11_ticksOf_41 (by decide) ?_
          exact ih t0 v1 v2 x8 g2 _ _ _ hB (lv_sub hl [2, 3, 1, 0] rfl) hf
        · replace hf := it_t c7 hf
          refine lv_aload_n hx hb dX11_ticksOf_27 rfl (lv_at hl 0 rfl) ?_
          obtain ⟨k9, hf⟩ := gk_ok hf
          obtain ⟨a10, q11, hf⟩ := bd_ok hf
          refine gf_X11_122 cx hB k9 q11 dX11_ticksOf_28 ?_
          refine lv_iload_n hx hb dX11_ticksOf_31 rfl (lv_at hl 3 rfl) ?_
          obtain ⟨k12, hf⟩ := gk_ok hf
          obtain ⟨j13, hf⟩ := gd_ok hf
          refine hp_iald cx hB k12 j13 dX11_ticksOf_32 ?_
          refine lv_goto (tgt := 37) hx hb dX11_ticksOf_33 (by decide) ?_
          obtain ⟨x14, ex14, hf⟩ := nm_ok hf
          refine lv_ren ex14 ?_
          refine lv_istore_n (lv' := [(2, .int x14), (0, .ref t0), (1, .int v1), (3, .int v3)]) hx hb dX11_ticksOf_37 rfl hl (by decide) rfl (fun ls hl => ?_)
          obtain ⟨x15, ex15, hf⟩ := nm_ok hf
          refine lv_iinc (v := x15) (lv' := [(3, .int x15), (2, .int x14), (0, .ref t0), (1, .int v1)]) hx hb dX11_ticksOf_38 hl (k := 3) rfl (by rw [ex15]; rfl) (by decide) rfl (fun ls hl => ?_)
          refine lv_goto (tgt := 7) hx hb dX11_ticksOf_41 (by decide) ?_
          exact ih t0 v1 x14 x15 g2 _ _ _ hB (lv_sub hl [2, 3, 1, 0] rfl) hf
set_option maxHeartbeats 4000000 in
set_option maxRecDepth 100000 in
theorem tX11_ticksOf_0  {r : Int32} (cx : CallFix p m c prog_13_method_53_code 4 s args tbG RX11) (hr : meth.sig.returnType = (Option.some FieldType.int)) (hlk : meth.locks = false)  (t0 : Nat) (v1 : Int32) (h : Hp) (H : Heap) (locs : List Loc) (ls : Array Slot) (hB : hp_B D cA (hp_A h0) s h H locs) (hl : lv_has ls 4 [(0, .ref t0), (1, .int v1)]) (hf : fX11_ticksOf  t0 v1 h = some (r, h9)) : W p l e rmX11_ticksOf s m args below meth c H locs 0 0 (MQ below (hp_Qi D cA h0 h9 r) args s 0 0 (hp_A h0)) (F0 m 0 ls []) := by
  obtain ⟨hx, hb, -⟩ := id cx
  unfold fX11_ticksOf at hf
  refine lv_aload_n hx hb dX11_ticksOf_0 rfl (lv_at hl 0 rfl) ?_
  obtain ⟨k1, hf⟩ := gk_ok hf
  refine gf_X11_273 cx hB k1 dX11_ticksOf_1 ?_
  obtain ⟨x2, ex2, hf⟩ := nm_ok hf
  refine lv_ren ex2 ?_
  refine lv_istore_n (lv' := [(2, .int x2), (0, .ref t0), (1, .int v1)]) hx hb dX11_ticksOf_4 rfl hl (by decide) rfl (fun ls hl => ?_)
  refine lv_iconst (v := 0) hx hb dX11_ticksOf_5 (by decide) ?_
  refine lv_istore_n (lv' := [(3, .int 0), (2, .int x2), (0, .ref t0), (1, .int v1)]) hx hb dX11_ticksOf_6 rfl hl (by decide) rfl (fun ls hl => ?_)
  exact tX11_ticksOf_7 cx hr hlk  NF t0 v1 x2 0 h _ _ _ hB (lv_sub hl [2, 3, 1, 0] rfl) hf
end
set_option maxHeartbeats 4000000 in
set_option maxRecDepth 100000 in
theorem cX11_ticksOf (l : Launch) (D : va_G) (cA : Nat → ClassId) (t0 : Nat) (v1 : Int32) (h : Hp) (r : Int32) (h9 : Hp) (hf : fX11_ticksOf t0 v1 h = some (r, h9)) : hp_M l yX11_ticksOf prog_13_method_53_code 4 (Option.some FieldType.int) rmX11_ticksOf D cA h [.ref t0, .int v1] (hp_Qi D cA h h9 r) := by
  refine Met.ofW (cc := prog_13_method_53_code) (maxL := 4) (ret := (Option.some FieldType.int)) (by decide) rfl ?_
  intro p e s m args below meth c s₁ B hml hv
  obtain ⟨rfl, hU⟩ := hv
  have hts := atoms_spec (ws := Cond.code yX11_ticksOf prog_13_method_53_code 4 (Option.some FieldType.int) :: tbG) B.pre
  have hl := lv_entry ([.ref t0, .int v1]) (n := 4) (Nat.le_of_ble_eq_true rfl)
  rw [lg_entry_eq]
  generalize (lg_sl ([.ref t0, .int v1]) ++ List.replicate (4 - (lg_sl ([.ref t0, .int v1])).length) Slot.unset).toArray = ls at hl ⊢
  exact tX11_ticksOf_0 ⟨B.exec, B.bytes, hml, findClass_of_methodNamed B.named, fun w hw => hts w (List.mem_cons_of_mem _ hw)⟩ B.returns B.notSynchronized t0 v1 h _ _ _ (hp_B.entry hU) hl hf
section
variable {p : Program} {l : Launch} {e : Env} {R : Room} {s : State} {m : MethodId} {args : Array Value} {below : List Frame} {meth : Method} {c : Code} {H : Heap} {locs : List Loc} {cells slots : Nat} {Q : State → Prop}
variable {cc : ByteArray} {pc nL : Nat} {ls : Array Slot} {rest : List Value} {D : va_G} {cA : Nat → ClassId} {A : Nat → Prop} {a : Nat} {h : Hp}
theorem gf_X11_116 (cx : CallFix p m c cc nL s args tbG RX11) (hB : hp_B D cA A s h H locs) (hka : h.1 a = 12) {b : Nat} (ho : h.2.2.2.1 a 52 = some b) (hdg : decode cc pc = .ok (.getfield 116, 3)) (kk : W p l e R s m args below meth c H locs cells slots Q (F0 m (pc + 3) ls (.ref b :: rest))) : W p l e R s m args below meth c H locs cells slots Q (F0 m pc ls (.ref a :: rest)) :=
  hp_getR cx hB (ci := 11) 52 rfl inX11 (by decide) rfl (by decide) rfl qw_784 hka (o := some b) ho.symm hdg kk
theorem gf_X11_113 (cx : CallFix p m c cc nL s args tbG RX11) (hB : hp_B D cA A s h H locs) (hka : h.1 a = 12) {b : Nat} (ho : h.2.2.2.1 a 51 = some b) (hdg : decode cc pc = .ok (.getfield 113, 3)) (kk : W p l e R s m args below meth c H locs cells slots Q (F0 m (pc + 3) ls (.ref b :: rest))) : W p l e R s m args below meth c H locs cells slots Q (F0 m pc ls (.ref a :: rest)) :=
  hp_getR cx hB (ci := 11) 51 rfl inX11 (by decide) rfl (by decide) rfl qw_783 hka (o := some b) ho.symm hdg kk
theorem cl_X11_279 {As st0 : List Value} {b : Nat} {Qc : Array Value → State → Outcome → State → Prop} (cx : CallFix p m c cc nL s args tbG RX11) (hB : hp_B D cA A s h H locs) (hM : hp_M l yX11_ticksOf prog_13_method_53_code 4 (Option.some FieldType.int) rmX11_ticksOf D cA h (.ref b :: As) Qc) (hkb : h.1 b = 12) (hR : rmX11_ticksOf.frames + 1 ≤ R.frames ∧ 8 + (4 + 11) + rmX11_ticksOf.locals ≤ R.locals) (hn : As.length = 1) (hls : ls.size = nL) (hst : st0 = As.reverse ++ .ref b :: rest) (hW : (rest.map fun v => v.category).sum ≤ 8) (hf : cells + rmX11_ticksOf.cells ≤ R.cells ∧ slots + rmX11_ticksOf.slots ≤ R.slots) (hdg : decode cc pc = .ok (.invokevirtual 279, 3)) :
    va_Run p l e R s m args below meth c H locs cells slots rmX11_ticksOf.cells rmX11_ticksOf.slots (F0 m pc ls st0) rest (Qc (Value.ref b :: As).toArray) (hp_A h) :=
  hp_runV cx hB hM (ci := 11) rfl (by decide) hkb qw_1120 qw_1117 qw_1119 qp_40 qw_10 (by decide +kernel) hR hn hls hst hW hf hdg
theorem gf_X11_119 (cx : CallFix p m c cc nL s args tbG RX11) (hB : hp_B D cA A s h H locs) (hka : h.1 a = 12) {b : Nat} (ho : h.2.2.2.1 a 55 = some b) (hdg : decode cc pc = .ok (.getfield 119, 3)) (kk : W p l e R s m args below meth c H locs cells slots Q (F0 m (pc + 3) ls (.ref b :: rest))) : W p l e R s m args below meth c H locs cells slots Q (F0 m pc ls (.ref a :: rest)) :=
  hp_getR cx hB (ci := 11) 55 rfl inX11 (by decide) rfl (by decide) rfl qw_787 hka (o := some b) ho.symm hdg kk
end
abbrev yX11_lineCost : MethodName := ⟨"SpokenMenusModel", "lineCost", "(III)I"⟩
theorem dX11_lineCost_0 : decode prog_13_method_54_code 0 = .ok (.iload_n 2, 1) := by decide +kernel
theorem dX11_lineCost_1 : decode prog_13_method_54_code 1 = .ok (.invokestatic 276, 3) := by decide +kernel
theorem dX11_lineCost_4 : decode prog_13_method_54_code 4 = .ok (.ifCond .eq 7, 3) := by decide +kernel
theorem dX11_lineCost_7 : decode prog_13_method_54_code 7 = .ok (.iconst 0, 1) := by decide +kernel
theorem dX11_lineCost_8 : decode prog_13_method_54_code 8 = .ok (.goto 9, 3) := by decide +kernel
theorem dX11_lineCost_11 : decode prog_13_method_54_code 11 = .ok (.aload_n 0, 1) := by decide +kernel
theorem dX11_lineCost_12 : decode prog_13_method_54_code 12 = .ok (.getfield 116, 3) := by decide +kernel
theorem dX11_lineCost_15 : decode prog_13_method_54_code 15 = .ok (.iload_n 2, 1) := by decide +kernel
theorem dX11_lineCost_16 : decode prog_13_method_54_code 16 = .ok (.iaload, 1) := by decide +kernel
theorem dX11_lineCost_17 : decode prog_13_method_54_code 17 = .ok (.istore 4, 2) := by decide +kernel
theorem dX11_lineCost_19 : decode prog_13_method_54_code 19 = .ok (.iload_n 1, 1) := by decide +kernel
theorem dX11_lineCost_20 : decode prog_13_method_54_code 20 = .ok (.iload_n 2, 1) := by decide +kernel
theorem dX11_lineCost_21 : decode prog_13_method_54_code 21 = .ok (.if_icmp .ne 7, 3) := by decide +kernel
theorem dX11_lineCost_24 : decode prog_13_method_54_code 24 = .ok (.iconst 0, 1) := by decide +kernel
theorem dX11_lineCost_25 : decode prog_13_method_54_code 25 = .ok (.goto 26, 3) := by decide +kernel
theorem dX11_lineCost_28 : decode prog_13_method_54_code 28 = .ok (.iload_n 3, 1) := by decide +kernel
theorem dX11_lineCost_29 : decode prog_13_method_54_code 29 = .ok (.ifCond .ne 8, 3) := by decide +kernel
theorem dX11_lineCost_32 : decode prog_13_method_54_code 32 = .ok (.ldc 172, 2) := by decide +kernel
theorem dX11_lineCost_34 : decode prog_13_method_54_code 34 = .ok (.goto 17, 3) := by decide +kernel
theorem dX11_lineCost_37 : decode prog_13_method_54_code 37 = .ok (.aload_n 0, 1) := by decide +kernel
theorem dX11_lineCost_38 : decode prog_13_method_54_code 38 = .ok (.getfield 113, 3) := by decide +kernel
theorem dX11_lineCost_41 : decode prog_13_method_54_code 41 = .ok (.sipush 256, 3) := by decide +kernel
theorem dX11_lineCost_44 : decode prog_13_method_54_code 44 = .ok (.iload_n 3, 1) := by decide +kernel
theorem dX11_lineCost_45 : decode prog_13_method_54_code 45 = .ok (.imul, 1) := by decide +kernel
theorem dX11_lineCost_46 : decode prog_13_method_54_code 46 = .ok (.iload_n 1, 1) := by decide +kernel
theorem dX11_lineCost_47 : decode prog_13_method_54_code 47 = .ok (.iadd, 1) := by decide +kernel
theorem dX11_lineCost_48 : decode prog_13_method_54_code 48 = .ok (.iload_n 2, 1) := by decide +kernel
theorem dX11_lineCost_49 : decode prog_13_method_54_code 49 = .ok (.isub, 1) := by decide +kernel
theorem dX11_lineCost_50 : decode prog_13_method_54_code 50 = .ok (.iaload, 1) := by decide +kernel
theorem dX11_lineCost_51 : decode prog_13_method_54_code 51 = .ok (.istore 5, 2) := by decide +kernel
theorem dX11_lineCost_53 : decode prog_13_method_54_code 53 = .ok (.iload 5, 2) := by decide +kernel
theorem dX11_lineCost_55 : decode prog_13_method_54_code 55 = .ok (.ldc 172, 2) := by decide +kernel
theorem dX11_lineCost_57 : decode prog_13_method_54_code 57 = .ok (.if_icmp .ne 8, 3) := by decide +kernel
theorem dX11_lineCost_60 : decode prog_13_method_54_code 60 = .ok (.ldc 172, 2) := by decide +kernel
theorem dX11_lineCost_62 : decode prog_13_method_54_code 62 = .ok (.goto 21, 3) := by decide +kernel
theorem dX11_lineCost_65 : decode prog_13_method_54_code 65 = .ok (.aload_n 0, 1) := by decide +kernel
theorem dX11_lineCost_66 : decode prog_13_method_54_code 66 = .ok (.iload_n 2, 1) := by decide +kernel
theorem dX11_lineCost_67 : decode prog_13_method_54_code 67 = .ok (.invokevirtual 279, 3) := by decide +kernel
theorem dX11_lineCost_70 : decode prog_13_method_54_code 70 = .ok (.aload_n 0, 1) := by decide +kernel
theorem dX11_lineCost_71 : decode prog_13_method_54_code 71 = .ok (.getfield 119, 3) := by decide +kernel
theorem dX11_lineCost_74 : decode prog_13_method_54_code 74 = .ok (.iload_n 1, 1) := by decide +kernel
theorem dX11_lineCost_75 : decode prog_13_method_54_code 75 = .ok (.iaload, 1) := by decide +kernel
theorem dX11_lineCost_76 : decode prog_13_method_54_code 76 = .ok (.imul, 1) := by decide +kernel
theorem dX11_lineCost_77 : decode prog_13_method_54_code 77 = .ok (.iload 4, 2) := by decide +kernel
theorem dX11_lineCost_79 : decode prog_13_method_54_code 79 = .ok (.iadd, 1) := by decide +kernel
theorem dX11_lineCost_80 : decode prog_13_method_54_code 80 = .ok (.iload 5, 2) := by decide +kernel
theorem dX11_lineCost_82 : decode prog_13_method_54_code 82 = .ok (.iadd, 1) := by decide +kernel
theorem dX11_lineCost_83 : decode prog_13_method_54_code 83 = .ok (.ireturn, 1) := by decide +kernel
abbrev rmX11_lineCost : Room := { frames := 2, cells := 0, slots := 0, locals := 43 }
def fX11_lineCost_51  (t0 : Nat) (v1 : Int32) (v2 : Int32) (v4 : Int32) (s0 : Int32) (h : Hp) : Option (Int32 × Hp) :=
  if s0 = 100000000 then
  (some (100000000, h))
  else
  (gk (h.1 t0) 12 <|
  b2 (fX11_ticksOf t0 v2 h) fun r5 g3 =>
  gk (g3.1 t0) 12 <|
  bd (g3.2.2.2.1 t0 55) fun a8 =>
  gk (g3.1 a8) 13 <|
  gd (ix v1 (g3.2.1 a8)) <|
  some (((r5 * (g3.2.2.1 a8 (Int32.toNatClampNeg v1))) + v4) + s0, g3))
def fX11_lineCost_17  (t0 : Nat) (v1 : Int32) (v2 : Int32) (v3 : Int32) (s0 : Int32) (h : Hp) : Option (Int32 × Hp) :=
  if v1 = v2 then
  (fX11_lineCost_51  t0 v1 v2 s0 0 h)
  else
  (if v3 = 0 then
  (fX11_lineCost_51  t0 v1 v2 s0 100000000 h)
  else
  (gk (h.1 t0) 12 <|
  bd (h.2.2.2.1 t0 51) fun a4 =>
  gk (h.1 a4) 13 <|
  gd (ix (((256 * v3) + v1) - v2) (h.2.1 a4)) <|
  fX11_lineCost_51  t0 v1 v2 s0 (h.2.2.1 a4 (Int32.toNatClampNeg (((256 * v3) + v1) - v2))) h))
def fX11_lineCost  (t0 : Nat) (v1 : Int32) (v2 : Int32) (v3 : Int32) (h : Hp) : Option (Int32 × Hp) :=
  b2 (fX11_isAlone v2 h) fun r3 g1 =>
  if r3 = 0 then
  (gk (g1.1 t0) 12 <|
  bd (g1.2.2.2.1 t0 52) fun a7 =>
  gk (g1.1 a7) 13 <|
  gd (ix v2 (g1.2.1 a7)) <|
  fX11_lineCost_17  t0 v1 v2 v3 (g1.2.2.1 a7 (Int32.toNatClampNeg v2)) g1)
  else
  (fX11_lineCost_17  t0 v1 v2 v3 0 g1)
section
variable {p : Program} {l : Launch} {e : Env} {s : State} {m : MethodId} {args : Array Value} {below : List Frame} {meth : Method} {c : Code} {D : va_G} {cA : Nat → ClassId} {h0 h9 : Hp}
set_option maxHeartbeats 4000000 in
set_option maxRecDepth 100000 in
theorem tX11_lineCost_51  {r : Int32} (cx : CallFix p m c prog_13_method_54_code 6 s args tbG RX11) (hr : meth.sig.returnType = (Option.some FieldType.int)) (hlk : meth.locks = false)  (t0 : Nat) (v1 : Int32) (v2 : Int32) (v4 : Int32) (s0 : Int32) (h : Hp) (H : Heap) (locs : List Loc) (ls : Array Slot) (hB : hp_B D cA (hp_A h0) s h H locs) (hl : lv_has ls 6 [(0, .ref t0), (1, .int v1), (2, .int v2), (4, .int v4)]) (hf : fX11_lineCost_51  t0 v1 v2 v4 s0 h = some (r, h9)) : W p l e rmX11_lineCost s m args below meth c H locs 0 0 (MQ below (hp_Qi D cA h0 h9 r) args s 0 0 (hp_A h0)) (F0 m 51 ls [.int s0]) := by
  obtain ⟨hx, hb, -⟩ := id cx
  unfold fX11_lineCost_51 at hf
  refine lv_istore (lv' := [(5, .int s0), (0, .ref t0), (1, .int v1), (2, .int v2), (4, .int v4)]) hx hb dX11_lineCost_51 hl (by decide) rfl (fun ls hl => ?_)
  refine lv_iload hx hb dX11_lineCost_53 (lv_at hl 0 rfl) ?_
  refine lv_ldc (v := 100000000) hx hb cx.2.2.2.1 (cx.2.2.2.2 _ (tb_in qw_993 rfl)) dX11_lineCost_55 ?_
  refine lv_icmp_ne (tgt := 65) hx hb dX11_lineCost_57 (by decide) (fun c1 => ?_) (fun c1 => ?_)
  · replace hf := it_f c1 hf
    refine lv_aload_n hx hb dX11_lineCost_65 rfl (lv_at hl 1 rfl) ?_
    refine lv_iload_n hx hb dX11_lineCost_66 rfl (lv_at hl 3 rfl) ?_
    obtain ⟨k2, hf⟩ := gk_ok hf
    obtain ⟨r5, g3, m4, hf⟩ := b2_ok hf
    refine hp_cI0 (cl_X11_279 cx hB (cX11_ticksOf l D cA t0 v2 h _ g3 m4) k2 ⟨Nat.le_of_ble_eq_true rfl, Nat.le_of_ble_eq_true rfl⟩ rfl hl.1 rfl (Nat.le_of_ble_eq_true rfl) ⟨Nat.le_of_ble_eq_true rfl, Nat.le_of_ble_eq_true rfl⟩ dX11_lineCost_67) rfl rfl hB (fun H locs hB => ?_)
    refine lv_aload_n hx hb dX11_lineCost_70 rfl (lv_at hl 1 rfl) ?_
    obtain ⟨k7, hf⟩ := gk_ok hf
    obtain ⟨a8, q9, hf⟩ := bd_ok hf
    refine gf_X11_119 cx hB k7 q9 dX11_lineCost_71 ?_
    refine lv_iload_n hx hb dX11_lineCost_74 rfl (lv_at hl 2 rfl) ?_
    obtain ⟨k10, hf⟩ := gk_ok hf
    obtain ⟨j11, hf⟩ := gd_ok hf
    refine hp_iald cx hB k10 j11 dX11_lineCost_75 ?_
    refine lv_imul hx hb dX11_lineCost_76 ?_
    refine lv_iload hx hb dX11_lineCost_77 (lv_at hl 4 rfl) ?_
    refine lv_iadd hx hb dX11_lineCost_79 ?_
    refine lv_iload hx hb dX11_lineCost_80 (lv_at hl 0 rfl) ?_
    refine lv_iadd hx hb dX11_lineCost_82 ?_
    obtain ⟨rfl, rfl⟩ := rt_ok hf
    exact hp_iret cx hB hr hlk (Nat.le_of_ble_eq_true rfl) (Nat.le_of_ble_eq_true rfl) dX11_lineCost_83
  · replace hf := it_t c1 hf
    refine lv_ldc (v := 100000000) hx hb cx.2.2.2.1 (cx.2.2.2.2 _ (tb_in qw_993 rfl)) dX11_lineCost_60 ?_
    refine lv_goto (tgt := 83) hx hb dX11_lineCost_62 (by decide) ?_
    obtain ⟨rfl, rfl⟩ := rt_ok hf
    exact hp_iret cx hB hr hlk (Nat.le_of_ble_eq_true rfl) (Nat.le_of_ble_eq_true rfl) dX11_lineCost_83
set_option maxHeartbeats 4000000 in
set_option maxRecDepth 100000 in
theorem tX11_lineCost_17  {r : Int32} (cx : CallFix p m c prog_13_method_54_code 6 s args tbG RX11) (hr : meth.sig.returnType = (Option.some FieldType.int)) (hlk : meth.locks = false)  (t0 : Nat) (v1 : Int32) (v2 : Int32) (v3 : Int32) (s0 : Int32) (h : Hp) (H : Heap) (locs : List Loc) (ls : Array Slot) (hB : hp_B D cA (hp_A h0) s h H locs) (hl : lv_has ls 6 [(0, .ref t0), (1, .int v1), (2, .int v2), (3, .int v3)]) (hf : fX11_lineCost_17  t0 v1 v2 v3 s0 h = some (r, h9)) : W p l e rmX11_lineCost s m args below meth c H locs 0 0 (MQ below (hp_Qi D cA h0 h9 r) args s 0 0 (hp_A h0)) (F0 m 17 ls [.int s0]) := by
  obtain ⟨hx, hb, -⟩ := id cx
  unfold fX11_lineCost_17 at hf
  refine lv_istore (lv' := [(4, .int s0), (0, .ref t0), (1, .int v1), (2, .int v2), (3, .int v3)]) hx hb dX11_lineCost_17 hl (by decide) rfl (fun ls hl => ?_)
  refine lv_iload_n hx hb dX11_lineCost_19 rfl (lv_at hl 2 rfl) ?_
  refine lv_iload_n hx hb dX11_lineCost_20 rfl (lv_at hl 3 rfl) ?_
  refine lv_icmp_ne (tgt := 28) hx hb dX11_lineCost_21 (by decide) (fun c1 => ?_) (fun c1 => ?_)
  · replace hf := it_f c1 hf
    refine lv_iload_n hx hb dX11_lineCost_28 rfl (lv_at hl 4 rfl) ?_
    refine lv_if_ne (tgt := 37) hx hb dX11_lineCost_29 (by decide) (fun c2 => ?_) (fun c2 => ?_)
    · replace hf := it_f c2 hf
      refine lv_aload_n hx hb dX11_lineCost_37 rfl (lv_at hl 1 rfl) ?_
      obtain ⟨k3, hf⟩ := gk_ok hf
      obtain ⟨a4, q5, hf⟩ := bd_ok hf
      refine gf_X11_113 cx hB k3 q5 dX11_lineCost_38 ?_
      refine lv_sipush (v := 256) hx hb dX11_lineCost_41 (by decide) ?_
      refine lv_iload_n hx hb dX11_lineCost_44 rfl (lv_at hl 4 rfl) ?_
      refine lv_imul hx hb dX11_lineCost_45 ?_
      refine lv_iload_n hx hb dX11_lineCost_46 rfl (lv_at hl 2 rfl) ?_
      refine lv_iadd hx hb dX11_lineCost_47 ?_
      refine lv_iload_n hx hb dX11_lineCost_48 rfl (lv_at hl 3 rfl) ?_
      refine lv_isub hx hb dX11_lineCost_49 ?_
      obtain ⟨k6, hf⟩ := gk_ok hf
      obtain ⟨j7, hf⟩ := gd_ok hf
      refine hp_iald cx hB k6 j7 dX11_lineCost_50 ?_
      exact tX11_lineCost_51 cx hr hlk  t0 v1 v2 s0 (h.2.2.1 a4 (Int32.toNatClampNeg (((256 * v3) + v1) - v2))) h _ _ _ hB (lv_sub hl [1, 2, 3, 0] rfl) hf
    · replace hf := it_t c2 hf
      refine lv_ldc (v := 100000000) hx hb cx.2.2.2.1 (cx.2.2.2.2 _ (tb_in qw_993 rfl)) dX11_lineCost_32 ?_
      refine lv_goto (tgt := 51) hx hb dX11_lineCost_34 (by decide) ?_
      exact tX11_lineCost_51 cx hr hlk  t0 v1 v2 s0 100000000 h _ _ _ hB (lv_sub hl [1, 2, 3, 0] rfl) hf
  · replace hf := it_t c1 hf
    refine lv_iconst (v := 0) hx hb dX11_lineCost_24 (by decide) ?_
    refine lv_goto (tgt := 51) hx hb dX11_lineCost_25 (by decide) ?_
    exact tX11_lineCost_51 cx hr hlk  t0 v1 v2 s0 0 h _ _ _ hB (lv_sub hl [1, 2, 3, 0] rfl) hf
set_option maxHeartbeats 4000000 in
set_option maxRecDepth 100000 in
theorem tX11_lineCost_0  {r : Int32} (cx : CallFix p m c prog_13_method_54_code 6 s args tbG RX11) (hr : meth.sig.returnType = (Option.some FieldType.int)) (hlk : meth.locks = false)  (t0 : Nat) (v1 : Int32) (v2 : Int32) (v3 : Int32) (h : Hp) (H : Heap) (locs : List Loc) (ls : Array Slot) (hB : hp_B D cA (hp_A h0) s h H locs) (hl : lv_has ls 6 [(0, .ref t0), (1, .int v1), (2, .int v2), (3, .int v3)]) (hf : fX11_lineCost  t0 v1 v2 v3 h = some (r, h9)) : W p l e rmX11_lineCost s m args below meth c H locs 0 0 (MQ below (hp_Qi D cA h0 h9 r) args s 0 0 (hp_A h0)) (F0 m 0 ls []) := by
  obtain ⟨hx, hb, -⟩ := id cx
  unfold fX11_lineCost at hf
  refine lv_iload_n hx hb dX11_lineCost_0 rfl (lv_at hl 2 rfl) ?_
  obtain ⟨r3, g1, m2, hf⟩ := b2_ok hf
  refine hp_cI0 (cl_X11_276 cx hB (cX11_isAlone l D cA v2 h _ g1 m2) ⟨Nat.le_of_ble_eq_true rfl, Nat.le_of_ble_eq_true rfl⟩ rfl hl.1 rfl (Nat.le_of_ble_eq_true rfl) ⟨Nat.le_of_ble_eq_true rfl, Nat.le_of_ble_eq_true rfl⟩ dX11_lineCost_1) rfl rfl hB (fun H locs hB => ?_)
  refine lv_if_eq (tgt := 11) hx hb dX11_lineCost_4 (by decide) (fun c5 => ?_) (fun c5 => ?_)
  · replace hf := it_t c5 hf
    refine lv_aload_n hx hb dX11_lineCost_11 rfl (lv_at hl 0 rfl) ?_
    obtain ⟨k6, hf⟩ := gk_ok hf
    obtain ⟨a7, q8, hf⟩ := bd_ok hf
    refine gf_X11_116 cx hB k6 q8 dX11_lineCost_12 ?_
    refine lv_iload_n hx hb dX11_lineCost_15 rfl (lv_at hl 2 rfl) ?_
    obtain ⟨k9, hf⟩ := gk_ok hf
    obtain ⟨j10, hf⟩ := gd_ok hf
    refine hp_iald cx hB k9 j10 dX11_lineCost_16 ?_
    exact tX11_lineCost_17 cx hr hlk  t0 v1 v2 v3 (g1.2.2.1 a7 (Int32.toNatClampNeg v2)) g1 _ _ _ hB (lv_sub hl [0, 1, 2, 3] rfl) hf
  · replace hf := it_f c5 hf
    refine lv_iconst (v := 0) hx hb dX11_lineCost_7 (by decide) ?_
    refine lv_goto (tgt := 17) hx hb dX11_lineCost_8 (by decide) ?_
    exact tX11_lineCost_17 cx hr hlk  t0 v1 v2 v3 0 g1 _ _ _ hB (lv_sub hl [0, 1, 2, 3] rfl) hf
end
set_option maxHeartbeats 4000000 in
set_option maxRecDepth 100000 in
theorem cX11_lineCost (l : Launch) (D : va_G) (cA : Nat → ClassId) (t0 : Nat) (v1 : Int32) (v2 : Int32) (v3 : Int32) (h : Hp) (r : Int32) (h9 : Hp) (hf : fX11_lineCost t0 v1 v2 v3 h = some (r, h9)) : hp_M l yX11_lineCost prog_13_method_54_code 6 (Option.some FieldType.int) rmX11_lineCost D cA h [.ref t0, .int v1, .int v2, .int v3] (hp_Qi D cA h h9 r) := by
  refine Met.ofW (cc := prog_13_method_54_code) (maxL := 6) (ret := (Option.some FieldType.int)) (by decide) rfl ?_
  intro p e s m args below meth c s₁ B hml hv
  obtain ⟨rfl, hU⟩ := hv
  have hts := atoms_spec (ws := Cond.code yX11_lineCost prog_13_method_54_code 6 (Option.some FieldType.int) :: tbG) B.pre
  have hl := lv_entry ([.ref t0, .int v1, .int v2, .int v3]) (n := 6) (Nat.le_of_ble_eq_true rfl)
  rw [lg_entry_eq]
  generalize (lg_sl ([.ref t0, .int v1, .int v2, .int v3]) ++ List.replicate (6 - (lg_sl ([.ref t0, .int v1, .int v2, .int v3])).length) Slot.unset).toArray = ls at hl ⊢
  exact tX11_lineCost_0 ⟨B.exec, B.bytes, hml, findClass_of_methodNamed B.named, fun w hw => hts w (List.mem_cons_of_mem _ hw)⟩ B.returns B.notSynchronized t0 v1 v2 v3 h _ _ _ (hp_B.entry hU) hl hf
section
variable {p : Program} {l : Launch} {e : Env} {R : Room} {s : State} {m : MethodId} {args : Array Value} {below : List Frame} {meth : Method} {c : Code} {H : Heap} {locs : List Loc} {cells slots : Nat} {Q : State → Prop}
variable {cc : ByteArray} {pc nL : Nat} {ls : Array Slot} {rest : List Value} {D : va_G} {cA : Nat → ClassId} {A : Nat → Prop} {a : Nat} {h : Hp}
theorem cl_X11_282 {As st0 : List Value} {b : Nat} {Qc : Array Value → State → Outcome → State → Prop} (cx : CallFix p m c cc nL s args tbG RX11) (hB : hp_B D cA A s h H locs) (hM : hp_M l yX11_lineCost prog_13_method_54_code 6 (Option.some FieldType.int) rmX11_lineCost D cA h (.ref b :: As) Qc) (hkb : h.1 b = 12) (hR : rmX11_lineCost.frames + 1 ≤ R.frames ∧ 8 + (6 + 11) + rmX11_lineCost.locals ≤ R.locals) (hn : As.length = 3) (hls : ls.size = nL) (hst : st0 = As.reverse ++ .ref b :: rest) (hW : (rest.map fun v => v.category).sum ≤ 8) (hf : cells + rmX11_lineCost.cells ≤ R.cells ∧ slots + rmX11_lineCost.slots ≤ R.slots) (hdg : decode cc pc = .ok (.invokevirtual 282, 3)) :
    va_Run p l e R s m args below meth c H locs cells slots rmX11_lineCost.cells rmX11_lineCost.slots (F0 m pc ls st0) rest (Qc (Value.ref b :: As).toArray) (hp_A h) :=
  hp_runV cx hB hM (ci := 11) rfl (by decide) hkb qw_1116 qw_1113 qw_1115 qp_39 qw_10 (by decide +kernel) hR hn hls hst hW hf hdg
end
abbrev yX11_leastLine : MethodName := ⟨"SpokenMenusModel", "leastLine", "(IIZ)I"⟩
theorem dX11_leastLine_0 : decode prog_13_method_55_code 0 = .ok (.ldc 172, 2) := by decide +kernel
theorem dX11_leastLine_2 : decode prog_13_method_55_code 2 = .ok (.istore 4, 2) := by decide +kernel
theorem dX11_leastLine_4 : decode prog_13_method_55_code 4 = .ok (.iconst 1, 1) := by decide +kernel
theorem dX11_leastLine_5 : decode prog_13_method_55_code 5 = .ok (.istore 5, 2) := by decide +kernel
theorem dX11_leastLine_7 : decode prog_13_method_55_code 7 = .ok (.iload 5, 2) := by decide +kernel
theorem dX11_leastLine_9 : decode prog_13_method_55_code 9 = .ok (.iload_n 1, 1) := by decide +kernel
theorem dX11_leastLine_10 : decode prog_13_method_55_code 10 = .ok (.if_icmp .gt 80, 3) := by decide +kernel
theorem dX11_leastLine_13 : decode prog_13_method_55_code 13 = .ok (.iload 5, 2) := by decide +kernel
theorem dX11_leastLine_15 : decode prog_13_method_55_code 15 = .ok (.iload_n 1, 1) := by decide +kernel
theorem dX11_leastLine_16 : decode prog_13_method_55_code 16 = .ok (.iconst (-1), 1) := by decide +kernel
theorem dX11_leastLine_17 : decode prog_13_method_55_code 17 = .ok (.ixor, 1) := by decide +kernel
theorem dX11_leastLine_18 : decode prog_13_method_55_code 18 = .ok (.iand, 1) := by decide +kernel
theorem dX11_leastLine_19 : decode prog_13_method_55_code 19 = .ok (.ifCond .ne 24, 3) := by decide +kernel
theorem dX11_leastLine_22 : decode prog_13_method_55_code 22 = .ok (.iload_n 3, 1) := by decide +kernel
theorem dX11_leastLine_23 : decode prog_13_method_55_code 23 = .ok (.ifCond .ne 16, 3) := by decide +kernel
theorem dX11_leastLine_26 : decode prog_13_method_55_code 26 = .ok (.iload 5, 2) := by decide +kernel
theorem dX11_leastLine_28 : decode prog_13_method_55_code 28 = .ok (.iload_n 1, 1) := by decide +kernel
theorem dX11_leastLine_29 : decode prog_13_method_55_code 29 = .ok (.if_icmp .ne 10, 3) := by decide +kernel
theorem dX11_leastLine_32 : decode prog_13_method_55_code 32 = .ok (.iload_n 1, 1) := by decide +kernel
theorem dX11_leastLine_33 : decode prog_13_method_55_code 33 = .ok (.invokestatic 276, 3) := by decide +kernel
theorem dX11_leastLine_36 : decode prog_13_method_55_code 36 = .ok (.ifCond .eq 7, 3) := by decide +kernel
theorem dX11_leastLine_39 : decode prog_13_method_55_code 39 = .ok (.iconst 1, 1) := by decide +kernel
theorem dX11_leastLine_40 : decode prog_13_method_55_code 40 = .ok (.goto 4, 3) := by decide +kernel
theorem dX11_leastLine_43 : decode prog_13_method_55_code 43 = .ok (.iconst 0, 1) := by decide +kernel
theorem dX11_leastLine_44 : decode prog_13_method_55_code 44 = .ok (.istore 6, 2) := by decide +kernel
theorem dX11_leastLine_46 : decode prog_13_method_55_code 46 = .ok (.iload 6, 2) := by decide +kernel
theorem dX11_leastLine_48 : decode prog_13_method_55_code 48 = .ok (.ifCond .eq 16, 3) := by decide +kernel
theorem dX11_leastLine_51 : decode prog_13_method_55_code 51 = .ok (.aload_n 0, 1) := by decide +kernel
theorem dX11_leastLine_52 : decode prog_13_method_55_code 52 = .ok (.iload_n 1, 1) := by decide +kernel
theorem dX11_leastLine_53 : decode prog_13_method_55_code 53 = .ok (.iload 5, 2) := by decide +kernel
theorem dX11_leastLine_55 : decode prog_13_method_55_code 55 = .ok (.iload_n 2, 1) := by decide +kernel
theorem dX11_leastLine_56 : decode prog_13_method_55_code 56 = .ok (.iconst 1, 1) := by decide +kernel
theorem dX11_leastLine_57 : decode prog_13_method_55_code 57 = .ok (.isub, 1) := by decide +kernel
theorem dX11_leastLine_58 : decode prog_13_method_55_code 58 = .ok (.invokevirtual 282, 3) := by decide +kernel
theorem dX11_leastLine_61 : decode prog_13_method_55_code 61 = .ok (.goto 5, 3) := by decide +kernel
theorem dX11_leastLine_64 : decode prog_13_method_55_code 64 = .ok (.ldc 172, 2) := by decide +kernel
theorem dX11_leastLine_66 : decode prog_13_method_55_code 66 = .ok (.istore 7, 2) := by decide +kernel
theorem dX11_leastLine_68 : decode prog_13_method_55_code 68 = .ok (.iload 7, 2) := by decide +kernel
theorem dX11_leastLine_70 : decode prog_13_method_55_code 70 = .ok (.iload 4, 2) := by decide +kernel
theorem dX11_leastLine_72 : decode prog_13_method_55_code 72 = .ok (.if_icmp .ge 8, 3) := by decide +kernel
theorem dX11_leastLine_75 : decode prog_13_method_55_code 75 = .ok (.iload 7, 2) := by decide +kernel
theorem dX11_leastLine_77 : decode prog_13_method_55_code 77 = .ok (.goto 5, 3) := by decide +kernel
theorem dX11_leastLine_80 : decode prog_13_method_55_code 80 = .ok (.iload 4, 2) := by decide +kernel
theorem dX11_leastLine_82 : decode prog_13_method_55_code 82 = .ok (.istore 4, 2) := by decide +kernel
theorem dX11_leastLine_84 : decode prog_13_method_55_code 84 = .ok (.iinc 5 1, 3) := by decide +kernel
theorem dX11_leastLine_87 : decode prog_13_method_55_code 87 = .ok (.goto (-80), 3) := by decide +kernel
theorem dX11_leastLine_90 : decode prog_13_method_55_code 90 = .ok (.iload 4, 2) := by decide +kernel
theorem dX11_leastLine_92 : decode prog_13_method_55_code 92 = .ok (.ireturn, 1) := by decide +kernel
abbrev rmX11_leastLine : Room := { frames := 3, cells := 0, slots := 0, locals := 68 }
def fX11_leastLine_66 (rc7 : Nat → Int32 → Int32 → Int32 → Int32 → Int32 → Hp → Option (Int32 × Hp)) (t0 : Nat) (v1 : Int32) (v2 : Int32) (v3 : Int32) (v4 : Int32) (v5 : Int32) (s0 : Int32) (h : Hp) : Option (Int32 × Hp) :=
  if v4 ≤ s0 then
  (nm (v5 + 1) fun x2 =>
  rc7 t0 v1 v2 v3 v4 x2 h)
  else
  (nm (v5 + 1) fun x3 =>
  rc7 t0 v1 v2 v3 s0 x3 h)
def fX11_leastLine_44 (rc7 : Nat → Int32 → Int32 → Int32 → Int32 → Int32 → Hp → Option (Int32 × Hp)) (t0 : Nat) (v1 : Int32) (v2 : Int32) (v3 : Int32) (v4 : Int32) (v5 : Int32) (s0 : Int32) (h : Hp) : Option (Int32 × Hp) :=
  if s0 = 0 then
  (fX11_leastLine_66 rc7 t0 v1 v2 v3 v4 v5 100000000 h)
  else
  (gk (h.1 t0) 12 <|
  b2 (fX11_lineCost t0 v1 v5 (v2 - 1) h) fun r5 g3 =>
  fX11_leastLine_66 rc7 t0 v1 v2 v3 v4 v5 r5 g3)
def bX11_leastLine_7  (rc : Nat → Int32 → Int32 → Int32 → Int32 → Int32 → Hp → Option (Int32 × Hp)) (t0 : Nat) (v1 : Int32) (v2 : Int32) (v3 : Int32) (v4 : Int32) (v5 : Int32) (h : Hp) : Option (Int32 × Hp) :=
  if v1 < v5 then
  (some (v4, h))
  else
  (if (v5 &&& (v1 ^^^ (-1))) = 0 then
  (if v3 = 0 then
  (if v5 = v1 then
  (b2 (fX11_isAlone v1 h) fun r7 g5 =>
  if r7 = 0 then
  (fX11_leastLine_44 rc t0 v1 v2 v3 v4 v5 0 g5)
  else
  (fX11_leastLine_44 rc t0 v1 v2 v3 v4 v5 1 g5))
  else
  (fX11_leastLine_44 rc t0 v1 v2 v3 v4 v5 1 h))
  else
  (fX11_leastLine_44 rc t0 v1 v2 v3 v4 v5 1 h))
  else
  (fX11_leastLine_44 rc t0 v1 v2 v3 v4 v5 0 h))
def fX11_leastLine_7  : Nat → Int32 → Int32 → Int32 → Int32 → Int32 → Hp → Option (Int32 × Hp) := fx (bX11_leastLine_7 ) (fun _ _ _ _ _ _ _ => none) NF
def fX11_leastLine  (t0 : Nat) (v1 : Int32) (v2 : Int32) (v3 : Int32) (h : Hp) : Option (Int32 × Hp) :=
  fX11_leastLine_7  t0 v1 v2 v3 100000000 1 h
section
variable {p : Program} {l : Launch} {e : Env} {s : State} {m : MethodId} {args : Array Value} {below : List Frame} {meth : Method} {c : Code} {D : va_G} {cA : Nat → ClassId} {h0 h9 : Hp}
set_option maxHeartbeats 4000000 in
set_option maxRecDepth 100000 in
theorem tX11_leastLine_66 {rc7 : Nat → Int32 → Int32 → Int32 → Int32 → Int32 → Hp → Option (Int32 × Hp)} {r : Int32} (cx : CallFix p m c prog_13_method_55_code 8 s args tbG RX11) (hr : meth.sig.returnType = (Option.some FieldType.int)) (hlk : meth.locks = false) (hr7 : ∀ (t0 : Nat) (v1 : Int32) (v2 : Int32) (v3 : Int32) (v4 : Int32) (v5 : Int32) (h : Hp) (H : Heap) (locs : List Loc) (ls : Array Slot), hp_B D cA (hp_A h0) s h H locs → lv_has ls 8 [(0, .ref t0), (1, .int v1), (2, .int v2), (3, .int v3), (4, .int v4), (5, .int v5)] → rc7 t0 v1 v2 v3 v4 v5 h = some (r, h9) → W p l e rmX11_leastLine s m args below meth c H locs 0 0 (MQ below (hp_Qi D cA h0 h9 r) args s 0 0 (hp_A h0)) (F0 m 7 ls [])) (t0 : Nat) (v1 : Int32) (v2 : Int32) (v3 : Int32) (v4 : Int32) (v5 : Int32) (s0 : Int32) (h : Hp) (H : Heap) (locs : List Loc) (ls : Array Slot) (hB : hp_B D cA (hp_A h0) s h H locs) (hl : lv_has ls 8 [(0, .ref t0), (1, .int v1), (2, .int v2), (3, .int v3), (4, .int v4), (5, .int v5)]) (hf : fX11_leastLine_66 rc7 t0 v1 v2 v3 v4 v5 s0 h = some (r, h9)) : W p l e rmX11_leastLine s m args below meth c H locs 0 0 (MQ below (hp_Qi D cA h0 h9 r) args s 0 0 (hp_A h0)) (F0 m 66 ls [.int s0]) := by
  obtain ⟨hx, hb, -⟩ := id cx
  unfold fX11_leastLine_66 at hf
  refine lv_istore (lv' := [(7, .int s0), (0, .ref t0), (1, .int v1), (2, .int v2), (3, .int v3), (4, .int v4), (5, .int v5)]) hx hb dX11_leastLine_66 hl (by decide) rfl (fun ls hl => ?_)
  refine lv_iload hx hb dX11_leastLine_68 (lv_at hl 0 rfl) ?_
  refine lv_iload hx hb dX11_leastLine_70 (lv_at hl 5 rfl) ?_
  refine lv_icmp_ge (tgt := 80) hx hb dX11_leastLine_72 (by decide) (fun c1 => ?_) (fun c1 => ?_)
  · replace hf := it_t c1 hf
    refine lv_iload hx hb dX11_leastLine_80 (lv_at hl 5 rfl) ?_
    refine lv_istore (lv' := [(4, .int v4), (7, .int s0), (0, .ref t0), (1, .int v1), (2, .int v2), (3, .int v3), (5, .int v5)]) hx hb dX11_leastLine_82 hl (by decide) rfl (fun ls hl => ?_)
    obtain ⟨x2, ex2, hf⟩ := nm_ok hf
    refine lv_iinc (v := x2) (lv' := [(5, .int x2), (4, .int v4), (7, .int s0), (0, .ref t0), (1, .int v1), (2, .int v2), (3, .int v3)]) hx hb dX11_leastLine_84 hl (k := 6) rfl (by rw [ex2]; rfl) (by decide) rfl (fun ls hl => ?_)
    refine lv_goto (tgt := 7) hx hb dX11_leastLine_87 (by decide) ?_
    exact hr7 t0 v1 v2 v3 v4 x2 h _ _ _ hB (lv_sub hl [3, 4, 5, 6, 1, 0] rfl) hf
  · replace hf := it_f c1 hf
    refine lv_iload hx hb dX11_leastLine_75 (lv_at hl 0 rfl) ?_
    refine lv_goto (tgt := 82) hx hb dX11_leastLine_77 (by decide) ?_
    refine lv_istore (lv' := [(4, .int s0), (7, .int s0), (0, .ref t0), (1, .int v1), (2, .int v2), (3, .int v3), (5, .int v5)]) hx hb dX11_leastLine_82 hl (by decide) rfl (fun ls hl => ?_)
    obtain ⟨x3, ex3, hf⟩ := nm_ok hf
    refine lv_iinc (v := x3) (lv' := [(5, .int x3), (4, .int s0), (7, .int s0), (0, .ref t0), (1, .int v1), (2, .int v2), (3, .int v3)]) hx hb dX11_leastLine_84 hl (k := 6) rfl (by rw [ex3]; rfl) (by decide) rfl (fun ls hl => ?_)
    refine lv_goto (tgt := 7) hx hb dX11_leastLine_87 (by decide) ?_
    exact hr7 t0 v1 v2 v3 s0 x3 h _ _ _ hB (lv_sub hl [3, 4, 5, 6, 1, 0] rfl) hf
set_option maxHeartbeats 4000000 in
set_option maxRecDepth 100000 in
theorem tX11_leastLine_44 {rc7 : Nat → Int32 → Int32 → Int32 → Int32 → Int32 → Hp → Option (Int32 × Hp)} {r : Int32} (cx : CallFix p m c prog_13_method_55_code 8 s args tbG RX11) (hr : meth.sig.returnType = (Option.some FieldType.int)) (hlk : meth.locks = false) (hr7 : ∀ (t0 : Nat) (v1 : Int32) (v2 : Int32) (v3 : Int32) (v4 : Int32) (v5 : Int32) (h : Hp) (H : Heap) (locs : List Loc) (ls : Array Slot), hp_B D cA (hp_A h0) s h H locs → lv_has ls 8 [(0, .ref t0), (1, .int v1), (2, .int v2), (3, .int v3), (4, .int v4), (5, .int v5)] → rc7 t0 v1 v2 v3 v4 v5 h = some (r, h9) → W p l e rmX11_leastLine s m args below meth c H locs 0 0 (MQ below (hp_Qi D cA h0 h9 r) args s 0 0 (hp_A h0)) (F0 m 7 ls [])) (t0 : Nat) (v1 : Int32) (v2 : Int32) (v3 : Int32) (v4 : Int32) (v5 : Int32) (s0 : Int32) (h : Hp) (H : Heap) (locs : List Loc) (ls : Array Slot) (hB : hp_B D cA (hp_A h0) s h H locs) (hl : lv_has ls 8 [(0, .ref t0), (1, .int v1), (2, .int v2), (3, .int v3), (4, .int v4), (5, .int v5)]) (hf : fX11_leastLine_44 rc7 t0 v1 v2 v3 v4 v5 s0 h = some (r, h9)) : W p l e rmX11_leastLine s m args below meth c H locs 0 0 (MQ below (hp_Qi D cA h0 h9 r) args s 0 0 (hp_A h0)) (F0 m 44 ls [.int s0]) := by
  obtain ⟨hx, hb, -⟩ := id cx
  unfold fX11_leastLine_44 at hf
  refine lv_istore (lv' := [(6, .int s0), (0, .ref t0), (1, .int v1), (2, .int v2), (3, .int v3), (4, .int v4), (5, .int v5)]) hx hb dX11_leastLine_44 hl (by decide) rfl (fun ls hl => ?_)
  refine lv_iload hx hb dX11_leastLine_46 (lv_at hl 0 rfl) ?_
  refine lv_if_eq (tgt := 64) hx hb dX11_leastLine_48 (by decide) (fun c1 => ?_) (fun c1 => ?_)
  · replace hf := it_t c1 hf
    refine lv_ldc (v := 100000000) hx hb cx.2.2.2.1 (cx.2.2.2.2 _ (tb_in qw_993 rfl)) dX11_leastLine_64 ?_
    exact tX11_leastLine_66 cx hr hlk hr7 t0 v1 v2 v3 v4 v5 100000000 h _ _ _ hB (lv_sub hl [1, 2, 3, 4, 5, 6] rfl) hf
  · replace hf := it_f c1 hf
    refine lv_aload_n hx hb dX11_leastLine_51 rfl (lv_at hl 1 rfl) ?_
    refine lv_iload_n hx hb dX11_leastLine_52 rfl (lv_at hl 2 rfl) ?_
    refine lv_iload hx hb dX11_leastLine_53 (lv_at hl 6 rfl) ?_
    refine lv_iload_n hx hb dX11_leastLine_55 rfl (lv_at hl 3 rfl) ?_
    refine lv_iconst (v := 1) hx hb dX11_leastLine_56 (by decide) ?_
    refine lv_isub hx hb dX11_leastLine_57 ?_
    obtain ⟨k2, hf⟩ := gk_ok hf
    obtain ⟨r5, g3, m4, hf⟩ := b2_ok hf
    refine hp_cI0 (cl_X11_282 cx hB (cX11_lineCost l D cA t0 v1 v5 (v2 - 1) h _ g3 m4) k2 ⟨Nat.le_of_ble_eq_true rfl, Nat.le_of_ble_eq_true rfl⟩ rfl hl.1 rfl (Nat.le_of_ble_eq_true rfl) ⟨Nat.le_of_ble_eq_true rfl, Nat.le_of_ble_eq_true rfl⟩ dX11_leastLine_58) rfl rfl hB (fun H locs hB => ?_)
    refine lv_goto (tgt := 66) hx hb dX11_leastLine_61 (by decide) ?_
    exact tX11_leastLine_66 cx hr hlk hr7 t0 v1 v2 v3 v4 v5 r5 g3 _ _ _ hB (lv_sub hl [1, 2, 3, 4, 5, 6] rfl) hf
set_option maxHeartbeats 4000000 in
set_option maxRecDepth 100000 in
theorem tX11_leastLine_7  {r : Int32} (cx : CallFix p m c prog_13_method_55_code 8 s args tbG RX11) (hr : meth.sig.returnType = (Option.some FieldType.int)) (hlk : meth.locks = false)  (n : Nat) : ∀ (t0 : Nat) (v1 : Int32) (v2 : Int32) (v3 : Int32) (v4 : Int32) (v5 : Int32) (h : Hp) (H : Heap) (locs : List Loc) (ls : Array Slot), hp_B D cA (hp_A h0) s h H locs → lv_has ls 8 [(0, .ref t0), (1, .int v1), (2, .int v2), (3, .int v3), (4, .int v4), (5, .int v5)] → fx (bX11_leastLine_7 ) (fun _ _ _ _ _ _ _ => none) n t0 v1 v2 v3 v4 v5 h = some (r, h9) → W p l e rmX11_leastLine s m args below meth c H locs 0 0 (MQ below (hp_Qi D cA h0 h9 r) args s 0 0 (hp_A h0)) (F0 m 7 ls []) := by
  obtain ⟨hx, hb, -⟩ := id cx
  induction n with
  | zero => intro t0 v1 v2 v3 v4 v5 h H locs ls hB hl hf; cases hf
  | succ n ih =>
    intro t0 v1 v2 v3 v4 v5 h H locs ls hB hl hf
    replace hf : bX11_leastLine_7  (fx (bX11_leastLine_7 ) (fun _ _ _ _ _ _ _ => none) n) t0 v1 v2 v3 v4 v5 h = some (r, h9) := hf
    unfold bX11_leastLine_7 at hf
    refine lv_iload hx hb dX11_leastLine_7 (lv_at hl 5 rfl) ?_
    refine lv_iload_n hx hb dX11_leastLine_9 rfl (lv_at hl 1 rfl) ?_
    refine lv_icmp_gt (tgt := 90) hx hb dX11_leastLine_10 (by decide) (fun c1 => ?_) (fun c1 => ?_)
    · replace hf := it_t c1 hf
      refine lv_iload hx hb dX11_leastLine_90 (lv_at hl 4 rfl) ?_
      obtain ⟨rfl, rfl⟩ := rt_ok hf
      exact hp_iret cx hB hr hlk (Nat.le_of_ble_eq_true rfl) (Nat.le_of_ble_eq_true rfl) dX11_leastLine_92
    · replace hf := it_f c1 hf
      refine lv_iload hx hb dX11_leastLine_13 (lv_at hl 5 rfl) ?_
      refine lv_iload_n hx hb dX11_leastLine_15 rfl (lv_at hl 1 rfl) ?_
      refine lv_iconst (v := (-1)) hx hb dX11_leastLine_16 (by decide) ?_
      refine lv_ixor hx hb dX11_leastLine_17 ?_
      refine lv_iand hx hb dX11_leastLine_18 ?_
      refine lv_if_ne (tgt := 43) hx hb dX11_leastLine_19 (by decide) (fun c2 => ?_) (fun c2 => ?_)
      · replace hf := it_f c2 hf
        refine lv_iconst (v := 0) hx hb dX11_leastLine_43 (by decide) ?_
        exact tX11_leastLine_44 cx hr hlk ih t0 v1 v2 v3 v4 v5 0 h _ _ _ hB (lv_sub hl [0, 1, 2, 3, 4, 5] rfl) hf
      · replace hf := it_t c2 hf
        refine lv_iload_n hx hb dX11_leastLine_22 rfl (lv_at hl 3 rfl) ?_
        refine lv_if_ne (tgt := 39) hx hb dX11_leastLine_23 (by decide) (fun c3 => ?_) (fun c3 => ?_)
        · replace hf := it_f c3 hf
          refine lv_iconst (v := 1) hx hb dX11_leastLine_39 (by decide) ?_
          refine lv_goto (tgt := 44) hx hb dX11_leastLine_40 (by decide) ?_
          exact tX11_leastLine_44 cx hr hlk ih t0 v1 v2 v3 v4 v5 1 h _ _ _ hB (lv_sub hl [0, 1, 2, 3, 4, 5] rfl) hf
        · replace hf := it_t c3 hf
          refine lv_iload hx hb dX11_leastLine_26 (lv_at hl 5 rfl) ?_
          refine lv_iload_n hx hb dX11_leastLine_28 rfl (lv_at hl 1 rfl) ?_
          refine lv_icmp_ne (tgt := 39) hx hb dX11_leastLine_29 (by decide) (fun c4 => ?_) (fun c4 => ?_)
          · replace hf := it_f c4 hf
            refine lv_iconst (v := 1) hx hb dX11_leastLine_39 (by decide) ?_
            refine lv_goto (tgt := 44) hx hb dX11_leastLine_40 (by decide) ?_
            exact tX11_leastLine_44 cx hr hlk ih t0 v1 v2 v3 v4 v5 1 h _ _ _ hB (lv_sub hl [0, 1, 2, 3, 4, 5] rfl) hf
          · replace hf := it_t c4 hf
            refine lv_iload_n hx hb dX11_leastLine_32 rfl (lv_at hl 1 rfl) ?_
            obtain ⟨r7, g5, m6, hf⟩ := b2_ok hf
            refine hp_cI0 (cl_X11_276 cx hB (cX11_isAlone l D cA v1 h _ g5 m6) ⟨Nat.le_of_ble_eq_true rfl, Nat.le_of_ble_eq_true rfl⟩ rfl hl.1 rfl (Nat.le_of_ble_eq_true rfl) ⟨Nat.le_of_ble_eq_true rfl, Nat.le_of_ble_eq_true rfl⟩ dX11_leastLine_33) rfl rfl hB (fun H locs hB => ?_)
            refine lv_if_eq (tgt := 43) hx hb dX11_leastLine_36 (by decide) (fun c9 => ?_) (fun c9 => ?_)
            · replace hf := it_t c9 hf
              refine lv_iconst (v := 0) hx hb dX11_leastLine_43 (by decide) ?_
              exact tX11_leastLine_44 cx hr hlk ih t0 v1 v2 v3 v4 v5 0 g5 _ _ _ hB (lv_sub hl [0, 1, 2, 3, 4, 5] rfl) hf
            · replace hf := it_f c9 hf
              refine lv_iconst (v := 1) hx hb dX11_leastLine_39 (by decide) ?_
              refine lv_goto (tgt := 44) hx hb dX11_leastLine_40 (by decide) ?_
              exact tX11_leastLine_44 cx hr hlk ih t0 v1 v2 v3 v4 v5 1 g5 _ _ _ hB (lv_sub hl [0, 1, 2, 3, 4, 5] rfl) hf
set_option maxHeartbeats 4000000 in
set_option maxRecDepth 100000 in
theorem tX11_leastLine_0  {r : Int32} (cx : CallFix p m c prog_13_method_55_code 8 s args tbG RX11) (hr : meth.sig.returnType = (Option.some FieldType.int)) (hlk : meth.locks = false)  (t0 : Nat) (v1 : Int32) (v2 : Int32) (v3 : Int32) (h : Hp) (H : Heap) (locs : List Loc) (ls : Array Slot) (hB : hp_B D cA (hp_A h0) s h H locs) (hl : lv_has ls 8 [(0, .ref t0), (1, .int v1), (2, .int v2), (3, .int v3)]) (hf : fX11_leastLine  t0 v1 v2 v3 h = some (r, h9)) : W p l e rmX11_leastLine s m args below meth c H locs 0 0 (MQ below (hp_Qi D cA h0 h9 r) args s 0 0 (hp_A h0)) (F0 m 0 ls []) := by
  obtain ⟨hx, hb, -⟩ := id cx
  unfold fX11_leastLine at hf
  refine lv_ldc (v := 100000000) hx hb cx.2.2.2.1 (cx.2.2.2.2 _ (tb_in qw_993 rfl)) dX11_leastLine_0 ?_
  refine lv_istore (lv' := [(4, .int 100000000), (0, .ref t0), (1, .int v1), (2, .int v2), (3, .int v3)]) hx hb dX11_leastLine_2 hl (by decide) rfl (fun ls hl => ?_)
  refine lv_iconst (v := 1) hx hb dX11_leastLine_4 (by decide) ?_
  refine lv_istore (lv' := [(5, .int 1), (4, .int 100000000), (0, .ref t0), (1, .int v1), (2, .int v2), (3, .int v3)]) hx hb dX11_leastLine_5 hl (by decide) rfl (fun ls hl => ?_)
  exact tX11_leastLine_7 cx hr hlk  NF t0 v1 v2 v3 100000000 1 h _ _ _ hB (lv_sub hl [2, 3, 4, 5, 1, 0] rfl) hf
end
set_option maxHeartbeats 4000000 in
set_option maxRecDepth 100000 in
theorem cX11_leastLine (l : Launch) (D : va_G) (cA : Nat → ClassId) (t0 : Nat) (v1 : Int32) (v2 : Int32) (v3 : Int32) (h : Hp) (r : Int32) (h9 : Hp) (hf : fX11_leastLine t0 v1 v2 v3 h = some (r, h9)) : hp_M l yX11_leastLine prog_13_method_55_code 8 (Option.some FieldType.int) rmX11_leastLine D cA h [.ref t0, .int v1, .int v2, .int v3] (hp_Qi D cA h h9 r) := by
  refine Met.ofW (cc := prog_13_method_55_code) (maxL := 8) (ret := (Option.some FieldType.int)) (by decide) rfl ?_
  intro p e s m args below meth c s₁ B hml hv
  obtain ⟨rfl, hU⟩ := hv
  have hts := atoms_spec (ws := Cond.code yX11_leastLine prog_13_method_55_code 8 (Option.some FieldType.int) :: tbG) B.pre
  have hl := lv_entry ([.ref t0, .int v1, .int v2, .int v3]) (n := 8) (Nat.le_of_ble_eq_true rfl)
  rw [lg_entry_eq]
  generalize (lg_sl ([.ref t0, .int v1, .int v2, .int v3]) ++ List.replicate (8 - (lg_sl ([.ref t0, .int v1, .int v2, .int v3])).length) Slot.unset).toArray = ls at hl ⊢
  exact tX11_leastLine_0 ⟨B.exec, B.bytes, hml, findClass_of_methodNamed B.named, fun w hw => hts w (List.mem_cons_of_mem _ hw)⟩ B.returns B.notSynchronized t0 v1 v2 v3 h _ _ _ (hp_B.entry hU) hl hf
section
variable {p : Program} {l : Launch} {e : Env} {R : Room} {s : State} {m : MethodId} {args : Array Value} {below : List Frame} {meth : Method} {c : Code} {H : Heap} {locs : List Loc} {cells slots : Nat} {Q : State → Prop}
variable {cc : ByteArray} {pc nL : Nat} {ls : Array Slot} {rest : List Value} {D : va_G} {cA : Nat → ClassId} {A : Nat → Prop} {a : Nat} {h : Hp}
theorem pf_X11_273 (cx : CallFix p m c cc nL s args tbG RX11) (hB : hp_B D cA A s h H locs) (hka : h.1 a = 12) {x : Int32} (hdg : decode cc pc = .ok (.putfield 273, 3)) (kk : ∀ (H1 : Heap) (locs1 : List Loc), hp_B D cA A s (hp_si h a 53 x) H1 locs1 → W p l e R s m args below meth c H1 locs1 cells slots Q (F0 m (pc + 3) ls rest)) : W p l e R s m args below meth c H locs cells slots Q (F0 m pc ls (.int x :: .ref a :: rest)) :=
  hp_putX cx hB (ci := 11) 53 tyX11 tyX11_ok nmX11 rfl inX11 (by decide) rfl (by decide) (Or.inl rfl) qw_785 hka (v := .int x) (hp_like_si h a 53 x) (hp_fs_si (by decide) rfl) rfl rfl hdg kk
theorem pf_X11_286 (cx : CallFix p m c cc nL s args tbG RX11) (hB : hp_B D cA A s h H locs) (hka : h.1 a = 12) {x : Int32} (hdg : decode cc pc = .ok (.putfield 286, 3)) (kk : ∀ (H1 : Heap) (locs1 : List Loc), hp_B D cA A s (hp_si h a 54 x) H1 locs1 → W p l e R s m args below meth c H1 locs1 cells slots Q (F0 m (pc + 3) ls rest)) : W p l e R s m args below meth c H locs cells slots Q (F0 m pc ls (.int x :: .ref a :: rest)) :=
  hp_putX cx hB (ci := 11) 54 tyX11 tyX11_ok nmX11 rfl inX11 (by decide) rfl (by decide) (Or.inl rfl) qw_786 hka (v := .int x) (hp_like_si h a 54 x) (hp_fs_si (by decide) rfl) rfl rfl hdg kk
theorem pf_X11_289 (cx : CallFix p m c cc nL s args tbG RX11) (hB : hp_B D cA A s h H locs) (hka : h.1 a = 12) {x : Int32} (hdg : decode cc pc = .ok (.putfield 289, 3)) (kk : ∀ (H1 : Heap) (locs1 : List Loc), hp_B D cA A s (hp_si h a 31 x) H1 locs1 → W p l e R s m args below meth c H1 locs1 cells slots Q (F0 m (pc + 3) ls rest)) : W p l e R s m args below meth c H locs cells slots Q (F0 m pc ls (.int x :: .ref a :: rest)) :=
  hp_putX cx hB (ci := 11) 31 tyX11 tyX11_ok nmX11 rfl inX11 (by decide) rfl (by decide) (Or.inl rfl) qw_763 hka (v := .int x) (hp_like_si h a 31 x) (hp_fs_si (by decide) rfl) rfl rfl hdg kk
theorem gf_X11_286 (cx : CallFix p m c cc nL s args tbG RX11) (hB : hp_B D cA A s h H locs) (hka : h.1 a = 12) (hdg : decode cc pc = .ok (.getfield 286, 3)) (kk : W p l e R s m args below meth c H locs cells slots Q (F0 m (pc + 3) ls (.int (h.2.2.1 a 54) :: rest))) : W p l e R s m args below meth c H locs cells slots Q (F0 m pc ls (.ref a :: rest)) :=
  hp_getI cx hB (ci := 11) 54 rfl inX11 (by decide) rfl (by decide) rfl qw_786 hka hdg kk
theorem cl_X11_292 {As st0 : List Value} {b : Nat} {Qc : Array Value → State → Outcome → State → Prop} (cx : CallFix p m c cc nL s args tbG RX11) (hB : hp_B D cA A s h H locs) (hM : hp_M l yX11_leastLine prog_13_method_55_code 8 (Option.some FieldType.int) rmX11_leastLine D cA h (.ref b :: As) Qc) (hkb : h.1 b = 12) (hR : rmX11_leastLine.frames + 1 ≤ R.frames ∧ 8 + (8 + 11) + rmX11_leastLine.locals ≤ R.locals) (hn : As.length = 3) (hls : ls.size = nL) (hst : st0 = As.reverse ++ .ref b :: rest) (hW : (rest.map fun v => v.category).sum ≤ 8) (hf : cells + rmX11_leastLine.cells ≤ R.cells ∧ slots + rmX11_leastLine.slots ≤ R.slots) (hdg : decode cc pc = .ok (.invokevirtual 292, 3)) :
    va_Run p l e R s m args below meth c H locs cells slots rmX11_leastLine.cells rmX11_leastLine.slots (F0 m pc ls st0) rest (Qc (Value.ref b :: As).toArray) (hp_A h) :=
  hp_runV cx hB hM (ci := 11) rfl (by decide) hkb qw_1109 qw_1106 qw_1108 qp_38 qw_10 (by decide +kernel) hR hn hls hst hW hf hdg
end
abbrev yX11_plan : MethodName := ⟨"SpokenMenusModel", "plan", "(III)I"⟩
theorem dX11_plan_0 : decode prog_13_method_56_code 0 = .ok (.iload_n 1, 1) := by decide +kernel
theorem dX11_plan_1 : decode prog_13_method_56_code 1 = .ok (.iconst 1, 1) := by decide +kernel
theorem dX11_plan_2 : decode prog_13_method_56_code 2 = .ok (.bipush 8, 2) := by decide +kernel
theorem dX11_plan_4 : decode prog_13_method_56_code 4 = .ok (.invokestatic 129, 3) := by decide +kernel
theorem dX11_plan_7 : decode prog_13_method_56_code 7 = .ok (.ifCond .eq 24, 3) := by decide +kernel
theorem dX11_plan_10 : decode prog_13_method_56_code 10 = .ok (.iload_n 2, 1) := by decide +kernel
theorem dX11_plan_11 : decode prog_13_method_56_code 11 = .ok (.iconst 1, 1) := by decide +kernel
theorem dX11_plan_12 : decode prog_13_method_56_code 12 = .ok (.sipush 200, 3) := by decide +kernel
theorem dX11_plan_15 : decode prog_13_method_56_code 15 = .ok (.invokestatic 129, 3) := by decide +kernel
theorem dX11_plan_18 : decode prog_13_method_56_code 18 = .ok (.ifCond .eq 13, 3) := by decide +kernel
theorem dX11_plan_21 : decode prog_13_method_56_code 21 = .ok (.iload_n 3, 1) := by decide +kernel
theorem dX11_plan_22 : decode prog_13_method_56_code 22 = .ok (.iconst 2, 1) := by decide +kernel
theorem dX11_plan_23 : decode prog_13_method_56_code 23 = .ok (.bipush 6, 2) := by decide +kernel
theorem dX11_plan_25 : decode prog_13_method_56_code 25 = .ok (.invokestatic 129, 3) := by decide +kernel
theorem dX11_plan_28 : decode prog_13_method_56_code 28 = .ok (.ifCond .ne 5, 3) := by decide +kernel
theorem dX11_plan_31 : decode prog_13_method_56_code 31 = .ok (.iconst (-1), 1) := by decide +kernel
theorem dX11_plan_32 : decode prog_13_method_56_code 32 = .ok (.ireturn, 1) := by decide +kernel
theorem dX11_plan_33 : decode prog_13_method_56_code 33 = .ok (.aload_n 0, 1) := by decide +kernel
theorem dX11_plan_34 : decode prog_13_method_56_code 34 = .ok (.iload_n 2, 1) := by decide +kernel
theorem dX11_plan_35 : decode prog_13_method_56_code 35 = .ok (.putfield 273, 3) := by decide +kernel
theorem dX11_plan_38 : decode prog_13_method_56_code 38 = .ok (.aload_n 0, 1) := by decide +kernel
theorem dX11_plan_39 : decode prog_13_method_56_code 39 = .ok (.iload_n 3, 1) := by decide +kernel
theorem dX11_plan_40 : decode prog_13_method_56_code 40 = .ok (.putfield 286, 3) := by decide +kernel
theorem dX11_plan_43 : decode prog_13_method_56_code 43 = .ok (.aload_n 0, 1) := by decide +kernel
theorem dX11_plan_44 : decode prog_13_method_56_code 44 = .ok (.iload_n 1, 1) := by decide +kernel
theorem dX11_plan_45 : decode prog_13_method_56_code 45 = .ok (.putfield 289, 3) := by decide +kernel
theorem dX11_plan_48 : decode prog_13_method_56_code 48 = .ok (.iconst 0, 1) := by decide +kernel
theorem dX11_plan_49 : decode prog_13_method_56_code 49 = .ok (.istore 4, 2) := by decide +kernel
theorem dX11_plan_51 : decode prog_13_method_56_code 51 = .ok (.iload 4, 2) := by decide +kernel
theorem dX11_plan_53 : decode prog_13_method_56_code 53 = .ok (.bipush 8, 2) := by decide +kernel
theorem dX11_plan_55 : decode prog_13_method_56_code 55 = .ok (.if_icmp .ge 23, 3) := by decide +kernel
theorem dX11_plan_58 : decode prog_13_method_56_code 58 = .ok (.aload_n 0, 1) := by decide +kernel
theorem dX11_plan_59 : decode prog_13_method_56_code 59 = .ok (.getfield 122, 3) := by decide +kernel
theorem dX11_plan_62 : decode prog_13_method_56_code 62 = .ok (.iload 4, 2) := by decide +kernel
theorem dX11_plan_64 : decode prog_13_method_56_code 64 = .ok (.aload_n 0, 1) := by decide +kernel
theorem dX11_plan_65 : decode prog_13_method_56_code 65 = .ok (.getfield 76, 3) := by decide +kernel
theorem dX11_plan_68 : decode prog_13_method_56_code 68 = .ok (.iload 4, 2) := by decide +kernel
theorem dX11_plan_70 : decode prog_13_method_56_code 70 = .ok (.iaload, 1) := by decide +kernel
theorem dX11_plan_71 : decode prog_13_method_56_code 71 = .ok (.iastore, 1) := by decide +kernel
theorem dX11_plan_72 : decode prog_13_method_56_code 72 = .ok (.iinc 4 1, 3) := by decide +kernel
theorem dX11_plan_75 : decode prog_13_method_56_code 75 = .ok (.goto (-24), 3) := by decide +kernel
theorem dX11_plan_78 : decode prog_13_method_56_code 78 = .ok (.iconst 0, 1) := by decide +kernel
theorem dX11_plan_79 : decode prog_13_method_56_code 79 = .ok (.istore 4, 2) := by decide +kernel
theorem dX11_plan_81 : decode prog_13_method_56_code 81 = .ok (.iload 4, 2) := by decide +kernel
theorem dX11_plan_83 : decode prog_13_method_56_code 83 = .ok (.iconst 1, 1) := by decide +kernel
theorem dX11_plan_84 : decode prog_13_method_56_code 84 = .ok (.iload_n 1, 1) := by decide +kernel
theorem dX11_plan_85 : decode prog_13_method_56_code 85 = .ok (.ishl, 1) := by decide +kernel
theorem dX11_plan_86 : decode prog_13_method_56_code 86 = .ok (.if_icmp .ge 64, 3) := by decide +kernel
theorem dX11_plan_89 : decode prog_13_method_56_code 89 = .ok (.aload_n 0, 1) := by decide +kernel
theorem dX11_plan_90 : decode prog_13_method_56_code 90 = .ok (.getfield 119, 3) := by decide +kernel
theorem dX11_plan_93 : decode prog_13_method_56_code 93 = .ok (.iload 4, 2) := by decide +kernel
theorem dX11_plan_95 : decode prog_13_method_56_code 95 = .ok (.iconst 0, 1) := by decide +kernel
theorem dX11_plan_96 : decode prog_13_method_56_code 96 = .ok (.iastore, 1) := by decide +kernel
theorem dX11_plan_97 : decode prog_13_method_56_code 97 = .ok (.iconst 0, 1) := by decide +kernel
theorem dX11_plan_98 : decode prog_13_method_56_code 98 = .ok (.istore 5, 2) := by decide +kernel
theorem dX11_plan_100 : decode prog_13_method_56_code 100 = .ok (.iload 5, 2) := by decide +kernel
theorem dX11_plan_102 : decode prog_13_method_56_code 102 = .ok (.iload_n 1, 1) := by decide +kernel
theorem dX11_plan_103 : decode prog_13_method_56_code 103 = .ok (.if_icmp .ge 41, 3) := by decide +kernel
theorem dX11_plan_106 : decode prog_13_method_56_code 106 = .ok (.aload_n 0, 1) := by decide +kernel
theorem dX11_plan_107 : decode prog_13_method_56_code 107 = .ok (.getfield 119, 3) := by decide +kernel
theorem dX11_plan_110 : decode prog_13_method_56_code 110 = .ok (.iload 4, 2) := by decide +kernel
theorem dX11_plan_112 : decode prog_13_method_56_code 112 = .ok (.dup2, 1) := by decide +kernel
theorem dX11_plan_113 : decode prog_13_method_56_code 113 = .ok (.iaload, 1) := by decide +kernel
theorem dX11_plan_114 : decode prog_13_method_56_code 114 = .ok (.iload 4, 2) := by decide +kernel
theorem dX11_plan_116 : decode prog_13_method_56_code 116 = .ok (.iload 5, 2) := by decide +kernel
theorem dX11_plan_118 : decode prog_13_method_56_code 118 = .ok (.ishr, 1) := by decide +kernel
theorem dX11_plan_119 : decode prog_13_method_56_code 119 = .ok (.iconst 1, 1) := by decide +kernel
theorem dX11_plan_120 : decode prog_13_method_56_code 120 = .ok (.iand, 1) := by decide +kernel
theorem dX11_plan_121 : decode prog_13_method_56_code 121 = .ok (.iconst 1, 1) := by decide +kernel
theorem dX11_plan_122 : decode prog_13_method_56_code 122 = .ok (.if_icmp .ne 13, 3) := by decide +kernel
theorem dX11_plan_125 : decode prog_13_method_56_code 125 = .ok (.aload_n 0, 1) := by decide +kernel
theorem dX11_plan_126 : decode prog_13_method_56_code 126 = .ok (.getfield 79, 3) := by decide +kernel
theorem dX11_plan_129 : decode prog_13_method_56_code 129 = .ok (.iload 5, 2) := by decide +kernel
theorem dX11_plan_131 : decode prog_13_method_56_code 131 = .ok (.iaload, 1) := by decide +kernel
theorem dX11_plan_132 : decode prog_13_method_56_code 132 = .ok (.goto 4, 3) := by decide +kernel
theorem dX11_plan_135 : decode prog_13_method_56_code 135 = .ok (.iconst 0, 1) := by decide +kernel
theorem dX11_plan_136 : decode prog_13_method_56_code 136 = .ok (.iadd, 1) := by decide +kernel
theorem dX11_plan_137 : decode prog_13_method_56_code 137 = .ok (.iastore, 1) := by decide +kernel
theorem dX11_plan_138 : decode prog_13_method_56_code 138 = .ok (.iinc 5 1, 3) := by decide +kernel
theorem dX11_plan_141 : decode prog_13_method_56_code 141 = .ok (.goto (-41), 3) := by decide +kernel
theorem dX11_plan_144 : decode prog_13_method_56_code 144 = .ok (.iinc 4 1, 3) := by decide +kernel
theorem dX11_plan_147 : decode prog_13_method_56_code 147 = .ok (.goto (-66), 3) := by decide +kernel
theorem dX11_plan_150 : decode prog_13_method_56_code 150 = .ok (.iconst 1, 1) := by decide +kernel
theorem dX11_plan_151 : decode prog_13_method_56_code 151 = .ok (.istore 4, 2) := by decide +kernel
theorem dX11_plan_153 : decode prog_13_method_56_code 153 = .ok (.iload 4, 2) := by decide +kernel
theorem dX11_plan_155 : decode prog_13_method_56_code 155 = .ok (.iconst 1, 1) := by decide +kernel
theorem dX11_plan_156 : decode prog_13_method_56_code 156 = .ok (.iload_n 1, 1) := by decide +kernel
theorem dX11_plan_157 : decode prog_13_method_56_code 157 = .ok (.ishl, 1) := by decide +kernel
theorem dX11_plan_158 : decode prog_13_method_56_code 158 = .ok (.if_icmp .ge 68, 3) := by decide +kernel
theorem dX11_plan_161 : decode prog_13_method_56_code 161 = .ok (.aload_n 0, 1) := by decide +kernel
theorem dX11_plan_162 : decode prog_13_method_56_code 162 = .ok (.getfield 116, 3) := by decide +kernel
theorem dX11_plan_165 : decode prog_13_method_56_code 165 = .ok (.iload 4, 2) := by decide +kernel
theorem dX11_plan_167 : decode prog_13_method_56_code 167 = .ok (.aload_n 0, 1) := by decide +kernel
theorem dX11_plan_168 : decode prog_13_method_56_code 168 = .ok (.iload 4, 2) := by decide +kernel
theorem dX11_plan_170 : decode prog_13_method_56_code 170 = .ok (.aload_n 0, 1) := by decide +kernel
theorem dX11_plan_171 : decode prog_13_method_56_code 171 = .ok (.getfield 286, 3) := by decide +kernel
theorem dX11_plan_174 : decode prog_13_method_56_code 174 = .ok (.iconst 0, 1) := by decide +kernel
theorem dX11_plan_175 : decode prog_13_method_56_code 175 = .ok (.invokevirtual 292, 3) := by decide +kernel
theorem dX11_plan_178 : decode prog_13_method_56_code 178 = .ok (.iastore, 1) := by decide +kernel
theorem dX11_plan_179 : decode prog_13_method_56_code 179 = .ok (.iconst 1, 1) := by decide +kernel
theorem dX11_plan_180 : decode prog_13_method_56_code 180 = .ok (.istore 5, 2) := by decide +kernel
theorem dX11_plan_182 : decode prog_13_method_56_code 182 = .ok (.iload 5, 2) := by decide +kernel
theorem dX11_plan_184 : decode prog_13_method_56_code 184 = .ok (.aload_n 0, 1) := by decide +kernel
theorem dX11_plan_185 : decode prog_13_method_56_code 185 = .ok (.getfield 286, 3) := by decide +kernel
theorem dX11_plan_188 : decode prog_13_method_56_code 188 = .ok (.if_icmp .ge 32, 3) := by decide +kernel
theorem dX11_plan_191 : decode prog_13_method_56_code 191 = .ok (.aload_n 0, 1) := by decide +kernel
theorem dX11_plan_192 : decode prog_13_method_56_code 192 = .ok (.getfield 113, 3) := by decide +kernel
theorem dX11_plan_195 : decode prog_13_method_56_code 195 = .ok (.sipush 256, 3) := by decide +kernel
theorem dX11_plan_198 : decode prog_13_method_56_code 198 = .ok (.iload 5, 2) := by decide +kernel
theorem dX11_plan_200 : decode prog_13_method_56_code 200 = .ok (.imul, 1) := by decide +kernel
theorem dX11_plan_201 : decode prog_13_method_56_code 201 = .ok (.iload 4, 2) := by decide +kernel
theorem dX11_plan_203 : decode prog_13_method_56_code 203 = .ok (.iadd, 1) := by decide +kernel
theorem dX11_plan_204 : decode prog_13_method_56_code 204 = .ok (.aload_n 0, 1) := by decide +kernel
theorem dX11_plan_205 : decode prog_13_method_56_code 205 = .ok (.iload 4, 2) := by decide +kernel
theorem dX11_plan_207 : decode prog_13_method_56_code 207 = .ok (.iload 5, 2) := by decide +kernel
theorem dX11_plan_209 : decode prog_13_method_56_code 209 = .ok (.iconst 1, 1) := by decide +kernel
theorem dX11_plan_210 : decode prog_13_method_56_code 210 = .ok (.invokevirtual 292, 3) := by decide +kernel
theorem dX11_plan_213 : decode prog_13_method_56_code 213 = .ok (.iastore, 1) := by decide +kernel
theorem dX11_plan_214 : decode prog_13_method_56_code 214 = .ok (.iinc 5 1, 3) := by decide +kernel
theorem dX11_plan_217 : decode prog_13_method_56_code 217 = .ok (.goto (-35), 3) := by decide +kernel
theorem dX11_plan_220 : decode prog_13_method_56_code 220 = .ok (.iinc 4 1, 3) := by decide +kernel
theorem dX11_plan_223 : decode prog_13_method_56_code 223 = .ok (.goto (-70), 3) := by decide +kernel
theorem dX11_plan_226 : decode prog_13_method_56_code 226 = .ok (.aload_n 0, 1) := by decide +kernel
theorem dX11_plan_227 : decode prog_13_method_56_code 227 = .ok (.getfield 116, 3) := by decide +kernel
theorem dX11_plan_230 : decode prog_13_method_56_code 230 = .ok (.iconst 1, 1) := by decide +kernel
theorem dX11_plan_231 : decode prog_13_method_56_code 231 = .ok (.iload_n 1, 1) := by decide +kernel
theorem dX11_plan_232 : decode prog_13_method_56_code 232 = .ok (.ishl, 1) := by decide +kernel
theorem dX11_plan_233 : decode prog_13_method_56_code 233 = .ok (.iconst 1, 1) := by decide +kernel
theorem dX11_plan_234 : decode prog_13_method_56_code 234 = .ok (.isub, 1) := by decide +kernel
theorem dX11_plan_235 : decode prog_13_method_56_code 235 = .ok (.iaload, 1) := by decide +kernel
theorem dX11_plan_236 : decode prog_13_method_56_code 236 = .ok (.ireturn, 1) := by decide +kernel
abbrev rmX11_plan : Room := { frames := 4, cells := 0, slots := 0, locals := 95 }
def bX11_plan_100 (rc81 : Nat → Int32 → Int32 → Hp → Option (Int32 × Hp)) (rc : Nat → Int32 → Int32 → Int32 → Hp → Option (Int32 × Hp)) (t0 : Nat) (v1 : Int32) (v4 : Int32) (v5 : Int32) (h : Hp) : Option (Int32 × Hp) :=
  if v1 ≤ v5 then
  (nm (v4 + 1) fun x2 =>
  rc81 t0 v1 x2 h)
  else
  (gk (h.1 t0) 12 <|
  bd (h.2.2.2.1 t0 55) fun a4 =>
  gk (h.1 a4) 13 <|
  gd (ix v4 (h.2.1 a4)) <|
  if ((v4 >>> (v5 &&& 31)) &&& 1) = 1 then
  (bd (h.2.2.2.1 t0 30) fun a12 =>
  gk (h.1 a12) 13 <|
  gd (ix v5 (h.2.1 a12)) <|
  gd (ix v4 (h.2.1 a4)) <|
  nm (hp_si h a4 (Int32.toNatClampNeg v4) ((h.2.2.1 a4 (Int32.toNatClampNeg v4)) + (h.2.2.1 a12 (Int32.toNatClampNeg v5)))) fun g17 =>
  nm (v5 + 1) fun x18 =>
  rc t0 v1 v4 x18 g17)
  else
  (gd (ix v4 (h.2.1 a4)) <|
  nm (hp_si h a4 (Int32.toNatClampNeg v4) ((h.2.2.1 a4 (Int32.toNatClampNeg v4)) + 0)) fun g10 =>
  nm (v5 + 1) fun x11 =>
  rc t0 v1 v4 x11 g10))
def fX11_plan_100 (rc81 : Nat → Int32 → Int32 → Hp → Option (Int32 × Hp)) : Nat → Int32 → Int32 → Int32 → Hp → Option (Int32 × Hp) := fx (bX11_plan_100 rc81) (fun _ _ _ _ _ => none) NF
def bX11_plan_182 (rc153 : Nat → Int32 → Int32 → Hp → Option (Int32 × Hp)) (rc : Nat → Int32 → Int32 → Int32 → Hp → Option (Int32 × Hp)) (t0 : Nat) (v1 : Int32) (v4 : Int32) (v5 : Int32) (h : Hp) : Option (Int32 × Hp) :=
  gk (h.1 t0) 12 <|
  if (h.2.2.1 t0 54) ≤ v5 then
  (nm (v4 + 1) fun x3 =>
  rc153 t0 v1 x3 h)
  else
  (bd (h.2.2.2.1 t0 51) fun a4 =>
  b2 (fX11_leastLine t0 v4 v5 1 h) fun r8 g6 =>
  gk (g6.1 a4) 13 <|
  gd (ix ((256 * v5) + v4) (g6.2.1 a4)) <|
  nm (hp_si g6 a4 (Int32.toNatClampNeg ((256 * v5) + v4)) r8) fun g12 =>
  nm (v5 + 1) fun x13 =>
  rc t0 v1 v4 x13 g12)
def fX11_plan_182 (rc153 : Nat → Int32 → Int32 → Hp → Option (Int32 × Hp)) : Nat → Int32 → Int32 → Int32 → Hp → Option (Int32 × Hp) := fx (bX11_plan_182 rc153) (fun _ _ _ _ _ => none) NF
def bX11_plan_153  (rc : Nat → Int32 → Int32 → Hp → Option (Int32 × Hp)) (t0 : Nat) (v1 : Int32) (v4 : Int32) (h : Hp) : Option (Int32 × Hp) :=
  if (1 <<< (v1 &&& 31)) ≤ v4 then
  (gk (h.1 t0) 12 <|
  bd (h.2.2.2.1 t0 52) fun a3 =>
  gk (h.1 a3) 13 <|
  gd (ix ((1 <<< (v1 &&& 31)) - 1) (h.2.1 a3)) <|
  some (h.2.2.1 a3 (Int32.toNatClampNeg ((1 <<< (v1 &&& 31)) - 1)), h))
  else
  (gk (h.1 t0) 12 <|
  bd (h.2.2.2.1 t0 52) fun a8 =>
  b2 (fX11_leastLine t0 v4 (h.2.2.1 t0 54) 0 h) fun r12 g10 =>
  gk (g10.1 a8) 13 <|
  gd (ix v4 (g10.2.1 a8)) <|
  nm (hp_si g10 a8 (Int32.toNatClampNeg v4) r12) fun g16 =>
  fX11_plan_182 rc t0 v1 v4 1 g16)
def fX11_plan_153  : Nat → Int32 → Int32 → Hp → Option (Int32 × Hp) := fx (bX11_plan_153 ) (fun _ _ _ _ => none) NF
def bX11_plan_81  (rc : Nat → Int32 → Int32 → Hp → Option (Int32 × Hp)) (t0 : Nat) (v1 : Int32) (v4 : Int32) (h : Hp) : Option (Int32 × Hp) :=
  if (1 <<< (v1 &&& 31)) ≤ v4 then
  (fX11_plan_153  t0 v1 1 h)
  else
  (gk (h.1 t0) 12 <|
  bd (h.2.2.2.1 t0 55) fun a3 =>
  gk (h.1 a3) 13 <|
  gd (ix v4 (h.2.1 a3)) <|
  nm (hp_si h a3 (Int32.toNatClampNeg v4) 0) fun g7 =>
  fX11_plan_100 rc t0 v1 v4 0 g7)
def fX11_plan_81  : Nat → Int32 → Int32 → Hp → Option (Int32 × Hp) := fx (bX11_plan_81 ) (fun _ _ _ _ => none) NF
def bX11_plan_51  (rc : Nat → Int32 → Int32 → Hp → Option (Int32 × Hp)) (t0 : Nat) (v1 : Int32) (v4 : Int32) (h : Hp) : Option (Int32 × Hp) :=
  if 8 ≤ v4 then
  (fX11_plan_81  t0 v1 0 h)
  else
  (gk (h.1 t0) 12 <|
  bd (h.2.2.2.1 t0 56) fun a3 =>
  bd (h.2.2.2.1 t0 29) fun a5 =>
  gk (h.1 a5) 13 <|
  gd (ix v4 (h.2.1 a5)) <|
  gk (h.1 a3) 13 <|
  gd (ix v4 (h.2.1 a3)) <|
  nm (hp_si h a3 (Int32.toNatClampNeg v4) (h.2.2.1 a5 (Int32.toNatClampNeg v4))) fun g11 =>
  nm (v4 + 1) fun x12 =>
  rc t0 v1 x12 g11)
def fX11_plan_51  : Nat → Int32 → Int32 → Hp → Option (Int32 × Hp) := fx (bX11_plan_51 ) (fun _ _ _ _ => none) NF
def fX11_plan  (t0 : Nat) (v1 : Int32) (v2 : Int32) (v3 : Int32) (h : Hp) : Option (Int32 × Hp) :=
  b2 (fX11_in v1 1 8 h) fun r3 g1 =>
  if r3 = 0 then
  (some ((-1), g1))
  else
  (b2 (fX11_in v2 1 200 g1) fun r8 g6 =>
  if r8 = 0 then
  (some ((-1), g6))
  else
  (b2 (fX11_in v3 2 6 g6) fun r13 g11 =>
  if r13 = 0 then
  (some ((-1), g11))
  else
  (gk (g11.1 t0) 12 <|
  nm (hp_si g11 t0 53 v2) fun g17 =>
  nm (hp_si g17 t0 54 v3) fun g19 =>
  nm (hp_si g19 t0 31 v1) fun g21 =>
  fX11_plan_51  t0 v1 0 g21)))
section
variable {p : Program} {l : Launch} {e : Env} {s : State} {m : MethodId} {args : Array Value} {below : List Frame} {meth : Method} {c : Code} {D : va_G} {cA : Nat → ClassId} {h0 h9 : Hp}
set_option maxHeartbeats 4000000 in
set_option maxRecDepth 100000 in
theorem tX11_plan_100 {rc81 : Nat → Int32 → Int32 → Hp → Option (Int32 × Hp)} {r : Int32} (cx : CallFix p m c prog_13_method_56_code 6 s args tbG RX11) (hr : meth.sig.returnType = (Option.some FieldType.int)) (hlk : meth.locks = false) (hr81 : ∀ (t0 : Nat) (v1 : Int32) (v4 : Int32) (h : Hp) (H : Heap) (locs : List Loc) (ls : Array Slot), hp_B D cA (hp_A h0) s h H locs → lv_has ls 6 [(0, .ref t0), (1, .int v1), (4, .int v4)] → rc81 t0 v1 v4 h = some (r, h9) → W p l e rmX11_plan s m args below meth c H locs 0 0 (MQ below (hp_Qi D cA h0 h9 r) args s 0 0 (hp_A h0)) (F0 m 81 ls [])) (n : Nat) : ∀ (t0 : Nat) (v1 : Int32) (v4 : Int32) (v5 : Int32) (h : Hp) (H : Heap) (locs : List Loc) (ls : Array Slot), hp_B D cA (hp_A h0) s h H locs → lv_has ls 6 [(0, .ref t0), (1, .int v1), (4, .int v4), (5, .int v5)] → fx (bX11_plan_100 rc81) (fun _ _ _ _ _ => none) n t0 v1 v4 v5 h = some (r, h9) → W p l e rmX11_plan s m args below meth c H locs 0 0 (MQ below (hp_Qi D cA h0 h9 r) args s 0 0 (hp_A h0)) (F0 m 100 ls []) := by
  obtain ⟨hx, hb, -⟩ := id cx
  induction n with
  | zero => intro t0 v1 v4 v5 h H locs ls hB hl hf; cases hf
  | succ n ih =>
    intro t0 v1 v4 v5 h H locs ls hB hl hf
    replace hf : bX11_plan_100 rc81 (fx (bX11_plan_100 rc81) (fun _ _ _ _ _ => none) n) t0 v1 v4 v5 h = some (r, h9) := hf
    unfold bX11_plan_100 at hf
    refine lv_iload hx hb dX11_plan_100 (lv_at hl 3 rfl) ?_
    refine lv_iload_n hx hb dX11_plan_102 rfl (lv_at hl 1 rfl) ?_
    refine lv_icmp_ge (tgt := 144) hx hb dX11_plan_103 (by decide) (fun c1 => ?_) (fun c1 => ?_)
    · replace hf := it_t c1 hf
      obtain ⟨x2, ex2, hf⟩ := nm_ok hf
      refine lv_iinc (v := x2) (lv' := [(4, .int x2), (0, .ref t0), (1, .int v1), (5, .int v5)]) hx hb dX11_plan_144 hl (k := 2) rfl (by rw [ex2]; rfl) (by decide) rfl (fun ls hl => ?_)
      refine lv_goto (tgt := 81) hx hb dX11_plan_147 (by decide) ?_
      exact hr81 t0 v1 x2 h _ _ _ hB (lv_sub hl [1, 2, 0] rfl) hf
    · replace hf := it_f c1 hf
      refine lv_aload_n hx hb dX11_plan_106 rfl (lv_at hl 0 rfl) ?_
      obtain ⟨k3, hf⟩ := gk_ok hf
      obtain ⟨a4, q5, hf⟩ := bd_ok hf
      refine gf_X11_119 cx hB k3 q5 dX11_plan_107 ?_
      refine lv_iload hx hb dX11_plan_110 (lv_at hl 2 rfl) ?_
      refine lv_dup2_11 hx hb dX11_plan_112 rfl rfl ?_
      obtain ⟨k6, hf⟩ := gk_ok hf
      obtain ⟨j7, hf⟩ := gd_ok hf
      refine hp_iald cx hB k6 j7 dX11_plan_113 ?_
      refine lv_iload hx hb dX11_plan_114 (lv_at hl 2 rfl) ?_
      refine lv_iload hx hb dX11_plan_116 (lv_at hl 3 rfl) ?_
      refine lv_ishr hx hb dX11_plan_118 ?_
      refine lv_iconst (v := 1) hx hb dX11_plan_119 (by decide) ?_
      refine lv_iand hx hb dX11_plan_120 ?_
      refine lv_iconst (v := 1) hx hb dX11_plan_121 (by decide) ?_
      refine lv_icmp_ne (tgt := 135) hx hb dX11_plan_122 (by decide) (fun c8 => ?_) (fun c8 => ?_)
      · replace hf := it_f c8 hf
        refine lv_iconst (v := 0) hx hb dX11_plan_135 (by decide) ?_
        refine lv_iadd hx hb dX11_plan_136 ?_
        obtain ⟨j9, hf⟩ := gd_ok hf
        obtain ⟨g10, eg10, hf⟩ := nm_ok hf
        refine hp_iast cx hB k6 j9 dX11_plan_137 (fun H locs hB => ?_)
        rw [← eg10] at hB
        obtain ⟨x11, ex11, hf⟩ := nm_ok hf
        refine lv_iinc (v := x11) (lv' := [(5, .int x11), (0, .ref t0), (1, .int v1), (4, .int v4)]) hx hb dX11_plan_138 hl (k := 3) rfl (by rw [ex11]; rfl) (by decide) rfl (fun ls hl => ?_)
        refine lv_goto (tgt := 100) hx hb dX11_plan_141 (by decide) ?_
        exact ih t0 v1 v4 x11 g10 _ _ _ hB (lv_sub hl [1, 2, 3, 0] rfl) hf
      · replace hf := it_t c8 hf
        refine lv_aload_n hx hb dX11_plan_125 rfl (lv_at hl 0 rfl) ?_
        obtain ⟨a12, q13, hf⟩ := bd_ok hf
        refine gf_X11_79 cx hB k3 q13 dX11_plan_126 ?_
        refine lv_iload hx hb dX11_plan_129 (lv_at hl 3 rfl) ?_
        obtain ⟨k14, hf⟩ := gk_ok hf
        obtain ⟨j15, hf⟩ := gd_ok hf
        refine hp_iald cx hB k14 j15 dX11_plan_131 ?_
        refine lv_goto (tgt := 136) hx hb dX11_plan_132 (by decide) ?_
        refine lv_iadd hx hb dX11_plan_136 ?_
        obtain ⟨j16, hf⟩ := gd_ok hf
        obtain ⟨g17, eg17, hf⟩ := nm_ok hf
        refine hp_iast cx hB k6 j16 dX11_plan_137 (fun H locs hB => ?_)
        rw [← eg17] at hB
        obtain ⟨x18, ex18, hf⟩ := nm_ok hf
        refine lv_iinc (v := x18) (lv' := [(5, .int x18), (0, .ref t0), (1, .int v1), (4, .int v4)]) hx hb dX11_plan_138 hl (k := 3) rfl (by rw [ex18]; rfl) (by decide) rfl (fun ls hl => ?_)
        refine lv_goto (tgt := 100) hx hb dX11_plan_141 (by decide) ?_
        exact ih t0 v1 v4 x18 g17 _ _ _ hB (lv_sub hl [1, 2, 3, 0] rfl) hf
set_option maxHeartbeats 4000000 in
set_option maxRecDepth 100000 in
theorem tX11_plan_182 {rc153 : Nat → Int32 → Int32 → Hp → Option (Int32 × Hp)} {r : Int32} (cx : CallFix p m c prog_13_method_56_code 6 s args tbG RX11) (hr : meth.sig.returnType = (Option.some FieldType.int)) (hlk : meth.locks = false) (hr153 : ∀ (t0 : Nat) (v1 : Int32) (v4 : Int32) (h : Hp) (H : Heap) (locs : List Loc) (ls : Array Slot), hp_B D cA (hp_A h0) s h H locs → lv_has ls 6 [(0, .ref t0), (1, .int v1), (4, .int v4)] → rc153 t0 v1 v4 h = some (r, h9) → W p l e rmX11_plan s m args below meth c H locs 0 0 (MQ below (hp_Qi D cA h0 h9 r) args s 0 0 (hp_A h0)) (F0 m 153 ls [])) (n : Nat) : ∀ (t0 : Nat) (v1 : Int32) (v4 : Int32) (v5 : Int32) (h : Hp) (H : Heap) (locs : List Loc) (ls : Array Slot), hp_B D cA (hp_A h0) s h H locs → lv_has ls 6 [(0, .ref t0), (1, .int v1), (4, .int v4), (5, .int v5)] → fx (bX11_plan_182 rc153) (fun _ _ _ _ _ => none) n t0 v1 v4 v5 h = some (r, h9) → W p l e rmX11_plan s m args below meth c H locs 0 0 (MQ below (hp_Qi D cA h0 h9 r) args s 0 0 (hp_A h0)) (F0 m 182 ls []) := by
  obtain ⟨hx, hb, -⟩ := id cx
  induction n with
  | zero => intro t0 v1 v4 v5 h H locs ls hB hl hf; cases hf
  | succ n ih =>
    intro t0 v1 v4 v5 h H locs ls hB hl hf
    replace hf : bX11_plan_182 rc153 (fx (bX11_plan_182 rc153) (fun _ _ _ _ _ => none) n) t0 v1 v4 v5 h = some (r, h9) := hf
    unfold bX11_plan_182 at hf
    refine lv_iload hx hb dX11_plan_182 (lv_at hl 3 rfl) ?_
    refine lv_aload_n hx hb dX11_plan_184 rfl (lv_at hl 0 rfl) ?_
    obtain ⟨k1, hf⟩ := gk_ok hf
    refine gf_X11_286 cx hB k1 dX11_plan_185 ?_
    refine lv_icmp_ge (tgt := 220) hx hb dX11_plan_188 (by decide) (fun c2 => ?_) (fun c2 => ?_)
    · replace hf := it_t c2 hf
      obtain ⟨x3, ex3, hf⟩ := nm_ok hf
      refine lv_iinc (v := x3) (lv' := [(4, .int x3), (0, .ref t0), (1, .int v1), (5, .int v5)]) hx hb dX11_plan_220 hl (k := 2) rfl (by rw [ex3]; rfl) (by decide) rfl (fun ls hl => ?_)
      refine lv_goto (tgt := 153) hx hb dX11_plan_223 (by decide) ?_
      exact hr153 t0 v1 x3 h _ _ _ hB (lv_sub hl [1, 2, 0] rfl) hf
    · replace hf := it_f c2 hf
      refine lv_aload_n hx hb dX11_plan_191 rfl (lv_at hl 0 rfl) ?_
      obtain ⟨a4, q5, hf⟩ := bd_ok hf
      refine gf_X11_113 cx hB k1 q5 dX11_plan_192 ?_
      refine lv_sipush (v := 256) hx hb dX11_plan_195 (by decide) ?_
      refine lv_iload hx hb dX11_plan_198 (lv_at hl 3 rfl) ?_
      refine lv_imul hx hb dX11_plan_200 ?_
      refine lv_iload hx hb dX11_plan_201 (lv_at hl 2 rfl) ?_
      refine lv_iadd hx hb dX11_plan_203 ?_
      refine lv_aload_n hx hb dX11_plan_204 rfl (lv_at hl 0 rfl) ?_
      refine lv_iload hx hb dX11_plan_205 (lv_at hl 2 rfl) ?_
      refine lv_iload hx hb dX11_plan_207 (lv_at hl 3 rfl) ?_
      refine lv_iconst (v := 1) hx hb dX11_plan_209 (by decide) ?_
      obtain ⟨r8, g6, m7, hf⟩ := b2_ok hf
      refine hp_cI0 (cl_X11_292 cx hB (cX11_leastLine l D cA t0 v4 v5 1 h _ g6 m7) k1 ⟨Nat.le_of_ble_eq_true rfl, Nat.le_of_ble_eq_true rfl⟩ rfl hl.1 rfl (Nat.le_of_ble_eq_true rfl) ⟨Nat.le_of_ble_eq_true rfl, Nat.le_of_ble_eq_true rfl⟩ dX11_plan_210) rfl rfl hB (fun H locs hB => ?_)
      obtain ⟨k10, hf⟩ := gk_ok hf
      obtain ⟨j11, hf⟩ := gd_ok hf
      obtain ⟨g12, eg12, hf⟩ := nm_ok hf
      refine hp_iast cx hB k10 j11 dX11_plan_213 (fun H locs hB => ?_)
      rw [← eg12] at hB
      obtain ⟨x13, ex13, hf⟩ := nm_ok hf
      refine lv_iinc (v := x13) (lv' := [(5, .int x13), (0, .ref t0), (1, .int v1), (4, .int v4)]) hx hb dX11_plan_214 hl (k := 3) rfl (by rw [ex13]; rfl) (by decide) rfl (fun ls hl => ?_)
      refine lv_goto (tgt := 182) hx hb dX11_plan_217 (by decide) ?_
      exact ih t0 v1 v4 x13 g12 _ _ _ hB (lv_sub hl [1, 2, 3, 0] rfl) hf
set_option maxHeartbeats 4000000 in
set_option maxRecDepth 100000 in
theorem tX11_plan_153  {r : Int32} (cx : CallFix p m c prog_13_method_56_code 6 s args tbG RX11) (hr : meth.sig.returnType = (Option.some FieldType.int)) (hlk : meth.locks = false)  (n : Nat) : ∀ (t0 : Nat) (v1 : Int32) (v4 : Int32) (h : Hp) (H : Heap) (locs : List Loc) (ls : Array Slot), hp_B D cA (hp_A h0) s h H locs → lv_has ls 6 [(0, .ref t0), (1, .int v1), (4, .int v4)] → fx (bX11_plan_153 ) (fun _ _ _ _ => none) n t0 v1 v4 h = some (r, h9) → W p l e rmX11_plan s m args below meth c H locs 0 0 (MQ below (hp_Qi D cA h0 h9 r) args s 0 0 (hp_A h0)) (F0 m 153 ls []) := by
  obtain ⟨hx, hb, -⟩ := id cx
  induction n with
  | zero => intro t0 v1 v4 h H locs ls hB hl hf; cases hf
  | succ n ih =>
    intro t0 v1 v4 h H locs ls hB hl hf
    replace hf : bX11_plan_153  (fx (bX11_plan_153 ) (fun _ _ _ _ => none) n) t0 v1 v4 h = some (r, h9) := hf
    unfold bX11_plan_153 at hf
    refine lv_iload hx hb dX11_plan_153 (lv_at hl 2 rfl) ?_
    refine lv_iconst (v := 1) hx hb dX11_plan_155 (by decide) ?_
    refine lv_iload_n hx hb dX11_plan_156 rfl (lv_at hl 1 rfl) ?_
    refine lv_ishl hx hb dX11_plan_157 ?_
    refine lv_icmp_ge (tgt := 226) hx hb dX11_plan_158 (by decide) (fun c1 => ?_) (fun c1 => ?_)
    · replace hf := it_t c1 hf
      refine lv_aload_n hx hb dX11_plan_226 rfl (lv_at hl 0 rfl) ?_
      obtain ⟨k2, hf⟩ := gk_ok hf
      obtain ⟨a3, q4, hf⟩ := bd_ok hf
      refine gf_X11_116 cx hB k2 q4 dX11_plan_227 ?_
      refine lv_iconst (v := 1) hx hb dX11_plan_230 (by decide) ?_
      refine lv_iload_n hx hb dX11_plan_231 rfl (lv_at hl 1 rfl) ?_
      refine lv_ishl hx hb dX11_plan_232 ?_
      refine lv_iconst (v := 1) hx hb dX11_plan_233 (by decide) ?_
      refine lv_isub hx hb dX11_plan_234 ?_
      obtain ⟨k5, hf⟩ := gk_ok hf
      obtain ⟨j6, hf⟩ := gd_ok hf
      refine hp_iald cx hB k5 j6 dX11_plan_235 ?_
      obtain ⟨rfl, rfl⟩ := rt_ok hf
      exact hp_iret cx hB hr hlk (Nat.le_of_ble_eq_true rfl) (Nat.le_of_ble_eq_true rfl) dX11_plan_236
    · replace hf := it_f c1 hf
      refine lv_aload_n hx hb dX11_plan_161 rfl (lv_at hl 0 rfl) ?_
      obtain ⟨k7, hf⟩ := gk_ok hf
      obtain ⟨a8, q9, hf⟩ := bd_ok hf
      refine gf_X11_116 cx hB k7 q9 dX11_plan_162 ?_
      refine lv_iload hx hb dX11_plan_165 (lv_at hl 2 rfl) ?_
      refine lv_aload_n hx hb dX11_plan_167 rfl (lv_at hl 0 rfl) ?_
      refine lv_iload hx hb dX11_plan_168 (lv_at hl 2 rfl) ?_
      refine lv_aload_n hx hb dX11_plan_170 rfl (lv_at hl 0 rfl) ?_
      refine gf_X11_286 cx hB k7 dX11_plan_171 ?_
      refine lv_iconst (v := 0) hx hb dX11_plan_174 (by decide) ?_
      obtain ⟨r12, g10, m11, hf⟩ := b2_ok hf
      refine hp_cI0 (cl_X11_292 cx hB (cX11_leastLine l D cA t0 v4 (h.2.2.1 t0 54) 0 h _ g10 m11) k7 ⟨Nat.le_of_ble_eq_true rfl, Nat.le_of_ble_eq_true rfl⟩ rfl hl.1 rfl (Nat.le_of_ble_eq_true rfl) ⟨Nat.le_of_ble_eq_true rfl, Nat.le_of_ble_eq_true rfl⟩ dX11_plan_175) rfl rfl hB (fun H locs hB => ?_)
      obtain ⟨k14, hf⟩ := gk_ok hf
      obtain ⟨j15, hf⟩ := gd_ok hf
      obtain ⟨g16, eg16, hf⟩ := nm_ok hf
      refine hp_iast cx hB k14 j15 dX11_plan_178 (fun H locs hB => ?_)
      rw [← eg16] at hB
      refine lv_iconst (v := 1) hx hb dX11_plan_179 (by decide) ?_
      refine lv_istore (lv' := [(5, .int 1), (0, .ref t0), (1, .int v1), (4, .int v4)]) hx hb dX11_plan_180 hl (by decide) rfl (fun ls hl => ?_)
      exact tX11_plan_182 cx hr hlk ih NF t0 v1 v4 1 g16 _ _ _ hB (lv_sub hl [1, 2, 3, 0] rfl) hf
set_option maxHeartbeats 4000000 in
set_option maxRecDepth 100000 in
theorem tX11_plan_81  {r : Int32} (cx : CallFix p m c prog_13_method_56_code 6 s args tbG RX11) (hr : meth.sig.returnType = (Option.some FieldType.int)) (hlk : meth.locks = false)  (n : Nat) : ∀ (t0 : Nat) (v1 : Int32) (v4 : Int32) (h : Hp) (H : Heap) (locs : List Loc) (ls : Array Slot), hp_B D cA (hp_A h0) s h H locs → lv_has ls 6 [(0, .ref t0), (1, .int v1), (4, .int v4)] → fx (bX11_plan_81 ) (fun _ _ _ _ => none) n t0 v1 v4 h = some (r, h9) → W p l e rmX11_plan s m args below meth c H locs 0 0 (MQ below (hp_Qi D cA h0 h9 r) args s 0 0 (hp_A h0)) (F0 m 81 ls []) := by
  obtain ⟨hx, hb, -⟩ := id cx
  induction n with
  | zero => intro t0 v1 v4 h H locs ls hB hl hf; cases hf
  | succ n ih =>
    intro t0 v1 v4 h H locs ls hB hl hf
    replace hf : bX11_plan_81  (fx (bX11_plan_81 ) (fun _ _ _ _ => none) n) t0 v1 v4 h = some (r, h9) := hf
    unfold bX11_plan_81 at hf
    refine lv_iload hx hb dX11_plan_81 (lv_at hl 2 rfl) ?_
    refine lv_iconst (v := 1) hx hb dX11_plan_83 (by decide) ?_
    refine lv_iload_n hx hb dX11_plan_84 rfl (lv_at hl 1 rfl) ?_
    refine lv_ishl hx hb dX11_plan_85 ?_
    refine lv_icmp_ge (tgt := 150) hx hb dX11_plan_86 (by decide) (fun c1 => ?_) (fun c1 => ?_)
    · replace hf := it_t c1 hf
      refine lv_iconst (v := 1) hx hb dX11_plan_150 (by decide) ?_
      refine lv_istore (lv' := [(4, .int 1), (0, .ref t0), (1, .int v1)]) hx hb dX11_plan_151 hl (by decide) rfl (fun ls hl => ?_)
      exact tX11_plan_153 cx hr hlk  NF t0 v1 1 h _ _ _ hB (lv_sub hl [1, 2, 0] rfl) hf
    · replace hf := it_f c1 hf
      refine lv_aload_n hx hb dX11_plan_89 rfl (lv_at hl 0 rfl) ?_
      obtain ⟨k2, hf⟩ := gk_ok hf
      obtain ⟨a3, q4, hf⟩ := bd_ok hf
      refine gf_X11_119 cx hB k2 q4 dX11_plan_90 ?_
      refine lv_iload hx hb dX11_plan_93 (lv_at hl 2 rfl) ?_
      refine lv_iconst (v := 0) hx hb dX11_plan_95 (by decide) ?_
      obtain ⟨k5, hf⟩ := gk_ok hf
      obtain ⟨j6, hf⟩ := gd_ok hf
      obtain ⟨g7, eg7, hf⟩ := nm_ok hf
      refine hp_iast cx hB k5 j6 dX11_plan_96 (fun H locs hB => ?_)
      rw [← eg7] at hB
      refine lv_iconst (v := 0) hx hb dX11_plan_97 (by decide) ?_
      refine lv_istore (lv' := [(5, .int 0), (0, .ref t0), (1, .int v1), (4, .int v4)]) hx hb dX11_plan_98 hl (by decide) rfl (fun ls hl => ?_)
      exact tX11_plan_100 cx hr hlk ih NF t0 v1 v4 0 g7 _ _ _ hB (lv_sub hl [1, 2, 3, 0] rfl) hf
set_option maxHeartbeats 4000000 in
set_option maxRecDepth 100000 in
theorem tX11_plan_51  {r : Int32} (cx : CallFix p m c prog_13_method_56_code 6 s args tbG RX11) (hr : meth.sig.returnType = (Option.some FieldType.int)) (hlk : meth.locks = false)  (n : Nat) : ∀ (t0 : Nat) (v1 : Int32) (v4 : Int32) (h : Hp) (H : Heap) (locs : List Loc) (ls : Array Slot), hp_B D cA (hp_A h0) s h H locs → lv_has ls 6 [(0, .ref t0), (1, .int v1), (4, .int v4)] → fx (bX11_plan_51 ) (fun _ _ _ _ => none) n t0 v1 v4 h = some (r, h9) → W p l e rmX11_plan s m args below meth c H locs 0 0 (MQ below (hp_Qi D cA h0 h9 r) args s 0 0 (hp_A h0)) (F0 m 51 ls []) := by
  obtain ⟨hx, hb, -⟩ := id cx
  induction n with
  | zero => intro t0 v1 v4 h H locs ls hB hl hf; cases hf
  | succ n ih =>
    intro t0 v1 v4 h H locs ls hB hl hf
    replace hf : bX11_plan_51  (fx (bX11_plan_51 ) (fun _ _ _ _ => none) n) t0 v1 v4 h = some (r, h9) := hf
    unfold bX11_plan_51 at hf
    refine lv_iload hx hb dX11_plan_51 (lv_at hl 2 rfl) ?_
    refine lv_bipush (v := 8) hx hb dX11_plan_53 (by decide) ?_
    refine lv_icmp_ge (tgt := 78) hx hb dX11_plan_55 (by decide) (fun c1 => ?_) (fun c1 => ?_)
    · replace hf := it_t c1 hf
      refine lv_iconst (v := 0) hx hb dX11_plan_78 (by decide) ?_
      refine lv_istore (lv' := [(4, .int 0), (0, .ref t0), (1, .int v1)]) hx hb dX11_plan_79 hl (by decide) rfl (fun ls hl => ?_)
      exact tX11_plan_81 cx hr hlk  NF t0 v1 0 h _ _ _ hB (lv_sub hl [1, 2, 0] rfl) hf
    · replace hf := it_f c1 hf
      refine lv_aload_n hx hb dX11_plan_58 rfl (lv_at hl 0 rfl) ?_
      obtain ⟨k2, hf⟩ := gk_ok hf
      obtain ⟨a3, q4, hf⟩ := bd_ok hf
      refine gf_X11_122 cx hB k2 q4 dX11_plan_59 ?_
      refine lv_iload hx hb dX11_plan_62 (lv_at hl 2 rfl) ?_
      refine lv_aload_n hx hb dX11_plan_64 rfl (lv_at hl 0 rfl) ?_
      obtain ⟨a5, q6, hf⟩ := bd_ok hf
      refine gf_X11_76 cx hB k2 q6 dX11_plan_65 ?_
      refine lv_iload hx hb dX11_plan_68 (lv_at hl 2 rfl) ?_
      obtain ⟨k7, hf⟩ := gk_ok hf
      obtain ⟨j8, hf⟩ := gd_ok hf
      refine hp_iald cx hB k7 j8 dX11_plan_70 ?_
      obtain ⟨k9, hf⟩ := gk_ok hf
      obtain ⟨j10, hf⟩ := gd_ok hf
      obtain ⟨g11, eg11, hf⟩ := nm_ok hf
      refine hp_iast cx hB k9 j10 dX11_plan_71 (fun H locs hB => ?_)
      rw [← eg11] at hB
      obtain ⟨x12, ex12, hf⟩ := nm_ok hf
      refine lv_iinc (v := x12) (lv' := [(4, .int x12), (0, .ref t0), (1, .int v1)]) hx hb dX11_plan_72 hl (k := 2) rfl (by rw [ex12]; rfl) (by decide) rfl (fun ls hl => ?_)
      refine lv_goto (tgt := 51) hx hb dX11_plan_75 (by decide) ?_
      exact ih t0 v1 x12 g11 _ _ _ hB (lv_sub hl [1, 2, 0] rfl) hf
set_option maxHeartbeats 4000000 in
set_option maxRecDepth 100000 in
theorem tX11_plan_0  {r : Int32} (cx : CallFix p m c prog_13_method_56_code 6 s args tbG RX11) (hr : meth.sig.returnType = (Option.some FieldType.int)) (hlk : meth.locks = false)  (t0 : Nat) (v1 : Int32) (v2 : Int32) (v3 : Int32) (h : Hp) (H : Heap) (locs : List Loc) (ls : Array Slot) (hB : hp_B D cA (hp_A h0) s h H locs) (hl : lv_has ls 6 [(0, .ref t0), (1, .int v1), (2, .int v2), (3, .int v3)]) (hf : fX11_plan  t0 v1 v2 v3 h = some (r, h9)) : W p l e rmX11_plan s m args below meth c H locs 0 0 (MQ below (hp_Qi D cA h0 h9 r) args s 0 0 (hp_A h0)) (F0 m 0 ls []) := by
  obtain ⟨hx, hb, -⟩ := id cx
  unfold fX11_plan at hf
  refine lv_iload_n hx hb dX11_plan_0 rfl (lv_at hl 1 rfl) ?_
  refine lv_iconst (v := 1) hx hb dX11_plan_1 (by decide) ?_
  refine lv_bipush (v := 8) hx hb dX11_plan_2 (by decide) ?_
  obtain ⟨r3, g1, m2, hf⟩ := b2_ok hf
  refine hp_cI0 (cl_X11_129 cx hB (cX11_in l D cA v1 1 8 h _ g1 m2) ⟨Nat.le_of_ble_eq_true rfl, Nat.le_of_ble_eq_true rfl⟩ rfl hl.1 rfl (Nat.le_of_ble_eq_true rfl) ⟨Nat.le_of_ble_eq_true rfl, Nat.le_of_ble_eq_true rfl⟩ dX11_plan_4) rfl rfl hB (fun H locs hB => ?_)
  refine lv_if_eq (tgt := 31) hx hb dX11_plan_7 (by decide) (fun c5 => ?_) (fun c5 => ?_)
  · replace hf := it_t c5 hf
    refine lv_iconst (v := (-1)) hx hb dX11_plan_31 (by decide) ?_
    obtain ⟨rfl, rfl⟩ := rt_ok hf
    exact hp_iret cx hB hr hlk (Nat.le_of_ble_eq_true rfl) (Nat.le_of_ble_eq_true rfl) dX11_plan_32
  · replace hf := it_f c5 hf
    refine lv_iload_n hx hb dX11_plan_10 rfl (lv_at hl 2 rfl) ?_
    refine lv_iconst (v := 1) hx hb dX11_plan_11 (by decide) ?_
    refine lv_sipush (v := 200) hx hb dX11_plan_12 (by decide) ?_
    obtain ⟨r8, g6, m7, hf⟩ := b2_ok hf
    refine hp_cI0 (cl_X11_129 cx hB (cX11_in l D cA v2 1 200 g1 _ g6 m7) ⟨Nat.le_of_ble_eq_true rfl, Nat.le_of_ble_eq_true rfl⟩ rfl hl.1 rfl (Nat.le_of_ble_eq_true rfl) ⟨Nat.le_of_ble_eq_true rfl, Nat.le_of_ble_eq_true rfl⟩ dX11_plan_15) rfl rfl hB (fun H locs hB => ?_)
    refine lv_if_eq (tgt := 31) hx hb dX11_plan_18 (by decide) (fun c10 => ?_) (fun c10 => ?_)
    · replace hf := it_t c10 hf
      refine lv_iconst (v := (-1)) hx hb dX11_plan_31 (by decide) ?_
      obtain ⟨rfl, rfl⟩ := rt_ok hf
      exact hp_iret cx hB hr hlk (Nat.le_of_ble_eq_true rfl) (Nat.le_of_ble_eq_true rfl) dX11_plan_32
    · replace hf := it_f c10 hf
      refine lv_iload_n hx hb dX11_plan_21 rfl (lv_at hl 3 rfl) ?_
      refine lv_iconst (v := 2) hx hb dX11_plan_22 (by decide) ?_
      refine lv_bipush (v := 6) hx hb dX11_plan_23 (by decide) ?_
      obtain ⟨r13, g11, m12, hf⟩ := b2_ok hf
      refine hp_cI0 (cl_X11_129 cx hB (cX11_in l D cA v3 2 6 g6 _ g11 m12) ⟨Nat.le_of_ble_eq_true rfl, Nat.le_of_ble_eq_true rfl⟩ rfl hl.1 rfl (Nat.le_of_ble_eq_true rfl) ⟨Nat.le_of_ble_eq_true rfl, Nat.le_of_ble_eq_true rfl⟩ dX11_plan_25) rfl rfl hB (fun H locs hB => ?_)
      refine lv_if_ne (tgt := 33) hx hb dX11_plan_28 (by decide) (fun c15 => ?_) (fun c15 => ?_)
      · replace hf := it_f c15 hf
        refine lv_aload_n hx hb dX11_plan_33 rfl (lv_at hl 0 rfl) ?_
        refine lv_iload_n hx hb dX11_plan_34 rfl (lv_at hl 2 rfl) ?_
        obtain ⟨k16, hf⟩ := gk_ok hf
        obtain ⟨g17, eg17, hf⟩ := nm_ok hf
        refine pf_X11_273 cx hB k16 dX11_plan_35 (fun H locs hB => ?_)
        rw [← eg17] at hB
        refine lv_aload_n hx hb dX11_plan_38 rfl (lv_at hl 0 rfl) ?_
        refine lv_iload_n hx hb dX11_plan_39 rfl (lv_at hl 3 rfl) ?_
        have k18 : g17.1 t0 = 12 := by rw [eg17]; exact k16
        obtain ⟨g19, eg19, hf⟩ := nm_ok hf
        refine pf_X11_286 cx hB k18 dX11_plan_40 (fun H locs hB => ?_)
        rw [← eg19] at hB
        refine lv_aload_n hx hb dX11_plan_43 rfl (lv_at hl 0 rfl) ?_
        refine lv_iload_n hx hb dX11_plan_44 rfl (lv_at hl 1 rfl) ?_
        have k20 : g19.1 t0 = 12 := by rw [eg19]; exact k18
        obtain ⟨g21, eg21, hf⟩ := nm_ok hf
        refine pf_X11_289 cx hB k20 dX11_plan_45 (fun H locs hB => ?_)
        rw [← eg21] at hB
        refine lv_iconst (v := 0) hx hb dX11_plan_48 (by decide) ?_
        refine lv_istore (lv' := [(4, .int 0), (0, .ref t0), (1, .int v1), (2, .int v2), (3, .int v3)]) hx hb dX11_plan_49 hl (by decide) rfl (fun ls hl => ?_)
        exact tX11_plan_51 cx hr hlk  NF t0 v1 0 g21 _ _ _ hB (lv_sub hl [1, 2, 0] rfl) hf
      · replace hf := it_t c15 hf
        refine lv_iconst (v := (-1)) hx hb dX11_plan_31 (by decide) ?_
        obtain ⟨rfl, rfl⟩ := rt_ok hf
        exact hp_iret cx hB hr hlk (Nat.le_of_ble_eq_true rfl) (Nat.le_of_ble_eq_true rfl) dX11_plan_32
end
set_option maxHeartbeats 4000000 in
set_option maxRecDepth 100000 in
theorem cX11_plan (l : Launch) (D : va_G) (cA : Nat → ClassId) (t0 : Nat) (v1 : Int32) (v2 : Int32) (v3 : Int32) (h : Hp) (r : Int32) (h9 : Hp) (hf : fX11_plan t0 v1 v2 v3 h = some (r, h9)) : hp_M l yX11_plan prog_13_method_56_code 6 (Option.some FieldType.int) rmX11_plan D cA h [.ref t0, .int v1, .int v2, .int v3] (hp_Qi D cA h h9 r) := by
  refine Met.ofW (cc := prog_13_method_56_code) (maxL := 6) (ret := (Option.some FieldType.int)) (by decide) rfl ?_
  intro p e s m args below meth c s₁ B hml hv
  obtain ⟨rfl, hU⟩ := hv
  have hts := atoms_spec (ws := Cond.code yX11_plan prog_13_method_56_code 6 (Option.some FieldType.int) :: tbG) B.pre
  have hl := lv_entry ([.ref t0, .int v1, .int v2, .int v3]) (n := 6) (Nat.le_of_ble_eq_true rfl)
  rw [lg_entry_eq]
  generalize (lg_sl ([.ref t0, .int v1, .int v2, .int v3]) ++ List.replicate (6 - (lg_sl ([.ref t0, .int v1, .int v2, .int v3])).length) Slot.unset).toArray = ls at hl ⊢
  exact tX11_plan_0 ⟨B.exec, B.bytes, hml, findClass_of_methodNamed B.named, fun w hw => hts w (List.mem_cons_of_mem _ hw)⟩ B.returns B.notSynchronized t0 v1 v2 v3 h _ _ _ (hp_B.entry hU) hl hf
