/-! Rows of the law -/
section LAW1
variable {p : Program} {l : Launch} {e : Env} {R : Room} {s : State} {m : MethodId} {args : Array Value} {below : List Frame} {meth : Method} {c : Code} {cc : ByteArray} {ws : List Cond} {own : String} {nL : Nat} {D : va_G} {cA : Nat → ClassId} {A : Nat → Prop} {Q : State → Prop} {w : va_W} {ce sl pc : Nat} {lv : List (Nat × Value)} {st : List Value}
theorem jr_astore_n (x : Rx p s m args c cc ws own nL D cA A) {k : Fin 4} {i : Nat} {a : Nat} (d : decode cc pc = .ok (.astore_n k, 1)) (hi : (k : Nat) = i) (hn : i < nL) {lv' : List (Nat × Value)} (hl : (i, Value.ref a) :: lv.filter (fun q => !(q.1 == i) && !(q.1 + 1 == i && q.2.category == 2)) = lv') (h : Jr p l e R s m args below meth c nL D A Q w ce sl (pc + 1) lv' st) : Jr p l e R s m args below meth c nL D A Q w ce sl pc lv (.ref a :: st) :=
  fun H locs ls hP hD hS hv => lv_astore_n (x := a) x.1 x.2.1 d hi hv hn hl (fun ls' hl' => h H locs ls' hP hD hS hl')
theorem jr_isub (x : Rx p s m args c cc ws own nL D cA A) {a b : Int32} (d : decode cc pc = .ok (.isub, 1)) (h : Jr p l e R s m args below meth c nL D A Q w ce sl (pc + 1) lv (.int (a - b) :: st)) : Jr p l e R s m args below meth c nL D A Q w ce sl pc lv (.int b :: .int a :: st) :=
  fun H locs ls hP hD hS hl => lv_isub (x := a) (y := b) x.1 x.2.1 d (h H locs ls hP hD hS hl)
theorem jr_iadd (x : Rx p s m args c cc ws own nL D cA A) {a b : Int32} (d : decode cc pc = .ok (.iadd, 1)) (h : Jr p l e R s m args below meth c nL D A Q w ce sl (pc + 1) lv (.int (a + b) :: st)) : Jr p l e R s m args below meth c nL D A Q w ce sl pc lv (.int b :: .int a :: st) :=
  fun H locs ls hP hD hS hl => lv_iadd (x := a) (y := b) x.1 x.2.1 d (h H locs ls hP hD hS hl)
theorem jr_iand (x : Rx p s m args c cc ws own nL D cA A) {a b : Int32} (d : decode cc pc = .ok (.iand, 1)) (h : Jr p l e R s m args below meth c nL D A Q w ce sl (pc + 1) lv (.int (a &&& b) :: st)) : Jr p l e R s m args below meth c nL D A Q w ce sl pc lv (.int b :: .int a :: st) :=
  fun H locs ls hP hD hS hl => lv_iand (x := a) (y := b) x.1 x.2.1 d (h H locs ls hP hD hS hl)
theorem jr_slen (x : Rx p s m args c cc ws own nL D cA A) {b L : Nat} {xs : Nat → Int32} (hX : va_X b L xs s s.heap) (hbl : b < s.heap.size) (hbA : ¬ A b) (d : decode cc pc = .ok (.arraylength, 1)) (h : Jr p l e R s m args below meth c nL D A Q w ce sl (pc + 1) lv (.int (Int32.ofNat L) :: st)) : Jr p l e R s m args below meth c nL D A Q w ce sl pc lv (.ref b :: st) :=
  fun H locs ls hP hD hS hl => va_slen x.1 x.2.1 hX hbl hbA hS d (h H locs ls hP hD hS hl)
theorem jr_sld (x : Rx p s m args c cc ws own nL D cA A) {b L : Nat} {xs : Nat → Int32} (hX : va_X b L xs s s.heap) (hbl : b < s.heap.size) (hbA : ¬ A b) {i : Int32} {n : Nat} (hin : vp_in i L) (hn : i.toNatClampNeg = n) (d : decode cc pc = .ok (.iaload, 1)) (h : Jr p l e R s m args below meth c nL D A Q w ce sl (pc + 1) lv (.int (xs n) :: st)) : Jr p l e R s m args below meth c nL D A Q w ce sl pc lv (.int i :: .ref b :: st) := by
  subst hn
  exact fun H locs ls hP hD hS hl => va_sld x.1 x.2.1 hX hbl hbA hS hin d (h H locs ls hP hD hS hl)
theorem jr_icmp_gt (x : Rx p s m args c cc ws own nL D cA A) {a b : Int32} {off : Int} {tgt : Nat} (d : decode cc pc = .ok (.if_icmp .gt off, 3)) (ht : (pc : Int) + off = (tgt : Int)) (kt : b < a → Jr p l e R s m args below meth c nL D A Q w ce sl tgt lv st) (kf : ¬ b < a → Jr p l e R s m args below meth c nL D A Q w ce sl (pc + 3) lv st) : Jr p l e R s m args below meth c nL D A Q w ce sl pc lv (.int b :: .int a :: st) :=
  fun H locs ls hP hD hS hl => lv_icmp_gt x.1 x.2.1 d ht (fun z => kt z H locs ls hP hD hS hl) (fun z => kf z H locs ls hP hD hS hl)
theorem jr_icmp_eq (x : Rx p s m args c cc ws own nL D cA A) {a b : Int32} {off : Int} {tgt : Nat} (d : decode cc pc = .ok (.if_icmp .eq off, 3)) (ht : (pc : Int) + off = (tgt : Int)) (kt : a = b → Jr p l e R s m args below meth c nL D A Q w ce sl tgt lv st) (kf : ¬ a = b → Jr p l e R s m args below meth c nL D A Q w ce sl (pc + 3) lv st) : Jr p l e R s m args below meth c nL D A Q w ce sl pc lv (.int b :: .int a :: st) :=
  fun H locs ls hP hD hS hl => lv_icmp_eq x.1 x.2.1 d ht (fun z => kt z H locs ls hP hD hS hl) (fun z => kf z H locs ls hP hD hS hl)
theorem jr_tsw (x : Rx p s m args c cc ws own nL D cA A) {dflt lo hi : Int} {offs : Array Int} {len t : Nat} {ts : List Nat} {v : Int32} (d : decode cc pc = .ok (.tableswitch dflt lo hi offs, len)) (h0 : (pc : Int) + dflt = (t : Int)) (h1 : hi = lo + ts.length - 1) (h2 : offs.toList.map (fun o => (pc : Int) + o) = ts.map (fun u : Nat => (u : Int))) (k1 : ∀ (i u : Nat), ts[i]? = some u → v.toInt = lo + i → Jr p l e R s m args below meth c nL D A Q w ce sl u lv st) (k2 : (v.toInt < lo ∨ lo + ts.length ≤ v.toInt) → Jr p l e R s m args below meth c nL D A Q w ce sl t lv st) : Jr p l e R s m args below meth c nL D A Q w ce sl pc lv (.int v :: st) := by
  intro H locs ls hP hD hS hl
  by_cases hb : v.toInt < lo ∨ hi < v.toInt
  · exact lv_tableOut (x := v) x.1 x.2.1 d hb h0 (k2 (by omega) H locs ls hP hD hS hl)
  · have hlt : (v.toInt - lo).toNat < ts.length := by omega
    have e1 := congrArg (fun z => z[(v.toInt - lo).toNat]?) h2
    simp only [List.getElem?_map, Array.getElem?_toList] at e1
    have e2 : ts[(v.toInt - lo).toNat]? = some ts[(v.toInt - lo).toNat] := List.getElem?_eq_getElem hlt
    rw [e2] at e1
    cases ho : offs[(v.toInt - lo).toNat]? with
    | none => rw [ho] at e1; simp at e1
    | some o =>
      rw [ho] at e1
      simp only [Option.map_some, Option.some.injEq] at e1
      exact lv_tableIn (x := v) x.1 x.2.1 d (by omega) (by omega) ho e1 (k1 _ _ e2 (by omega) H locs ls hP hD hS hl)
/-- an argument out of the script -/
theorem jr_arg (x : Rx p s m args c cc ws own nL D cA A) {b L : Nat} {xs : Nat → Int32} (hX : va_X b L xs s s.heap) (hbl : b < s.heap.size) (hbA : ¬ A b) (hL : L < 2 ^ 31) {i n : Nat} {z : Int} (d0 : decode cc pc = .ok (.aload_n 0, 1)) (d1 : decode cc (pc + 1) = .ok (.iload_n 3, 1)) (d2 : decode cc (pc + 2) = .ok (.iconst z, 1)) (d3 : decode cc (pc + 3) = .ok (.iadd, 1)) (d4 : decode cc (pc + 4) = .ok (.iaload, 1)) (hz : Int32.ofInt z = nI n) (n0 n3 : Nat) (h0 : lv[n0]? = some (0, .ref b)) (h3 : lv[n3]? = some (3, .int (nI i))) (hi : i + n < L) (h : Jr p l e R s m args below meth c nL D A Q w ce sl (pc + 5) lv (.int (xs (i + n)) :: st)) : Jr p l e R s m args below meth c nL D A Q w ce sl pc lv st := by
  refine jr_aload_n x d0 rfl n0 h0 ?_
  refine jr_iload_n x d1 rfl n3 h3 ?_
  refine jr_iconst x d2 hz ?_
  refine jr_iadd x d3 ?_
  rw [nI_add]
  exact jr_sld x hX hbl hbA (vp_in_nI hi hL) (nI_clamp (by omega)) d4 h
theorem jr_callC {y : MethodName} {rm : Room} {av : List mV} {σ ρ : mS} {v : Int32} {y' : Yd} {ad ad2 : Nat → Nat → Nat} {index maxL : Nat} {bytes : ByteArray} {rt : Option FieldType} (x : Rx p s m args c cc ws own nL D cA A) (M : Meets clC y (Cond.code y bytes maxL rt :: wT) rm (mR 0 0 :: av) σ (OkC v y')) (d : decode cc pc = .ok (.invokevirtual index, 3)) (cw : CallW R s args own RX6 index y bytes maxL rt (Cond.code y bytes maxL rt :: wT) rm 0 0 av.length) (hce : ce ≤ R.cells ∧ sl ≤ R.slots)
    (h : ∀ τ, RC τ y' → Jr p l e R s m args below meth c nL D A Q (wl cA ad τ clC ++ wl cA ad2 ρ clR) ce sl (pc + 3) lv [.int v]) : Jr p l e R s m args below meth c nL D A Q (wl cA ad σ clC ++ wl cA ad2 ρ clR) ce sl pc lv ((av.map (cv ad)).reverse ++ [.ref (ad 0 0)]) :=
  jr_callV (w := []) (w2 := wl cA ad2 ρ clR) (st := []) x M d (ci := 6) (T := TX6) (N := 11) rfl rfl (by decide) cw (Nat.zero_le _) hce (fun r τ hp => by
    obtain ⟨rfl, hr⟩ := hp
    exact h τ hr)
theorem jr_callR {y : MethodName} {rm : Room} {av : List mV} {σ ρ : mS} {v u : Int32} {y' : Yd} {ad ad2 : Nat → Nat → Nat} {index maxL : Nat} {bytes : ByteArray} {rt : Option FieldType} (x : Rx p s m args c cc ws own nL D cA A) (M : Meets clR y (Cond.code y bytes maxL rt :: wT) rm (mR 20 0 :: av) ρ (OkR v y')) (d : decode cc pc = .ok (.invokevirtual index, 3)) (cw : CallW R s args own RX7 index y bytes maxL rt (Cond.code y bytes maxL rt :: wT) rm 0 0 av.length) (hce : ce ≤ R.cells ∧ sl ≤ R.slots)
    (h : ∀ τ ls, RRw τ y' ls [] → yE y' = [] → Jr p l e R s m args below meth c nL D A Q (wl cA ad σ clC ++ wl cA ad2 τ clR) ce sl (pc + 3) lv [.int v, .int u]) : Jr p l e R s m args below meth c nL D A Q (wl cA ad σ clC ++ wl cA ad2 ρ clR) ce sl pc lv ((av.map (cv ad2)).reverse ++ [.ref (ad2 20 0), .int u]) := by
  have := jr_callV (w := wl cA ad σ clC) (w2 := []) (st := [.int u]) (ad := ad2) x M d (ci := 7) (T := TX7) (N := 37) rfl rfl (by decide) cw (Nat.le_of_ble_eq_true rfl) hce (Q := Q) (l := l) (e := e) (below := below) (meth := meth) (lv := lv) (fun r τ hp => by
    obtain ⟨rfl, ⟨ls, hr⟩, hE⟩ := hp
    rw [List.append_nil]
    exact h τ ls hr hE)
  rw [List.append_nil] at this
  exact this
end LAW1
theorem dL_0 : decode code 0 = .ok (.new 7, 3) := by decide +kernel
theorem dL_3 : decode code 3 = .ok (.dup, 1) := by decide +kernel
theorem dL_4 : decode code 4 = .ok (.invokespecial 9, 3) := by decide +kernel
theorem dL_7 : decode code 7 = .ok (.astore_n 1, 1) := by decide +kernel
theorem dL_8 : decode code 8 = .ok (.new 10, 3) := by decide +kernel
theorem dL_11 : decode code 11 = .ok (.dup, 1) := by decide +kernel
theorem dL_12 : decode code 12 = .ok (.invokespecial 12, 3) := by decide +kernel
theorem dL_15 : decode code 15 = .ok (.astore_n 2, 1) := by decide +kernel
theorem dL_16 : decode code 16 = .ok (.iconst 0, 1) := by decide +kernel
theorem dL_17 : decode code 17 = .ok (.istore_n 3, 1) := by decide +kernel
theorem dL_18 : decode code 18 = .ok (.iload_n 3, 1) := by decide +kernel
theorem dL_19 : decode code 19 = .ok (.aload_n 0, 1) := by decide +kernel
theorem dL_20 : decode code 20 = .ok (.arraylength, 1) := by decide +kernel
theorem dL_21 : decode code 21 = .ok (.iconst 5, 1) := by decide +kernel
theorem dL_22 : decode code 22 = .ok (.isub, 1) := by decide +kernel
theorem dL_23 : decode code 23 = .ok (.if_icmp .gt 601, 3) := by decide +kernel
theorem dL_26 : decode code 26 = .ok (.aload_n 0, 1) := by decide +kernel
theorem dL_27 : decode code 27 = .ok (.iload_n 3, 1) := by decide +kernel
theorem dL_28 : decode code 28 = .ok (.iaload, 1) := by decide +kernel
theorem dL_29 : decode code 29 = .ok (.bipush 31, 2) := by decide +kernel
theorem dL_31 : decode code 31 = .ok (.iand, 1) := by decide +kernel
theorem dL_32 : decode code 32 = .ok (.tableswitch 586 0 19 #[96, 149, 182, 215, 228, 251, 264, 287, 320, 343, 366, 399, 432, 455, 478, 501, 514, 527, 540, 563], 96) := by decide +kernel
theorem dL_128 : decode code 128 = .ok (.aload_n 1, 1) := by decide +kernel
theorem dL_129 : decode code 129 = .ok (.aload_n 0, 1) := by decide +kernel
theorem dL_130 : decode code 130 = .ok (.iload_n 3, 1) := by decide +kernel
theorem dL_131 : decode code 131 = .ok (.iconst 1, 1) := by decide +kernel
theorem dL_132 : decode code 132 = .ok (.iadd, 1) := by decide +kernel
theorem dL_133 : decode code 133 = .ok (.iaload, 1) := by decide +kernel
theorem dL_134 : decode code 134 = .ok (.aload_n 0, 1) := by decide +kernel
theorem dL_135 : decode code 135 = .ok (.iload_n 3, 1) := by decide +kernel
theorem dL_136 : decode code 136 = .ok (.iconst 2, 1) := by decide +kernel
theorem dL_137 : decode code 137 = .ok (.iadd, 1) := by decide +kernel
theorem dL_138 : decode code 138 = .ok (.iaload, 1) := by decide +kernel
theorem dL_139 : decode code 139 = .ok (.aload_n 0, 1) := by decide +kernel
theorem dL_140 : decode code 140 = .ok (.iload_n 3, 1) := by decide +kernel
theorem dL_141 : decode code 141 = .ok (.iconst 3, 1) := by decide +kernel
theorem dL_142 : decode code 142 = .ok (.iadd, 1) := by decide +kernel
theorem dL_143 : decode code 143 = .ok (.iaload, 1) := by decide +kernel
theorem dL_144 : decode code 144 = .ok (.aload_n 0, 1) := by decide +kernel
theorem dL_145 : decode code 145 = .ok (.iload_n 3, 1) := by decide +kernel
theorem dL_146 : decode code 146 = .ok (.iconst 4, 1) := by decide +kernel
theorem dL_147 : decode code 147 = .ok (.iadd, 1) := by decide +kernel
theorem dL_148 : decode code 148 = .ok (.iaload, 1) := by decide +kernel
theorem dL_149 : decode code 149 = .ok (.invokevirtual 13, 3) := by decide +kernel
theorem dL_152 : decode code 152 = .ok (.aload_n 2, 1) := by decide +kernel
theorem dL_153 : decode code 153 = .ok (.aload_n 0, 1) := by decide +kernel
theorem dL_154 : decode code 154 = .ok (.iload_n 3, 1) := by decide +kernel
theorem dL_155 : decode code 155 = .ok (.iconst 1, 1) := by decide +kernel
theorem dL_156 : decode code 156 = .ok (.iadd, 1) := by decide +kernel
theorem dL_157 : decode code 157 = .ok (.iaload, 1) := by decide +kernel
theorem dL_158 : decode code 158 = .ok (.aload_n 0, 1) := by decide +kernel
theorem dL_159 : decode code 159 = .ok (.iload_n 3, 1) := by decide +kernel
theorem dL_160 : decode code 160 = .ok (.iconst 2, 1) := by decide +kernel
theorem dL_161 : decode code 161 = .ok (.iadd, 1) := by decide +kernel
theorem dL_162 : decode code 162 = .ok (.iaload, 1) := by decide +kernel
theorem dL_163 : decode code 163 = .ok (.aload_n 0, 1) := by decide +kernel
theorem dL_164 : decode code 164 = .ok (.iload_n 3, 1) := by decide +kernel
theorem dL_165 : decode code 165 = .ok (.iconst 3, 1) := by decide +kernel
theorem dL_166 : decode code 166 = .ok (.iadd, 1) := by decide +kernel
theorem dL_167 : decode code 167 = .ok (.iaload, 1) := by decide +kernel
theorem dL_168 : decode code 168 = .ok (.aload_n 0, 1) := by decide +kernel
theorem dL_169 : decode code 169 = .ok (.iload_n 3, 1) := by decide +kernel
theorem dL_170 : decode code 170 = .ok (.iconst 4, 1) := by decide +kernel
theorem dL_171 : decode code 171 = .ok (.iadd, 1) := by decide +kernel
theorem dL_172 : decode code 172 = .ok (.iaload, 1) := by decide +kernel
theorem dL_173 : decode code 173 = .ok (.invokevirtual 17, 3) := by decide +kernel
theorem dL_176 : decode code 176 = .ok (.if_icmp .eq 442, 3) := by decide +kernel
theorem dL_179 : decode code 179 = .ok (.iconst 0, 1) := by decide +kernel
theorem dL_180 : decode code 180 = .ok (.ireturn, 1) := by decide +kernel
theorem dL_181 : decode code 181 = .ok (.aload_n 1, 1) := by decide +kernel
theorem dL_182 : decode code 182 = .ok (.aload_n 0, 1) := by decide +kernel
theorem dL_183 : decode code 183 = .ok (.iload_n 3, 1) := by decide +kernel
theorem dL_184 : decode code 184 = .ok (.iconst 1, 1) := by decide +kernel
theorem dL_185 : decode code 185 = .ok (.iadd, 1) := by decide +kernel
theorem dL_186 : decode code 186 = .ok (.iaload, 1) := by decide +kernel
theorem dL_187 : decode code 187 = .ok (.aload_n 0, 1) := by decide +kernel
theorem dL_188 : decode code 188 = .ok (.iload_n 3, 1) := by decide +kernel
theorem dL_189 : decode code 189 = .ok (.iconst 2, 1) := by decide +kernel
theorem dL_190 : decode code 190 = .ok (.iadd, 1) := by decide +kernel
theorem dL_191 : decode code 191 = .ok (.iaload, 1) := by decide +kernel
theorem dL_192 : decode code 192 = .ok (.invokevirtual 18, 3) := by decide +kernel
theorem dL_195 : decode code 195 = .ok (.aload_n 2, 1) := by decide +kernel
theorem dL_196 : decode code 196 = .ok (.aload_n 0, 1) := by decide +kernel
theorem dL_197 : decode code 197 = .ok (.iload_n 3, 1) := by decide +kernel
theorem dL_198 : decode code 198 = .ok (.iconst 1, 1) := by decide +kernel
theorem dL_199 : decode code 199 = .ok (.iadd, 1) := by decide +kernel
theorem dL_200 : decode code 200 = .ok (.iaload, 1) := by decide +kernel
theorem dL_201 : decode code 201 = .ok (.aload_n 0, 1) := by decide +kernel
theorem dL_202 : decode code 202 = .ok (.iload_n 3, 1) := by decide +kernel
theorem dL_203 : decode code 203 = .ok (.iconst 2, 1) := by decide +kernel
theorem dL_204 : decode code 204 = .ok (.iadd, 1) := by decide +kernel
theorem dL_205 : decode code 205 = .ok (.iaload, 1) := by decide +kernel
theorem dL_206 : decode code 206 = .ok (.invokevirtual 22, 3) := by decide +kernel
theorem dL_209 : decode code 209 = .ok (.if_icmp .eq 409, 3) := by decide +kernel
theorem dL_212 : decode code 212 = .ok (.iconst 0, 1) := by decide +kernel
theorem dL_213 : decode code 213 = .ok (.ireturn, 1) := by decide +kernel
theorem dL_214 : decode code 214 = .ok (.aload_n 1, 1) := by decide +kernel
theorem dL_215 : decode code 215 = .ok (.aload_n 0, 1) := by decide +kernel
theorem dL_216 : decode code 216 = .ok (.iload_n 3, 1) := by decide +kernel
theorem dL_217 : decode code 217 = .ok (.iconst 1, 1) := by decide +kernel
theorem dL_218 : decode code 218 = .ok (.iadd, 1) := by decide +kernel
theorem dL_219 : decode code 219 = .ok (.iaload, 1) := by decide +kernel
theorem dL_220 : decode code 220 = .ok (.aload_n 0, 1) := by decide +kernel
theorem dL_221 : decode code 221 = .ok (.iload_n 3, 1) := by decide +kernel
theorem dL_222 : decode code 222 = .ok (.iconst 2, 1) := by decide +kernel
theorem dL_223 : decode code 223 = .ok (.iadd, 1) := by decide +kernel
theorem dL_224 : decode code 224 = .ok (.iaload, 1) := by decide +kernel
theorem dL_225 : decode code 225 = .ok (.invokevirtual 23, 3) := by decide +kernel
theorem dL_228 : decode code 228 = .ok (.aload_n 2, 1) := by decide +kernel
theorem dL_229 : decode code 229 = .ok (.aload_n 0, 1) := by decide +kernel
theorem dL_230 : decode code 230 = .ok (.iload_n 3, 1) := by decide +kernel
theorem dL_231 : decode code 231 = .ok (.iconst 1, 1) := by decide +kernel
theorem dL_232 : decode code 232 = .ok (.iadd, 1) := by decide +kernel
theorem dL_233 : decode code 233 = .ok (.iaload, 1) := by decide +kernel
theorem dL_234 : decode code 234 = .ok (.aload_n 0, 1) := by decide +kernel
theorem dL_235 : decode code 235 = .ok (.iload_n 3, 1) := by decide +kernel
theorem dL_236 : decode code 236 = .ok (.iconst 2, 1) := by decide +kernel
theorem dL_237 : decode code 237 = .ok (.iadd, 1) := by decide +kernel
theorem dL_238 : decode code 238 = .ok (.iaload, 1) := by decide +kernel
theorem dL_239 : decode code 239 = .ok (.invokevirtual 26, 3) := by decide +kernel
theorem dL_242 : decode code 242 = .ok (.if_icmp .eq 376, 3) := by decide +kernel
theorem dL_245 : decode code 245 = .ok (.iconst 0, 1) := by decide +kernel
theorem dL_246 : decode code 246 = .ok (.ireturn, 1) := by decide +kernel
theorem dL_247 : decode code 247 = .ok (.aload_n 1, 1) := by decide +kernel
theorem dL_248 : decode code 248 = .ok (.invokevirtual 27, 3) := by decide +kernel
theorem dL_251 : decode code 251 = .ok (.aload_n 2, 1) := by decide +kernel
theorem dL_252 : decode code 252 = .ok (.invokevirtual 31, 3) := by decide +kernel
theorem dL_255 : decode code 255 = .ok (.if_icmp .eq 363, 3) := by decide +kernel
theorem dL_258 : decode code 258 = .ok (.iconst 0, 1) := by decide +kernel
theorem dL_259 : decode code 259 = .ok (.ireturn, 1) := by decide +kernel
theorem dL_260 : decode code 260 = .ok (.aload_n 1, 1) := by decide +kernel
theorem dL_261 : decode code 261 = .ok (.aload_n 0, 1) := by decide +kernel
theorem dL_262 : decode code 262 = .ok (.iload_n 3, 1) := by decide +kernel
theorem dL_263 : decode code 263 = .ok (.iconst 1, 1) := by decide +kernel
theorem dL_264 : decode code 264 = .ok (.iadd, 1) := by decide +kernel
theorem dL_265 : decode code 265 = .ok (.iaload, 1) := by decide +kernel
theorem dL_266 : decode code 266 = .ok (.invokevirtual 32, 3) := by decide +kernel
theorem dL_269 : decode code 269 = .ok (.aload_n 2, 1) := by decide +kernel
theorem dL_270 : decode code 270 = .ok (.aload_n 0, 1) := by decide +kernel
theorem dL_271 : decode code 271 = .ok (.iload_n 3, 1) := by decide +kernel
theorem dL_272 : decode code 272 = .ok (.iconst 1, 1) := by decide +kernel
theorem dL_273 : decode code 273 = .ok (.iadd, 1) := by decide +kernel
theorem dL_274 : decode code 274 = .ok (.iaload, 1) := by decide +kernel
theorem dL_275 : decode code 275 = .ok (.invokevirtual 36, 3) := by decide +kernel
theorem dL_278 : decode code 278 = .ok (.if_icmp .eq 340, 3) := by decide +kernel
theorem dL_281 : decode code 281 = .ok (.iconst 0, 1) := by decide +kernel
theorem dL_282 : decode code 282 = .ok (.ireturn, 1) := by decide +kernel
theorem dL_283 : decode code 283 = .ok (.aload_n 1, 1) := by decide +kernel
theorem dL_284 : decode code 284 = .ok (.invokevirtual 37, 3) := by decide +kernel
theorem dL_287 : decode code 287 = .ok (.aload_n 2, 1) := by decide +kernel
theorem dL_288 : decode code 288 = .ok (.invokevirtual 40, 3) := by decide +kernel
theorem dL_291 : decode code 291 = .ok (.if_icmp .eq 327, 3) := by decide +kernel
theorem dL_294 : decode code 294 = .ok (.iconst 0, 1) := by decide +kernel
theorem dL_295 : decode code 295 = .ok (.ireturn, 1) := by decide +kernel
theorem dL_296 : decode code 296 = .ok (.aload_n 1, 1) := by decide +kernel
theorem dL_297 : decode code 297 = .ok (.aload_n 0, 1) := by decide +kernel
theorem dL_298 : decode code 298 = .ok (.iload_n 3, 1) := by decide +kernel
theorem dL_299 : decode code 299 = .ok (.iconst 1, 1) := by decide +kernel
theorem dL_300 : decode code 300 = .ok (.iadd, 1) := by decide +kernel
theorem dL_301 : decode code 301 = .ok (.iaload, 1) := by decide +kernel
theorem dL_302 : decode code 302 = .ok (.invokevirtual 41, 3) := by decide +kernel
theorem dL_305 : decode code 305 = .ok (.aload_n 2, 1) := by decide +kernel
theorem dL_306 : decode code 306 = .ok (.aload_n 0, 1) := by decide +kernel
theorem dL_307 : decode code 307 = .ok (.iload_n 3, 1) := by decide +kernel
theorem dL_308 : decode code 308 = .ok (.iconst 1, 1) := by decide +kernel
theorem dL_309 : decode code 309 = .ok (.iadd, 1) := by decide +kernel
theorem dL_310 : decode code 310 = .ok (.iaload, 1) := by decide +kernel
theorem dL_311 : decode code 311 = .ok (.invokevirtual 44, 3) := by decide +kernel
theorem dL_314 : decode code 314 = .ok (.if_icmp .eq 304, 3) := by decide +kernel
theorem dL_317 : decode code 317 = .ok (.iconst 0, 1) := by decide +kernel
theorem dL_318 : decode code 318 = .ok (.ireturn, 1) := by decide +kernel
theorem dL_319 : decode code 319 = .ok (.aload_n 1, 1) := by decide +kernel
theorem dL_320 : decode code 320 = .ok (.aload_n 0, 1) := by decide +kernel
theorem dL_321 : decode code 321 = .ok (.iload_n 3, 1) := by decide +kernel
theorem dL_322 : decode code 322 = .ok (.iconst 1, 1) := by decide +kernel
theorem dL_323 : decode code 323 = .ok (.iadd, 1) := by decide +kernel
theorem dL_324 : decode code 324 = .ok (.iaload, 1) := by decide +kernel
theorem dL_325 : decode code 325 = .ok (.aload_n 0, 1) := by decide +kernel
theorem dL_326 : decode code 326 = .ok (.iload_n 3, 1) := by decide +kernel
theorem dL_327 : decode code 327 = .ok (.iconst 2, 1) := by decide +kernel
theorem dL_328 : decode code 328 = .ok (.iadd, 1) := by decide +kernel
theorem dL_329 : decode code 329 = .ok (.iaload, 1) := by decide +kernel
theorem dL_330 : decode code 330 = .ok (.invokevirtual 45, 3) := by decide +kernel
theorem dL_333 : decode code 333 = .ok (.aload_n 2, 1) := by decide +kernel
theorem dL_334 : decode code 334 = .ok (.aload_n 0, 1) := by decide +kernel
theorem dL_335 : decode code 335 = .ok (.iload_n 3, 1) := by decide +kernel
theorem dL_336 : decode code 336 = .ok (.iconst 1, 1) := by decide +kernel
theorem dL_337 : decode code 337 = .ok (.iadd, 1) := by decide +kernel
theorem dL_338 : decode code 338 = .ok (.iaload, 1) := by decide +kernel
theorem dL_339 : decode code 339 = .ok (.aload_n 0, 1) := by decide +kernel
theorem dL_340 : decode code 340 = .ok (.iload_n 3, 1) := by decide +kernel
theorem dL_341 : decode code 341 = .ok (.iconst 2, 1) := by decide +kernel
theorem dL_342 : decode code 342 = .ok (.iadd, 1) := by decide +kernel
theorem dL_343 : decode code 343 = .ok (.iaload, 1) := by decide +kernel
theorem dL_344 : decode code 344 = .ok (.invokevirtual 48, 3) := by decide +kernel
theorem dL_347 : decode code 347 = .ok (.if_icmp .eq 271, 3) := by decide +kernel
theorem dL_350 : decode code 350 = .ok (.iconst 0, 1) := by decide +kernel
theorem dL_351 : decode code 351 = .ok (.ireturn, 1) := by decide +kernel
theorem dL_352 : decode code 352 = .ok (.aload_n 1, 1) := by decide +kernel
theorem dL_353 : decode code 353 = .ok (.aload_n 0, 1) := by decide +kernel
theorem dL_354 : decode code 354 = .ok (.iload_n 3, 1) := by decide +kernel
theorem dL_355 : decode code 355 = .ok (.iconst 1, 1) := by decide +kernel
theorem dL_356 : decode code 356 = .ok (.iadd, 1) := by decide +kernel
theorem dL_357 : decode code 357 = .ok (.iaload, 1) := by decide +kernel
theorem dL_358 : decode code 358 = .ok (.invokevirtual 49, 3) := by decide +kernel
theorem dL_361 : decode code 361 = .ok (.aload_n 2, 1) := by decide +kernel
theorem dL_362 : decode code 362 = .ok (.aload_n 0, 1) := by decide +kernel
theorem dL_363 : decode code 363 = .ok (.iload_n 3, 1) := by decide +kernel
theorem dL_364 : decode code 364 = .ok (.iconst 1, 1) := by decide +kernel
theorem dL_365 : decode code 365 = .ok (.iadd, 1) := by decide +kernel
theorem dL_366 : decode code 366 = .ok (.iaload, 1) := by decide +kernel
theorem dL_367 : decode code 367 = .ok (.invokevirtual 52, 3) := by decide +kernel
theorem dL_370 : decode code 370 = .ok (.if_icmp .eq 248, 3) := by decide +kernel
theorem dL_373 : decode code 373 = .ok (.iconst 0, 1) := by decide +kernel
theorem dL_374 : decode code 374 = .ok (.ireturn, 1) := by decide +kernel
theorem dL_375 : decode code 375 = .ok (.aload_n 1, 1) := by decide +kernel
theorem dL_376 : decode code 376 = .ok (.aload_n 0, 1) := by decide +kernel
theorem dL_377 : decode code 377 = .ok (.iload_n 3, 1) := by decide +kernel
theorem dL_378 : decode code 378 = .ok (.iconst 1, 1) := by decide +kernel
theorem dL_379 : decode code 379 = .ok (.iadd, 1) := by decide +kernel
theorem dL_380 : decode code 380 = .ok (.iaload, 1) := by decide +kernel
theorem dL_381 : decode code 381 = .ok (.invokevirtual 53, 3) := by decide +kernel
theorem dL_384 : decode code 384 = .ok (.aload_n 2, 1) := by decide +kernel
theorem dL_385 : decode code 385 = .ok (.aload_n 0, 1) := by decide +kernel
theorem dL_386 : decode code 386 = .ok (.iload_n 3, 1) := by decide +kernel
theorem dL_387 : decode code 387 = .ok (.iconst 1, 1) := by decide +kernel
theorem dL_388 : decode code 388 = .ok (.iadd, 1) := by decide +kernel
theorem dL_389 : decode code 389 = .ok (.iaload, 1) := by decide +kernel
theorem dL_390 : decode code 390 = .ok (.invokevirtual 56, 3) := by decide +kernel
theorem dL_393 : decode code 393 = .ok (.if_icmp .eq 225, 3) := by decide +kernel
theorem dL_396 : decode code 396 = .ok (.iconst 0, 1) := by decide +kernel
theorem dL_397 : decode code 397 = .ok (.ireturn, 1) := by decide +kernel
theorem dL_398 : decode code 398 = .ok (.aload_n 1, 1) := by decide +kernel
theorem dL_399 : decode code 399 = .ok (.aload_n 0, 1) := by decide +kernel
theorem dL_400 : decode code 400 = .ok (.iload_n 3, 1) := by decide +kernel
theorem dL_401 : decode code 401 = .ok (.iconst 1, 1) := by decide +kernel
theorem dL_402 : decode code 402 = .ok (.iadd, 1) := by decide +kernel
theorem dL_403 : decode code 403 = .ok (.iaload, 1) := by decide +kernel
theorem dL_404 : decode code 404 = .ok (.aload_n 0, 1) := by decide +kernel
theorem dL_405 : decode code 405 = .ok (.iload_n 3, 1) := by decide +kernel
theorem dL_406 : decode code 406 = .ok (.iconst 2, 1) := by decide +kernel
theorem dL_407 : decode code 407 = .ok (.iadd, 1) := by decide +kernel
theorem dL_408 : decode code 408 = .ok (.iaload, 1) := by decide +kernel
theorem dL_409 : decode code 409 = .ok (.invokevirtual 57, 3) := by decide +kernel
theorem dL_412 : decode code 412 = .ok (.aload_n 2, 1) := by decide +kernel
theorem dL_413 : decode code 413 = .ok (.aload_n 0, 1) := by decide +kernel
theorem dL_414 : decode code 414 = .ok (.iload_n 3, 1) := by decide +kernel
theorem dL_415 : decode code 415 = .ok (.iconst 1, 1) := by decide +kernel
theorem dL_416 : decode code 416 = .ok (.iadd, 1) := by decide +kernel
theorem dL_417 : decode code 417 = .ok (.iaload, 1) := by decide +kernel
theorem dL_418 : decode code 418 = .ok (.aload_n 0, 1) := by decide +kernel
theorem dL_419 : decode code 419 = .ok (.iload_n 3, 1) := by decide +kernel
theorem dL_420 : decode code 420 = .ok (.iconst 2, 1) := by decide +kernel
theorem dL_421 : decode code 421 = .ok (.iadd, 1) := by decide +kernel
theorem dL_422 : decode code 422 = .ok (.iaload, 1) := by decide +kernel
theorem dL_423 : decode code 423 = .ok (.invokevirtual 60, 3) := by decide +kernel
theorem dL_426 : decode code 426 = .ok (.if_icmp .eq 192, 3) := by decide +kernel
theorem dL_429 : decode code 429 = .ok (.iconst 0, 1) := by decide +kernel
theorem dL_430 : decode code 430 = .ok (.ireturn, 1) := by decide +kernel
theorem dL_431 : decode code 431 = .ok (.aload_n 1, 1) := by decide +kernel
theorem dL_432 : decode code 432 = .ok (.aload_n 0, 1) := by decide +kernel
theorem dL_433 : decode code 433 = .ok (.iload_n 3, 1) := by decide +kernel
theorem dL_434 : decode code 434 = .ok (.iconst 1, 1) := by decide +kernel
theorem dL_435 : decode code 435 = .ok (.iadd, 1) := by decide +kernel
theorem dL_436 : decode code 436 = .ok (.iaload, 1) := by decide +kernel
theorem dL_437 : decode code 437 = .ok (.aload_n 0, 1) := by decide +kernel
theorem dL_438 : decode code 438 = .ok (.iload_n 3, 1) := by decide +kernel
theorem dL_439 : decode code 439 = .ok (.iconst 2, 1) := by decide +kernel
theorem dL_440 : decode code 440 = .ok (.iadd, 1) := by decide +kernel
theorem dL_441 : decode code 441 = .ok (.iaload, 1) := by decide +kernel
theorem dL_442 : decode code 442 = .ok (.invokevirtual 61, 3) := by decide +kernel
theorem dL_445 : decode code 445 = .ok (.aload_n 2, 1) := by decide +kernel
theorem dL_446 : decode code 446 = .ok (.aload_n 0, 1) := by decide +kernel
theorem dL_447 : decode code 447 = .ok (.iload_n 3, 1) := by decide +kernel
theorem dL_448 : decode code 448 = .ok (.iconst 1, 1) := by decide +kernel
theorem dL_449 : decode code 449 = .ok (.iadd, 1) := by decide +kernel
theorem dL_450 : decode code 450 = .ok (.iaload, 1) := by decide +kernel
theorem dL_451 : decode code 451 = .ok (.aload_n 0, 1) := by decide +kernel
theorem dL_452 : decode code 452 = .ok (.iload_n 3, 1) := by decide +kernel
theorem dL_453 : decode code 453 = .ok (.iconst 2, 1) := by decide +kernel
theorem dL_454 : decode code 454 = .ok (.iadd, 1) := by decide +kernel
theorem dL_455 : decode code 455 = .ok (.iaload, 1) := by decide +kernel
theorem dL_456 : decode code 456 = .ok (.invokevirtual 65, 3) := by decide +kernel
theorem dL_459 : decode code 459 = .ok (.if_icmp .eq 159, 3) := by decide +kernel
theorem dL_462 : decode code 462 = .ok (.iconst 0, 1) := by decide +kernel
theorem dL_463 : decode code 463 = .ok (.ireturn, 1) := by decide +kernel
theorem dL_464 : decode code 464 = .ok (.aload_n 1, 1) := by decide +kernel
theorem dL_465 : decode code 465 = .ok (.aload_n 0, 1) := by decide +kernel
theorem dL_466 : decode code 466 = .ok (.iload_n 3, 1) := by decide +kernel
theorem dL_467 : decode code 467 = .ok (.iconst 1, 1) := by decide +kernel
theorem dL_468 : decode code 468 = .ok (.iadd, 1) := by decide +kernel
theorem dL_469 : decode code 469 = .ok (.iaload, 1) := by decide +kernel
theorem dL_470 : decode code 470 = .ok (.invokevirtual 66, 3) := by decide +kernel
theorem dL_473 : decode code 473 = .ok (.aload_n 2, 1) := by decide +kernel
theorem dL_474 : decode code 474 = .ok (.aload_n 0, 1) := by decide +kernel
theorem dL_475 : decode code 475 = .ok (.iload_n 3, 1) := by decide +kernel
theorem dL_476 : decode code 476 = .ok (.iconst 1, 1) := by decide +kernel
theorem dL_477 : decode code 477 = .ok (.iadd, 1) := by decide +kernel
theorem dL_478 : decode code 478 = .ok (.iaload, 1) := by decide +kernel
theorem dL_479 : decode code 479 = .ok (.invokevirtual 69, 3) := by decide +kernel
theorem dL_482 : decode code 482 = .ok (.if_icmp .eq 136, 3) := by decide +kernel
theorem dL_485 : decode code 485 = .ok (.iconst 0, 1) := by decide +kernel
theorem dL_486 : decode code 486 = .ok (.ireturn, 1) := by decide +kernel
theorem dL_487 : decode code 487 = .ok (.aload_n 1, 1) := by decide +kernel
theorem dL_488 : decode code 488 = .ok (.aload_n 0, 1) := by decide +kernel
theorem dL_489 : decode code 489 = .ok (.iload_n 3, 1) := by decide +kernel
theorem dL_490 : decode code 490 = .ok (.iconst 1, 1) := by decide +kernel
theorem dL_491 : decode code 491 = .ok (.iadd, 1) := by decide +kernel
theorem dL_492 : decode code 492 = .ok (.iaload, 1) := by decide +kernel
theorem dL_493 : decode code 493 = .ok (.invokevirtual 70, 3) := by decide +kernel
theorem dL_496 : decode code 496 = .ok (.aload_n 2, 1) := by decide +kernel
theorem dL_497 : decode code 497 = .ok (.aload_n 0, 1) := by decide +kernel
theorem dL_498 : decode code 498 = .ok (.iload_n 3, 1) := by decide +kernel
theorem dL_499 : decode code 499 = .ok (.iconst 1, 1) := by decide +kernel
theorem dL_500 : decode code 500 = .ok (.iadd, 1) := by decide +kernel
theorem dL_501 : decode code 501 = .ok (.iaload, 1) := by decide +kernel
theorem dL_502 : decode code 502 = .ok (.invokevirtual 73, 3) := by decide +kernel
theorem dL_505 : decode code 505 = .ok (.if_icmp .eq 113, 3) := by decide +kernel
theorem dL_508 : decode code 508 = .ok (.iconst 0, 1) := by decide +kernel
theorem dL_509 : decode code 509 = .ok (.ireturn, 1) := by decide +kernel
theorem dL_510 : decode code 510 = .ok (.aload_n 1, 1) := by decide +kernel
theorem dL_511 : decode code 511 = .ok (.aload_n 0, 1) := by decide +kernel
theorem dL_512 : decode code 512 = .ok (.iload_n 3, 1) := by decide +kernel
theorem dL_513 : decode code 513 = .ok (.iconst 1, 1) := by decide +kernel
theorem dL_514 : decode code 514 = .ok (.iadd, 1) := by decide +kernel
theorem dL_515 : decode code 515 = .ok (.iaload, 1) := by decide +kernel
theorem dL_516 : decode code 516 = .ok (.invokevirtual 74, 3) := by decide +kernel
theorem dL_519 : decode code 519 = .ok (.aload_n 2, 1) := by decide +kernel
theorem dL_520 : decode code 520 = .ok (.aload_n 0, 1) := by decide +kernel
theorem dL_521 : decode code 521 = .ok (.iload_n 3, 1) := by decide +kernel
theorem dL_522 : decode code 522 = .ok (.iconst 1, 1) := by decide +kernel
theorem dL_523 : decode code 523 = .ok (.iadd, 1) := by decide +kernel
theorem dL_524 : decode code 524 = .ok (.iaload, 1) := by decide +kernel
theorem dL_525 : decode code 525 = .ok (.invokevirtual 77, 3) := by decide +kernel
theorem dL_528 : decode code 528 = .ok (.if_icmp .eq 90, 3) := by decide +kernel
theorem dL_531 : decode code 531 = .ok (.iconst 0, 1) := by decide +kernel
theorem dL_532 : decode code 532 = .ok (.ireturn, 1) := by decide +kernel
theorem dL_533 : decode code 533 = .ok (.aload_n 1, 1) := by decide +kernel
theorem dL_534 : decode code 534 = .ok (.invokevirtual 78, 3) := by decide +kernel
theorem dL_537 : decode code 537 = .ok (.aload_n 2, 1) := by decide +kernel
theorem dL_538 : decode code 538 = .ok (.invokevirtual 81, 3) := by decide +kernel
theorem dL_541 : decode code 541 = .ok (.if_icmp .eq 77, 3) := by decide +kernel
theorem dL_544 : decode code 544 = .ok (.iconst 0, 1) := by decide +kernel
theorem dL_545 : decode code 545 = .ok (.ireturn, 1) := by decide +kernel
theorem dL_546 : decode code 546 = .ok (.aload_n 1, 1) := by decide +kernel
theorem dL_547 : decode code 547 = .ok (.invokevirtual 82, 3) := by decide +kernel
theorem dL_550 : decode code 550 = .ok (.aload_n 2, 1) := by decide +kernel
theorem dL_551 : decode code 551 = .ok (.invokevirtual 85, 3) := by decide +kernel
theorem dL_554 : decode code 554 = .ok (.if_icmp .eq 64, 3) := by decide +kernel
theorem dL_557 : decode code 557 = .ok (.iconst 0, 1) := by decide +kernel
theorem dL_558 : decode code 558 = .ok (.ireturn, 1) := by decide +kernel
theorem dL_559 : decode code 559 = .ok (.aload_n 1, 1) := by decide +kernel
theorem dL_560 : decode code 560 = .ok (.invokevirtual 86, 3) := by decide +kernel
theorem dL_563 : decode code 563 = .ok (.aload_n 2, 1) := by decide +kernel
theorem dL_564 : decode code 564 = .ok (.invokevirtual 89, 3) := by decide +kernel
theorem dL_567 : decode code 567 = .ok (.if_icmp .eq 51, 3) := by decide +kernel
theorem dL_570 : decode code 570 = .ok (.iconst 0, 1) := by decide +kernel
theorem dL_571 : decode code 571 = .ok (.ireturn, 1) := by decide +kernel
theorem dL_572 : decode code 572 = .ok (.aload_n 1, 1) := by decide +kernel
theorem dL_573 : decode code 573 = .ok (.aload_n 0, 1) := by decide +kernel
theorem dL_574 : decode code 574 = .ok (.iload_n 3, 1) := by decide +kernel
theorem dL_575 : decode code 575 = .ok (.iconst 1, 1) := by decide +kernel
theorem dL_576 : decode code 576 = .ok (.iadd, 1) := by decide +kernel
theorem dL_577 : decode code 577 = .ok (.iaload, 1) := by decide +kernel
theorem dL_578 : decode code 578 = .ok (.invokevirtual 90, 3) := by decide +kernel
theorem dL_581 : decode code 581 = .ok (.aload_n 2, 1) := by decide +kernel
theorem dL_582 : decode code 582 = .ok (.aload_n 0, 1) := by decide +kernel
theorem dL_583 : decode code 583 = .ok (.iload_n 3, 1) := by decide +kernel
theorem dL_584 : decode code 584 = .ok (.iconst 1, 1) := by decide +kernel
theorem dL_585 : decode code 585 = .ok (.iadd, 1) := by decide +kernel
theorem dL_586 : decode code 586 = .ok (.iaload, 1) := by decide +kernel
theorem dL_587 : decode code 587 = .ok (.invokevirtual 93, 3) := by decide +kernel
theorem dL_590 : decode code 590 = .ok (.if_icmp .eq 28, 3) := by decide +kernel
theorem dL_593 : decode code 593 = .ok (.iconst 0, 1) := by decide +kernel
theorem dL_594 : decode code 594 = .ok (.ireturn, 1) := by decide +kernel
theorem dL_595 : decode code 595 = .ok (.aload_n 1, 1) := by decide +kernel
theorem dL_596 : decode code 596 = .ok (.aload_n 0, 1) := by decide +kernel
theorem dL_597 : decode code 597 = .ok (.iload_n 3, 1) := by decide +kernel
theorem dL_598 : decode code 598 = .ok (.iconst 1, 1) := by decide +kernel
theorem dL_599 : decode code 599 = .ok (.iadd, 1) := by decide +kernel
theorem dL_600 : decode code 600 = .ok (.iaload, 1) := by decide +kernel
theorem dL_601 : decode code 601 = .ok (.invokevirtual 94, 3) := by decide +kernel
theorem dL_604 : decode code 604 = .ok (.aload_n 2, 1) := by decide +kernel
theorem dL_605 : decode code 605 = .ok (.aload_n 0, 1) := by decide +kernel
theorem dL_606 : decode code 606 = .ok (.iload_n 3, 1) := by decide +kernel
theorem dL_607 : decode code 607 = .ok (.iconst 1, 1) := by decide +kernel
theorem dL_608 : decode code 608 = .ok (.iadd, 1) := by decide +kernel
theorem dL_609 : decode code 609 = .ok (.iaload, 1) := by decide +kernel
theorem dL_610 : decode code 610 = .ok (.invokevirtual 97, 3) := by decide +kernel
theorem dL_613 : decode code 613 = .ok (.if_icmp .eq 5, 3) := by decide +kernel
theorem dL_616 : decode code 616 = .ok (.iconst 0, 1) := by decide +kernel
theorem dL_617 : decode code 617 = .ok (.ireturn, 1) := by decide +kernel
theorem dL_618 : decode code 618 = .ok (.iinc 3 5, 3) := by decide +kernel
theorem dL_621 : decode code 621 = .ok (.goto (-603), 3) := by decide +kernel
theorem dL_624 : decode code 624 = .ok (.iconst 1, 1) := by decide +kernel
theorem dL_625 : decode code 625 = .ok (.ireturn, 1) := by decide +kernel
theorem wk_229 : (Jvm.Cond.methodLink "MailYardLaw" (13 : Nat) ({ cls := "MailYard", name := "load", desc := "(IIII)Z" } : Jvm.MethodName)) ∈ wT := inT1 (i := 229) rfl rfl
theorem wk_230 : (Jvm.Cond.instanceMethod ({ cls := "MailYard", name := "load", desc := "(IIII)Z" } : Jvm.MethodName)) ∈ wT := inT1 (i := 230) rfl rfl
theorem wk_231 : (Jvm.Cond.selects "MailYard" ({ cls := "MailYard", name := "load", desc := "(IIII)Z" } : Jvm.MethodName) ({ cls := "MailYard", name := "load", desc := "(IIII)Z" } : Jvm.MethodName)) ∈ wT := inT1 (i := 231) rfl rfl
theorem wk_1 : (Jvm.Cond.initialized "MailYard") ∈ wT := inT1 (i := 1) rfl rfl
theorem wk_600 : (Jvm.Cond.methodLink "MailYardLaw" (17 : Nat) ({ cls := "MailYardModel", name := "load", desc := "(IIII)Z" } : Jvm.MethodName)) ∈ wT := inT3 (i := 120) rfl rfl
theorem wk_601 : (Jvm.Cond.instanceMethod ({ cls := "MailYardModel", name := "load", desc := "(IIII)Z" } : Jvm.MethodName)) ∈ wT := inT3 (i := 121) rfl rfl
theorem wk_602 : (Jvm.Cond.selects "MailYardModel" ({ cls := "MailYardModel", name := "load", desc := "(IIII)Z" } : Jvm.MethodName) ({ cls := "MailYardModel", name := "load", desc := "(IIII)Z" } : Jvm.MethodName)) ∈ wT := inT3 (i := 122) rfl rfl
theorem wk_9 : (Jvm.Cond.initialized "MailYardModel") ∈ wT := inT1 (i := 9) rfl rfl
theorem law_load {p : Program} {l : Launch} {e : Env} {s : State} {m : MethodId} {args : Array Value} {below : List Frame} {meth : Method} {c : Code} {D : va_G} {cA : Nat → ClassId} {A : Nat → Prop} {Q : State → Prop} {b L : Nat} {xs : Nat → Int32} {ce sl : Nat} {ad ad2 : Nat → Nat → Nat} (x : Rx p s m args c code (kX6_init :: wT) "MailYardLaw" 4 D cA A) (hX : va_X b L xs s s.heap) (hbl : b < s.heap.size) (hbA : ¬ A b) (hL : L < 2 ^ 31) (hce : ce ≤ room_1.cells ∧ sl ≤ room_1.slots) {σ ρ : mS} {y : Yd} {ls : List (Int32 × Int32)} {j : Nat} (hC : RC σ y) (hR : RRw ρ y ls []) (hE : yE y = []) (a : LI y j) (hj : j ≤ 600) (hi : 5 * j + 5 ≤ L) {lv : List (Nat × Value)} (h0 : lv[3]? = some (0, .ref b)) (h1 : lv[2]? = some (1, .ref (ad 0 0))) (h2 : lv[1]? = some (2, .ref (ad2 20 0))) (h3 : lv[0]? = some (3, .int (nI (5 * j))))
    (next : ∀ (σ ρ : mS) (y : Yd) (ls : List (Int32 × Int32)), RC σ y → RRw ρ y ls [] → yE y = [] → LI y (j + 1) → Jr p l e room_1 s m args below meth c 4 D A Q (wl cA ad σ clC ++ wl cA ad2 ρ clR) ce sl 618 lv []) : Jr p l e room_1 s m args below meth c 4 D A Q (wl cA ad σ clC ++ wl cA ad2 ρ clR) ce sl 128 lv [] := by
  obtain ⟨v, y', M1, M2, hn⟩ := pr_load hC hR hE a (xs (5 * j + 1)) (xs (5 * j + 2)) (xs (5 * j + 3)) (xs (5 * j + 4))
  refine jr_aload_n x dL_128 rfl 2 h1 ?_
  refine jr_arg x hX hbl hbA hL (n := 1) dL_129 dL_130 dL_131 dL_132 dL_133 (by decide) 3 0 h0 h3 (by omega) ?_
  refine jr_arg x hX hbl hbA hL (n := 2) dL_134 dL_135 dL_136 dL_137 dL_138 (by decide) 3 0 h0 h3 (by omega) ?_
  refine jr_arg x hX hbl hbA hL (n := 3) dL_139 dL_140 dL_141 dL_142 dL_143 (by decide) 3 0 h0 h3 (by omega) ?_
  refine jr_arg x hX hbl hbA hL (n := 4) dL_144 dL_145 dL_146 dL_147 dL_148 (by decide) 3 0 h0 h3 (by omega) ?_
  refine jr_callC (av := [mI (xs (5 * j + 1)), mI (xs (5 * j + 2)), mI (xs (5 * j + 3)), mI (xs (5 * j + 4))]) (ad := ad) x M1 dL_149 (cwT x.2.2.2.2.1 wk_229 wk_230 wk_231 wk_1 kX6_load_in rfl rfl hX6_load (by decide)) hce (fun τ hC2 => ?_)
  refine jr_aload_n x dL_152 rfl 1 h2 ?_
  refine jr_arg x hX hbl hbA hL (n := 1) dL_153 dL_154 dL_155 dL_156 dL_157 (by decide) 3 0 h0 h3 (by omega) ?_
  refine jr_arg x hX hbl hbA hL (n := 2) dL_158 dL_159 dL_160 dL_161 dL_162 (by decide) 3 0 h0 h3 (by omega) ?_
  refine jr_arg x hX hbl hbA hL (n := 3) dL_163 dL_164 dL_165 dL_166 dL_167 (by decide) 3 0 h0 h3 (by omega) ?_
  refine jr_arg x hX hbl hbA hL (n := 4) dL_168 dL_169 dL_170 dL_171 dL_172 (by decide) 3 0 h0 h3 (by omega) ?_
  refine jr_callR (av := [mI (xs (5 * j + 1)), mI (xs (5 * j + 2)), mI (xs (5 * j + 3)), mI (xs (5 * j + 4))]) (ad2 := ad2) (u := v) x M2 dL_173 (cwT x.2.2.2.2.1 wk_600 wk_601 wk_602 wk_9 kX7_load_in rfl rfl hX7_load (by decide)) hce (fun υ ls2 hR2 hE2 => ?_)
  exact jr_icmp_eq (tgt := 618) x dL_176 rfl (fun _ => next τ υ y' ls2 hC2 hR2 hE2 hn) (fun hne => absurd rfl hne)
theorem wk_247 : (Jvm.Cond.methodLink "MailYardLaw" (18 : Nat) ({ cls := "MailYard", name := "spawn", desc := "(II)I" } : Jvm.MethodName)) ∈ wT := inT2 (i := 7) rfl rfl
theorem wk_248 : (Jvm.Cond.instanceMethod ({ cls := "MailYard", name := "spawn", desc := "(II)I" } : Jvm.MethodName)) ∈ wT := inT2 (i := 8) rfl rfl
theorem wk_249 : (Jvm.Cond.selects "MailYard" ({ cls := "MailYard", name := "spawn", desc := "(II)I" } : Jvm.MethodName) ({ cls := "MailYard", name := "spawn", desc := "(II)I" } : Jvm.MethodName)) ∈ wT := inT2 (i := 9) rfl rfl
theorem wk_607 : (Jvm.Cond.methodLink "MailYardLaw" (22 : Nat) ({ cls := "MailYardModel", name := "spawn", desc := "(II)I" } : Jvm.MethodName)) ∈ wT := inT3 (i := 127) rfl rfl
theorem wk_608 : (Jvm.Cond.instanceMethod ({ cls := "MailYardModel", name := "spawn", desc := "(II)I" } : Jvm.MethodName)) ∈ wT := inT3 (i := 128) rfl rfl
theorem wk_609 : (Jvm.Cond.selects "MailYardModel" ({ cls := "MailYardModel", name := "spawn", desc := "(II)I" } : Jvm.MethodName) ({ cls := "MailYardModel", name := "spawn", desc := "(II)I" } : Jvm.MethodName)) ∈ wT := inT3 (i := 129) rfl rfl
theorem law_spawn {p : Program} {l : Launch} {e : Env} {s : State} {m : MethodId} {args : Array Value} {below : List Frame} {meth : Method} {c : Code} {D : va_G} {cA : Nat → ClassId} {A : Nat → Prop} {Q : State → Prop} {b L : Nat} {xs : Nat → Int32} {ce sl : Nat} {ad ad2 : Nat → Nat → Nat} (x : Rx p s m args c code (kX6_init :: wT) "MailYardLaw" 4 D cA A) (hX : va_X b L xs s s.heap) (hbl : b < s.heap.size) (hbA : ¬ A b) (hL : L < 2 ^ 31) (hce : ce ≤ room_1.cells ∧ sl ≤ room_1.slots) {σ ρ : mS} {y : Yd} {ls : List (Int32 × Int32)} {j : Nat} (hC : RC σ y) (hR : RRw ρ y ls []) (hE : yE y = []) (a : LI y j) (hj : j ≤ 600) (hi : 5 * j + 5 ≤ L) {lv : List (Nat × Value)} (h0 : lv[3]? = some (0, .ref b)) (h1 : lv[2]? = some (1, .ref (ad 0 0))) (h2 : lv[1]? = some (2, .ref (ad2 20 0))) (h3 : lv[0]? = some (3, .int (nI (5 * j))))
    (next : ∀ (σ ρ : mS) (y : Yd) (ls : List (Int32 × Int32)), RC σ y → RRw ρ y ls [] → yE y = [] → LI y (j + 1) → Jr p l e room_1 s m args below meth c 4 D A Q (wl cA ad σ clC ++ wl cA ad2 ρ clR) ce sl 618 lv []) : Jr p l e room_1 s m args below meth c 4 D A Q (wl cA ad σ clC ++ wl cA ad2 ρ clR) ce sl 181 lv [] := by
  obtain ⟨v, y', M1, M2, hn⟩ := pr_spawn hC hR hE a hj (xs (5 * j + 1)) (xs (5 * j + 2))
  refine jr_aload_n x dL_181 rfl 2 h1 ?_
  refine jr_arg x hX hbl hbA hL (n := 1) dL_182 dL_183 dL_184 dL_185 dL_186 (by decide) 3 0 h0 h3 (by omega) ?_
  refine jr_arg x hX hbl hbA hL (n := 2) dL_187 dL_188 dL_189 dL_190 dL_191 (by decide) 3 0 h0 h3 (by omega) ?_
  refine jr_callC (av := [mI (xs (5 * j + 1)), mI (xs (5 * j + 2))]) (ad := ad) x M1 dL_192 (cwT x.2.2.2.2.1 wk_247 wk_248 wk_249 wk_1 kX6_spawn_in rfl rfl hX6_spawn (by decide)) hce (fun τ hC2 => ?_)
  refine jr_aload_n x dL_195 rfl 1 h2 ?_
  refine jr_arg x hX hbl hbA hL (n := 1) dL_196 dL_197 dL_198 dL_199 dL_200 (by decide) 3 0 h0 h3 (by omega) ?_
  refine jr_arg x hX hbl hbA hL (n := 2) dL_201 dL_202 dL_203 dL_204 dL_205 (by decide) 3 0 h0 h3 (by omega) ?_
  refine jr_callR (av := [mI (xs (5 * j + 1)), mI (xs (5 * j + 2))]) (ad2 := ad2) (u := v) x M2 dL_206 (cwT x.2.2.2.2.1 wk_607 wk_608 wk_609 wk_9 kX7_spawn_in rfl rfl hX7_spawn (by decide)) hce (fun υ ls2 hR2 hE2 => ?_)
  exact jr_icmp_eq (tgt := 618) x dL_209 rfl (fun _ => next τ υ y' ls2 hC2 hR2 hE2 hn) (fun hne => absurd rfl hne)
theorem wk_276 : (Jvm.Cond.methodLink "MailYardLaw" (23 : Nat) ({ cls := "MailYard", name := "inject", desc := "(II)I" } : Jvm.MethodName)) ∈ wT := inT2 (i := 36) rfl rfl
theorem wk_277 : (Jvm.Cond.instanceMethod ({ cls := "MailYard", name := "inject", desc := "(II)I" } : Jvm.MethodName)) ∈ wT := inT2 (i := 37) rfl rfl
theorem wk_278 : (Jvm.Cond.selects "MailYard" ({ cls := "MailYard", name := "inject", desc := "(II)I" } : Jvm.MethodName) ({ cls := "MailYard", name := "inject", desc := "(II)I" } : Jvm.MethodName)) ∈ wT := inT2 (i := 38) rfl rfl
theorem wk_619 : (Jvm.Cond.methodLink "MailYardLaw" (26 : Nat) ({ cls := "MailYardModel", name := "inject", desc := "(II)I" } : Jvm.MethodName)) ∈ wT := inT3 (i := 139) rfl rfl
theorem wk_620 : (Jvm.Cond.instanceMethod ({ cls := "MailYardModel", name := "inject", desc := "(II)I" } : Jvm.MethodName)) ∈ wT := inT3 (i := 140) rfl rfl
theorem wk_621 : (Jvm.Cond.selects "MailYardModel" ({ cls := "MailYardModel", name := "inject", desc := "(II)I" } : Jvm.MethodName) ({ cls := "MailYardModel", name := "inject", desc := "(II)I" } : Jvm.MethodName)) ∈ wT := inT3 (i := 141) rfl rfl
theorem law_inject {p : Program} {l : Launch} {e : Env} {s : State} {m : MethodId} {args : Array Value} {below : List Frame} {meth : Method} {c : Code} {D : va_G} {cA : Nat → ClassId} {A : Nat → Prop} {Q : State → Prop} {b L : Nat} {xs : Nat → Int32} {ce sl : Nat} {ad ad2 : Nat → Nat → Nat} (x : Rx p s m args c code (kX6_init :: wT) "MailYardLaw" 4 D cA A) (hX : va_X b L xs s s.heap) (hbl : b < s.heap.size) (hbA : ¬ A b) (hL : L < 2 ^ 31) (hce : ce ≤ room_1.cells ∧ sl ≤ room_1.slots) {σ ρ : mS} {y : Yd} {ls : List (Int32 × Int32)} {j : Nat} (hC : RC σ y) (hR : RRw ρ y ls []) (hE : yE y = []) (a : LI y j) (hj : j ≤ 600) (hi : 5 * j + 5 ≤ L) {lv : List (Nat × Value)} (h0 : lv[3]? = some (0, .ref b)) (h1 : lv[2]? = some (1, .ref (ad 0 0))) (h2 : lv[1]? = some (2, .ref (ad2 20 0))) (h3 : lv[0]? = some (3, .int (nI (5 * j))))
    (next : ∀ (σ ρ : mS) (y : Yd) (ls : List (Int32 × Int32)), RC σ y → RRw ρ y ls [] → yE y = [] → LI y (j + 1) → Jr p l e room_1 s m args below meth c 4 D A Q (wl cA ad σ clC ++ wl cA ad2 ρ clR) ce sl 618 lv []) : Jr p l e room_1 s m args below meth c 4 D A Q (wl cA ad σ clC ++ wl cA ad2 ρ clR) ce sl 214 lv [] := by
  obtain ⟨v, y', M1, M2, hn⟩ := pr_inject hC hR hE a (xs (5 * j + 1)) (xs (5 * j + 2))
  refine jr_aload_n x dL_214 rfl 2 h1 ?_
  refine jr_arg x hX hbl hbA hL (n := 1) dL_215 dL_216 dL_217 dL_218 dL_219 (by decide) 3 0 h0 h3 (by omega) ?_
  refine jr_arg x hX hbl hbA hL (n := 2) dL_220 dL_221 dL_222 dL_223 dL_224 (by decide) 3 0 h0 h3 (by omega) ?_
  refine jr_callC (av := [mI (xs (5 * j + 1)), mI (xs (5 * j + 2))]) (ad := ad) x M1 dL_225 (cwT x.2.2.2.2.1 wk_276 wk_277 wk_278 wk_1 kX6_inject_in rfl rfl hX6_inject (by decide)) hce (fun τ hC2 => ?_)
  refine jr_aload_n x dL_228 rfl 1 h2 ?_
  refine jr_arg x hX hbl hbA hL (n := 1) dL_229 dL_230 dL_231 dL_232 dL_233 (by decide) 3 0 h0 h3 (by omega) ?_
  refine jr_arg x hX hbl hbA hL (n := 2) dL_234 dL_235 dL_236 dL_237 dL_238 (by decide) 3 0 h0 h3 (by omega) ?_
  refine jr_callR (av := [mI (xs (5 * j + 1)), mI (xs (5 * j + 2))]) (ad2 := ad2) (u := v) x M2 dL_239 (cwT x.2.2.2.2.1 wk_619 wk_620 wk_621 wk_9 kX7_inject_in rfl rfl hX7_inject (by decide)) hce (fun υ ls2 hR2 hE2 => ?_)
  exact jr_icmp_eq (tgt := 618) x dL_242 rfl (fun _ => next τ υ y' ls2 hC2 hR2 hE2 hn) (fun hne => absurd rfl hne)
theorem wk_300 : (Jvm.Cond.methodLink "MailYardLaw" (27 : Nat) ({ cls := "MailYard", name := "step", desc := "()I" } : Jvm.MethodName)) ∈ wT := inT2 (i := 60) rfl rfl
theorem wk_301 : (Jvm.Cond.instanceMethod ({ cls := "MailYard", name := "step", desc := "()I" } : Jvm.MethodName)) ∈ wT := inT2 (i := 61) rfl rfl
theorem wk_302 : (Jvm.Cond.selects "MailYard" ({ cls := "MailYard", name := "step", desc := "()I" } : Jvm.MethodName) ({ cls := "MailYard", name := "step", desc := "()I" } : Jvm.MethodName)) ∈ wT := inT2 (i := 62) rfl rfl
theorem wk_647 : (Jvm.Cond.methodLink "MailYardLaw" (31 : Nat) ({ cls := "MailYardModel", name := "step", desc := "()I" } : Jvm.MethodName)) ∈ wT := inT3 (i := 167) rfl rfl
theorem wk_648 : (Jvm.Cond.instanceMethod ({ cls := "MailYardModel", name := "step", desc := "()I" } : Jvm.MethodName)) ∈ wT := inT3 (i := 168) rfl rfl
theorem wk_649 : (Jvm.Cond.selects "MailYardModel" ({ cls := "MailYardModel", name := "step", desc := "()I" } : Jvm.MethodName) ({ cls := "MailYardModel", name := "step", desc := "()I" } : Jvm.MethodName)) ∈ wT := inT3 (i := 169) rfl rfl
theorem law_step {p : Program} {l : Launch} {e : Env} {s : State} {m : MethodId} {args : Array Value} {below : List Frame} {meth : Method} {c : Code} {D : va_G} {cA : Nat → ClassId} {A : Nat → Prop} {Q : State → Prop} {b L : Nat} {xs : Nat → Int32} {ce sl : Nat} {ad ad2 : Nat → Nat → Nat} (x : Rx p s m args c code (kX6_init :: wT) "MailYardLaw" 4 D cA A) (hX : va_X b L xs s s.heap) (hbl : b < s.heap.size) (hbA : ¬ A b) (hL : L < 2 ^ 31) (hce : ce ≤ room_1.cells ∧ sl ≤ room_1.slots) {σ ρ : mS} {y : Yd} {ls : List (Int32 × Int32)} {j : Nat} (hC : RC σ y) (hR : RRw ρ y ls []) (hE : yE y = []) (a : LI y j) (hj : j ≤ 600) (hi : 5 * j + 5 ≤ L) {lv : List (Nat × Value)} (h0 : lv[3]? = some (0, .ref b)) (h1 : lv[2]? = some (1, .ref (ad 0 0))) (h2 : lv[1]? = some (2, .ref (ad2 20 0))) (h3 : lv[0]? = some (3, .int (nI (5 * j))))
    (next : ∀ (σ ρ : mS) (y : Yd) (ls : List (Int32 × Int32)), RC σ y → RRw ρ y ls [] → yE y = [] → LI y (j + 1) → Jr p l e room_1 s m args below meth c 4 D A Q (wl cA ad σ clC ++ wl cA ad2 ρ clR) ce sl 618 lv []) : Jr p l e room_1 s m args below meth c 4 D A Q (wl cA ad σ clC ++ wl cA ad2 ρ clR) ce sl 247 lv [] := by
  obtain ⟨v, y', M1, M2, hn⟩ := pr_step hC hR hE a hj
  refine jr_aload_n x dL_247 rfl 2 h1 ?_
  refine jr_callC (av := []) (ad := ad) x M1 dL_248 (cwT x.2.2.2.2.1 wk_300 wk_301 wk_302 wk_1 kX6_step_in rfl rfl hX6_step (by decide)) hce (fun τ hC2 => ?_)
  refine jr_aload_n x dL_251 rfl 1 h2 ?_
  refine jr_callR (av := []) (ad2 := ad2) (u := v) x M2 dL_252 (cwT x.2.2.2.2.1 wk_647 wk_648 wk_649 wk_9 kX7_step_in rfl rfl hX7_step (by decide)) hce (fun υ ls2 hR2 hE2 => ?_)
  exact jr_icmp_eq (tgt := 618) x dL_255 rfl (fun _ => next τ υ y' ls2 hC2 hR2 hE2 hn) (fun hne => absurd rfl hne)
theorem wk_405 : (Jvm.Cond.methodLink "MailYardLaw" (32 : Nat) ({ cls := "MailYard", name := "run", desc := "(I)I" } : Jvm.MethodName)) ∈ wT := inT2 (i := 165) rfl rfl
theorem wk_406 : (Jvm.Cond.instanceMethod ({ cls := "MailYard", name := "run", desc := "(I)I" } : Jvm.MethodName)) ∈ wT := inT2 (i := 166) rfl rfl
theorem wk_407 : (Jvm.Cond.selects "MailYard" ({ cls := "MailYard", name := "run", desc := "(I)I" } : Jvm.MethodName) ({ cls := "MailYard", name := "run", desc := "(I)I" } : Jvm.MethodName)) ∈ wT := inT2 (i := 167) rfl rfl
theorem wk_715 : (Jvm.Cond.methodLink "MailYardLaw" (36 : Nat) ({ cls := "MailYardModel", name := "run", desc := "(I)I" } : Jvm.MethodName)) ∈ wT := inT3 (i := 235) rfl rfl
theorem wk_716 : (Jvm.Cond.instanceMethod ({ cls := "MailYardModel", name := "run", desc := "(I)I" } : Jvm.MethodName)) ∈ wT := inT3 (i := 236) rfl rfl
theorem wk_717 : (Jvm.Cond.selects "MailYardModel" ({ cls := "MailYardModel", name := "run", desc := "(I)I" } : Jvm.MethodName) ({ cls := "MailYardModel", name := "run", desc := "(I)I" } : Jvm.MethodName)) ∈ wT := inT3 (i := 237) rfl rfl
theorem law_run {p : Program} {l : Launch} {e : Env} {s : State} {m : MethodId} {args : Array Value} {below : List Frame} {meth : Method} {c : Code} {D : va_G} {cA : Nat → ClassId} {A : Nat → Prop} {Q : State → Prop} {b L : Nat} {xs : Nat → Int32} {ce sl : Nat} {ad ad2 : Nat → Nat → Nat} (x : Rx p s m args c code (kX6_init :: wT) "MailYardLaw" 4 D cA A) (hX : va_X b L xs s s.heap) (hbl : b < s.heap.size) (hbA : ¬ A b) (hL : L < 2 ^ 31) (hce : ce ≤ room_1.cells ∧ sl ≤ room_1.slots) {σ ρ : mS} {y : Yd} {ls : List (Int32 × Int32)} {j : Nat} (hC : RC σ y) (hR : RRw ρ y ls []) (hE : yE y = []) (a : LI y j) (hj : j ≤ 600) (hi : 5 * j + 5 ≤ L) {lv : List (Nat × Value)} (h0 : lv[3]? = some (0, .ref b)) (h1 : lv[2]? = some (1, .ref (ad 0 0))) (h2 : lv[1]? = some (2, .ref (ad2 20 0))) (h3 : lv[0]? = some (3, .int (nI (5 * j))))
    (next : ∀ (σ ρ : mS) (y : Yd) (ls : List (Int32 × Int32)), RC σ y → RRw ρ y ls [] → yE y = [] → LI y (j + 1) → Jr p l e room_1 s m args below meth c 4 D A Q (wl cA ad σ clC ++ wl cA ad2 ρ clR) ce sl 618 lv []) : Jr p l e room_1 s m args below meth c 4 D A Q (wl cA ad σ clC ++ wl cA ad2 ρ clR) ce sl 260 lv [] := by
  obtain ⟨v, y', M1, M2, hn⟩ := pr_run hC hR hE a hj (xs (5 * j + 1))
  refine jr_aload_n x dL_260 rfl 2 h1 ?_
  refine jr_arg x hX hbl hbA hL (n := 1) dL_261 dL_262 dL_263 dL_264 dL_265 (by decide) 3 0 h0 h3 (by omega) ?_
  refine jr_callC (av := [mI (xs (5 * j + 1))]) (ad := ad) x M1 dL_266 (cwT x.2.2.2.2.1 wk_405 wk_406 wk_407 wk_1 kX6_run_in rfl rfl hX6_run (by decide)) hce (fun τ hC2 => ?_)
  refine jr_aload_n x dL_269 rfl 1 h2 ?_
  refine jr_arg x hX hbl hbA hL (n := 1) dL_270 dL_271 dL_272 dL_273 dL_274 (by decide) 3 0 h0 h3 (by omega) ?_
  refine jr_callR (av := [mI (xs (5 * j + 1))]) (ad2 := ad2) (u := v) x M2 dL_275 (cwT x.2.2.2.2.1 wk_715 wk_716 wk_717 wk_9 kX7_run_in rfl rfl hX7_run (by decide)) hce (fun υ ls2 hR2 hE2 => ?_)
  exact jr_icmp_eq (tgt := 618) x dL_278 rfl (fun _ => next τ υ y' ls2 hC2 hR2 hE2 hn) (fun hne => absurd rfl hne)
theorem wk_409 : (Jvm.Cond.methodLink "MailYardLaw" (37 : Nat) ({ cls := "MailYard", name := "tick", desc := "()I" } : Jvm.MethodName)) ∈ wT := inT2 (i := 169) rfl rfl
theorem wk_410 : (Jvm.Cond.instanceMethod ({ cls := "MailYard", name := "tick", desc := "()I" } : Jvm.MethodName)) ∈ wT := inT2 (i := 170) rfl rfl
theorem wk_411 : (Jvm.Cond.selects "MailYard" ({ cls := "MailYard", name := "tick", desc := "()I" } : Jvm.MethodName) ({ cls := "MailYard", name := "tick", desc := "()I" } : Jvm.MethodName)) ∈ wT := inT2 (i := 171) rfl rfl
theorem wk_720 : (Jvm.Cond.methodLink "MailYardLaw" (40 : Nat) ({ cls := "MailYardModel", name := "tick", desc := "()I" } : Jvm.MethodName)) ∈ wT := inT4 (i := 0) rfl rfl
theorem wk_721 : (Jvm.Cond.instanceMethod ({ cls := "MailYardModel", name := "tick", desc := "()I" } : Jvm.MethodName)) ∈ wT := inT4 (i := 1) rfl rfl
theorem wk_722 : (Jvm.Cond.selects "MailYardModel" ({ cls := "MailYardModel", name := "tick", desc := "()I" } : Jvm.MethodName) ({ cls := "MailYardModel", name := "tick", desc := "()I" } : Jvm.MethodName)) ∈ wT := inT4 (i := 2) rfl rfl
theorem law_tick {p : Program} {l : Launch} {e : Env} {s : State} {m : MethodId} {args : Array Value} {below : List Frame} {meth : Method} {c : Code} {D : va_G} {cA : Nat → ClassId} {A : Nat → Prop} {Q : State → Prop} {b L : Nat} {xs : Nat → Int32} {ce sl : Nat} {ad ad2 : Nat → Nat → Nat} (x : Rx p s m args c code (kX6_init :: wT) "MailYardLaw" 4 D cA A) (hX : va_X b L xs s s.heap) (hbl : b < s.heap.size) (hbA : ¬ A b) (hL : L < 2 ^ 31) (hce : ce ≤ room_1.cells ∧ sl ≤ room_1.slots) {σ ρ : mS} {y : Yd} {ls : List (Int32 × Int32)} {j : Nat} (hC : RC σ y) (hR : RRw ρ y ls []) (hE : yE y = []) (a : LI y j) (hj : j ≤ 600) (hi : 5 * j + 5 ≤ L) {lv : List (Nat × Value)} (h0 : lv[3]? = some (0, .ref b)) (h1 : lv[2]? = some (1, .ref (ad 0 0))) (h2 : lv[1]? = some (2, .ref (ad2 20 0))) (h3 : lv[0]? = some (3, .int (nI (5 * j))))
    (next : ∀ (σ ρ : mS) (y : Yd) (ls : List (Int32 × Int32)), RC σ y → RRw ρ y ls [] → yE y = [] → LI y (j + 1) → Jr p l e room_1 s m args below meth c 4 D A Q (wl cA ad σ clC ++ wl cA ad2 ρ clR) ce sl 618 lv []) : Jr p l e room_1 s m args below meth c 4 D A Q (wl cA ad σ clC ++ wl cA ad2 ρ clR) ce sl 283 lv [] := by
  obtain ⟨v, y', M1, M2, hn⟩ := pr_tick hC hR hE a hj
  refine jr_aload_n x dL_283 rfl 2 h1 ?_
  refine jr_callC (av := []) (ad := ad) x M1 dL_284 (cwT x.2.2.2.2.1 wk_409 wk_410 wk_411 wk_1 kX6_tick_in rfl rfl hX6_tick (by decide)) hce (fun τ hC2 => ?_)
  refine jr_aload_n x dL_287 rfl 1 h2 ?_
  refine jr_callR (av := []) (ad2 := ad2) (u := v) x M2 dL_288 (cwT x.2.2.2.2.1 wk_720 wk_721 wk_722 wk_9 kX7_tick_in rfl rfl hX7_tick (by decide)) hce (fun υ ls2 hR2 hE2 => ?_)
  exact jr_icmp_eq (tgt := 618) x dL_291 rfl (fun _ => next τ υ y' ls2 hC2 hR2 hE2 hn) (fun hne => absurd rfl hne)
theorem wk_421 : (Jvm.Cond.methodLink "MailYardLaw" (41 : Nat) ({ cls := "MailYard", name := "status", desc := "(I)I" } : Jvm.MethodName)) ∈ wT := inT2 (i := 181) rfl rfl
theorem wk_422 : (Jvm.Cond.instanceMethod ({ cls := "MailYard", name := "status", desc := "(I)I" } : Jvm.MethodName)) ∈ wT := inT2 (i := 182) rfl rfl
theorem wk_423 : (Jvm.Cond.selects "MailYard" ({ cls := "MailYard", name := "status", desc := "(I)I" } : Jvm.MethodName) ({ cls := "MailYard", name := "status", desc := "(I)I" } : Jvm.MethodName)) ∈ wT := inT2 (i := 183) rfl rfl
theorem wk_728 : (Jvm.Cond.methodLink "MailYardLaw" (44 : Nat) ({ cls := "MailYardModel", name := "status", desc := "(I)I" } : Jvm.MethodName)) ∈ wT := inT4 (i := 8) rfl rfl
theorem wk_729 : (Jvm.Cond.instanceMethod ({ cls := "MailYardModel", name := "status", desc := "(I)I" } : Jvm.MethodName)) ∈ wT := inT4 (i := 9) rfl rfl
theorem wk_730 : (Jvm.Cond.selects "MailYardModel" ({ cls := "MailYardModel", name := "status", desc := "(I)I" } : Jvm.MethodName) ({ cls := "MailYardModel", name := "status", desc := "(I)I" } : Jvm.MethodName)) ∈ wT := inT4 (i := 10) rfl rfl
theorem law_status {p : Program} {l : Launch} {e : Env} {s : State} {m : MethodId} {args : Array Value} {below : List Frame} {meth : Method} {c : Code} {D : va_G} {cA : Nat → ClassId} {A : Nat → Prop} {Q : State → Prop} {b L : Nat} {xs : Nat → Int32} {ce sl : Nat} {ad ad2 : Nat → Nat → Nat} (x : Rx p s m args c code (kX6_init :: wT) "MailYardLaw" 4 D cA A) (hX : va_X b L xs s s.heap) (hbl : b < s.heap.size) (hbA : ¬ A b) (hL : L < 2 ^ 31) (hce : ce ≤ room_1.cells ∧ sl ≤ room_1.slots) {σ ρ : mS} {y : Yd} {ls : List (Int32 × Int32)} {j : Nat} (hC : RC σ y) (hR : RRw ρ y ls []) (hE : yE y = []) (a : LI y j) (hj : j ≤ 600) (hi : 5 * j + 5 ≤ L) {lv : List (Nat × Value)} (h0 : lv[3]? = some (0, .ref b)) (h1 : lv[2]? = some (1, .ref (ad 0 0))) (h2 : lv[1]? = some (2, .ref (ad2 20 0))) (h3 : lv[0]? = some (3, .int (nI (5 * j))))
    (next : ∀ (σ ρ : mS) (y : Yd) (ls : List (Int32 × Int32)), RC σ y → RRw ρ y ls [] → yE y = [] → LI y (j + 1) → Jr p l e room_1 s m args below meth c 4 D A Q (wl cA ad σ clC ++ wl cA ad2 ρ clR) ce sl 618 lv []) : Jr p l e room_1 s m args below meth c 4 D A Q (wl cA ad σ clC ++ wl cA ad2 ρ clR) ce sl 296 lv [] := by
  obtain ⟨v, y', M1, M2, hn⟩ := pr_status hC hR hE a (xs (5 * j + 1))
  refine jr_aload_n x dL_296 rfl 2 h1 ?_
  refine jr_arg x hX hbl hbA hL (n := 1) dL_297 dL_298 dL_299 dL_300 dL_301 (by decide) 3 0 h0 h3 (by omega) ?_
  refine jr_callC (av := [mI (xs (5 * j + 1))]) (ad := ad) x M1 dL_302 (cwT x.2.2.2.2.1 wk_421 wk_422 wk_423 wk_1 kX6_status_in rfl rfl hX6_status (by decide)) hce (fun τ hC2 => ?_)
  refine jr_aload_n x dL_305 rfl 1 h2 ?_
  refine jr_arg x hX hbl hbA hL (n := 1) dL_306 dL_307 dL_308 dL_309 dL_310 (by decide) 3 0 h0 h3 (by omega) ?_
  refine jr_callR (av := [mI (xs (5 * j + 1))]) (ad2 := ad2) (u := v) x M2 dL_311 (cwT x.2.2.2.2.1 wk_728 wk_729 wk_730 wk_9 kX7_status_in rfl rfl hX7_status (by decide)) hce (fun υ ls2 hR2 hE2 => ?_)
  exact jr_icmp_eq (tgt := 618) x dL_314 rfl (fun _ => next τ υ y' ls2 hC2 hR2 hE2 hn) (fun hne => absurd rfl hne)
theorem wk_425 : (Jvm.Cond.methodLink "MailYardLaw" (45 : Nat) ({ cls := "MailYard", name := "register", desc := "(II)I" } : Jvm.MethodName)) ∈ wT := inT2 (i := 185) rfl rfl
theorem wk_426 : (Jvm.Cond.instanceMethod ({ cls := "MailYard", name := "register", desc := "(II)I" } : Jvm.MethodName)) ∈ wT := inT2 (i := 186) rfl rfl
theorem wk_427 : (Jvm.Cond.selects "MailYard" ({ cls := "MailYard", name := "register", desc := "(II)I" } : Jvm.MethodName) ({ cls := "MailYard", name := "register", desc := "(II)I" } : Jvm.MethodName)) ∈ wT := inT2 (i := 187) rfl rfl
theorem wk_732 : (Jvm.Cond.methodLink "MailYardLaw" (48 : Nat) ({ cls := "MailYardModel", name := "register", desc := "(II)I" } : Jvm.MethodName)) ∈ wT := inT4 (i := 12) rfl rfl
theorem wk_733 : (Jvm.Cond.instanceMethod ({ cls := "MailYardModel", name := "register", desc := "(II)I" } : Jvm.MethodName)) ∈ wT := inT4 (i := 13) rfl rfl
theorem wk_734 : (Jvm.Cond.selects "MailYardModel" ({ cls := "MailYardModel", name := "register", desc := "(II)I" } : Jvm.MethodName) ({ cls := "MailYardModel", name := "register", desc := "(II)I" } : Jvm.MethodName)) ∈ wT := inT4 (i := 14) rfl rfl
theorem law_register {p : Program} {l : Launch} {e : Env} {s : State} {m : MethodId} {args : Array Value} {below : List Frame} {meth : Method} {c : Code} {D : va_G} {cA : Nat → ClassId} {A : Nat → Prop} {Q : State → Prop} {b L : Nat} {xs : Nat → Int32} {ce sl : Nat} {ad ad2 : Nat → Nat → Nat} (x : Rx p s m args c code (kX6_init :: wT) "MailYardLaw" 4 D cA A) (hX : va_X b L xs s s.heap) (hbl : b < s.heap.size) (hbA : ¬ A b) (hL : L < 2 ^ 31) (hce : ce ≤ room_1.cells ∧ sl ≤ room_1.slots) {σ ρ : mS} {y : Yd} {ls : List (Int32 × Int32)} {j : Nat} (hC : RC σ y) (hR : RRw ρ y ls []) (hE : yE y = []) (a : LI y j) (hj : j ≤ 600) (hi : 5 * j + 5 ≤ L) {lv : List (Nat × Value)} (h0 : lv[3]? = some (0, .ref b)) (h1 : lv[2]? = some (1, .ref (ad 0 0))) (h2 : lv[1]? = some (2, .ref (ad2 20 0))) (h3 : lv[0]? = some (3, .int (nI (5 * j))))
    (next : ∀ (σ ρ : mS) (y : Yd) (ls : List (Int32 × Int32)), RC σ y → RRw ρ y ls [] → yE y = [] → LI y (j + 1) → Jr p l e room_1 s m args below meth c 4 D A Q (wl cA ad σ clC ++ wl cA ad2 ρ clR) ce sl 618 lv []) : Jr p l e room_1 s m args below meth c 4 D A Q (wl cA ad σ clC ++ wl cA ad2 ρ clR) ce sl 319 lv [] := by
  obtain ⟨v, y', M1, M2, hn⟩ := pr_register hC hR hE a (xs (5 * j + 1)) (xs (5 * j + 2))
  refine jr_aload_n x dL_319 rfl 2 h1 ?_
  refine jr_arg x hX hbl hbA hL (n := 1) dL_320 dL_321 dL_322 dL_323 dL_324 (by decide) 3 0 h0 h3 (by omega) ?_
  refine jr_arg x hX hbl hbA hL (n := 2) dL_325 dL_326 dL_327 dL_328 dL_329 (by decide) 3 0 h0 h3 (by omega) ?_
  refine jr_callC (av := [mI (xs (5 * j + 1)), mI (xs (5 * j + 2))]) (ad := ad) x M1 dL_330 (cwT x.2.2.2.2.1 wk_425 wk_426 wk_427 wk_1 kX6_register_in rfl rfl hX6_register (by decide)) hce (fun τ hC2 => ?_)
  refine jr_aload_n x dL_333 rfl 1 h2 ?_
  refine jr_arg x hX hbl hbA hL (n := 1) dL_334 dL_335 dL_336 dL_337 dL_338 (by decide) 3 0 h0 h3 (by omega) ?_
  refine jr_arg x hX hbl hbA hL (n := 2) dL_339 dL_340 dL_341 dL_342 dL_343 (by decide) 3 0 h0 h3 (by omega) ?_
  refine jr_callR (av := [mI (xs (5 * j + 1)), mI (xs (5 * j + 2))]) (ad2 := ad2) (u := v) x M2 dL_344 (cwT x.2.2.2.2.1 wk_732 wk_733 wk_734 wk_9 kX7_register_in rfl rfl hX7_register (by decide)) hce (fun υ ls2 hR2 hE2 => ?_)
  exact jr_icmp_eq (tgt := 618) x dL_347 rfl (fun _ => next τ υ y' ls2 hC2 hR2 hE2 hn) (fun hne => absurd rfl hne)
theorem wk_430 : (Jvm.Cond.methodLink "MailYardLaw" (49 : Nat) ({ cls := "MailYard", name := "place", desc := "(I)I" } : Jvm.MethodName)) ∈ wT := inT2 (i := 190) rfl rfl
theorem wk_431 : (Jvm.Cond.instanceMethod ({ cls := "MailYard", name := "place", desc := "(I)I" } : Jvm.MethodName)) ∈ wT := inT2 (i := 191) rfl rfl
theorem wk_432 : (Jvm.Cond.selects "MailYard" ({ cls := "MailYard", name := "place", desc := "(I)I" } : Jvm.MethodName) ({ cls := "MailYard", name := "place", desc := "(I)I" } : Jvm.MethodName)) ∈ wT := inT2 (i := 192) rfl rfl
theorem wk_736 : (Jvm.Cond.methodLink "MailYardLaw" (52 : Nat) ({ cls := "MailYardModel", name := "place", desc := "(I)I" } : Jvm.MethodName)) ∈ wT := inT4 (i := 16) rfl rfl
theorem wk_737 : (Jvm.Cond.instanceMethod ({ cls := "MailYardModel", name := "place", desc := "(I)I" } : Jvm.MethodName)) ∈ wT := inT4 (i := 17) rfl rfl
theorem wk_738 : (Jvm.Cond.selects "MailYardModel" ({ cls := "MailYardModel", name := "place", desc := "(I)I" } : Jvm.MethodName) ({ cls := "MailYardModel", name := "place", desc := "(I)I" } : Jvm.MethodName)) ∈ wT := inT4 (i := 18) rfl rfl
theorem law_place {p : Program} {l : Launch} {e : Env} {s : State} {m : MethodId} {args : Array Value} {below : List Frame} {meth : Method} {c : Code} {D : va_G} {cA : Nat → ClassId} {A : Nat → Prop} {Q : State → Prop} {b L : Nat} {xs : Nat → Int32} {ce sl : Nat} {ad ad2 : Nat → Nat → Nat} (x : Rx p s m args c code (kX6_init :: wT) "MailYardLaw" 4 D cA A) (hX : va_X b L xs s s.heap) (hbl : b < s.heap.size) (hbA : ¬ A b) (hL : L < 2 ^ 31) (hce : ce ≤ room_1.cells ∧ sl ≤ room_1.slots) {σ ρ : mS} {y : Yd} {ls : List (Int32 × Int32)} {j : Nat} (hC : RC σ y) (hR : RRw ρ y ls []) (hE : yE y = []) (a : LI y j) (hj : j ≤ 600) (hi : 5 * j + 5 ≤ L) {lv : List (Nat × Value)} (h0 : lv[3]? = some (0, .ref b)) (h1 : lv[2]? = some (1, .ref (ad 0 0))) (h2 : lv[1]? = some (2, .ref (ad2 20 0))) (h3 : lv[0]? = some (3, .int (nI (5 * j))))
    (next : ∀ (σ ρ : mS) (y : Yd) (ls : List (Int32 × Int32)), RC σ y → RRw ρ y ls [] → yE y = [] → LI y (j + 1) → Jr p l e room_1 s m args below meth c 4 D A Q (wl cA ad σ clC ++ wl cA ad2 ρ clR) ce sl 618 lv []) : Jr p l e room_1 s m args below meth c 4 D A Q (wl cA ad σ clC ++ wl cA ad2 ρ clR) ce sl 352 lv [] := by
  obtain ⟨v, y', M1, M2, hn⟩ := pr_place hC hR hE a (xs (5 * j + 1))
  refine jr_aload_n x dL_352 rfl 2 h1 ?_
  refine jr_arg x hX hbl hbA hL (n := 1) dL_353 dL_354 dL_355 dL_356 dL_357 (by decide) 3 0 h0 h3 (by omega) ?_
  refine jr_callC (av := [mI (xs (5 * j + 1))]) (ad := ad) x M1 dL_358 (cwT x.2.2.2.2.1 wk_430 wk_431 wk_432 wk_1 kX6_place_in rfl rfl hX6_place (by decide)) hce (fun τ hC2 => ?_)
  refine jr_aload_n x dL_361 rfl 1 h2 ?_
  refine jr_arg x hX hbl hbA hL (n := 1) dL_362 dL_363 dL_364 dL_365 dL_366 (by decide) 3 0 h0 h3 (by omega) ?_
  refine jr_callR (av := [mI (xs (5 * j + 1))]) (ad2 := ad2) (u := v) x M2 dL_367 (cwT x.2.2.2.2.1 wk_736 wk_737 wk_738 wk_9 kX7_place_in rfl rfl hX7_place (by decide)) hce (fun υ ls2 hR2 hE2 => ?_)
  exact jr_icmp_eq (tgt := 618) x dL_370 rfl (fun _ => next τ υ y' ls2 hC2 hR2 hE2 hn) (fun hne => absurd rfl hne)
theorem wk_434 : (Jvm.Cond.methodLink "MailYardLaw" (53 : Nat) ({ cls := "MailYard", name := "mail", desc := "(I)I" } : Jvm.MethodName)) ∈ wT := inT2 (i := 194) rfl rfl
theorem wk_435 : (Jvm.Cond.instanceMethod ({ cls := "MailYard", name := "mail", desc := "(I)I" } : Jvm.MethodName)) ∈ wT := inT2 (i := 195) rfl rfl
theorem wk_436 : (Jvm.Cond.selects "MailYard" ({ cls := "MailYard", name := "mail", desc := "(I)I" } : Jvm.MethodName) ({ cls := "MailYard", name := "mail", desc := "(I)I" } : Jvm.MethodName)) ∈ wT := inT2 (i := 196) rfl rfl
theorem wk_740 : (Jvm.Cond.methodLink "MailYardLaw" (56 : Nat) ({ cls := "MailYardModel", name := "mail", desc := "(I)I" } : Jvm.MethodName)) ∈ wT := inT4 (i := 20) rfl rfl
theorem wk_741 : (Jvm.Cond.instanceMethod ({ cls := "MailYardModel", name := "mail", desc := "(I)I" } : Jvm.MethodName)) ∈ wT := inT4 (i := 21) rfl rfl
theorem wk_742 : (Jvm.Cond.selects "MailYardModel" ({ cls := "MailYardModel", name := "mail", desc := "(I)I" } : Jvm.MethodName) ({ cls := "MailYardModel", name := "mail", desc := "(I)I" } : Jvm.MethodName)) ∈ wT := inT4 (i := 22) rfl rfl
theorem law_mail {p : Program} {l : Launch} {e : Env} {s : State} {m : MethodId} {args : Array Value} {below : List Frame} {meth : Method} {c : Code} {D : va_G} {cA : Nat → ClassId} {A : Nat → Prop} {Q : State → Prop} {b L : Nat} {xs : Nat → Int32} {ce sl : Nat} {ad ad2 : Nat → Nat → Nat} (x : Rx p s m args c code (kX6_init :: wT) "MailYardLaw" 4 D cA A) (hX : va_X b L xs s s.heap) (hbl : b < s.heap.size) (hbA : ¬ A b) (hL : L < 2 ^ 31) (hce : ce ≤ room_1.cells ∧ sl ≤ room_1.slots) {σ ρ : mS} {y : Yd} {ls : List (Int32 × Int32)} {j : Nat} (hC : RC σ y) (hR : RRw ρ y ls []) (hE : yE y = []) (a : LI y j) (hj : j ≤ 600) (hi : 5 * j + 5 ≤ L) {lv : List (Nat × Value)} (h0 : lv[3]? = some (0, .ref b)) (h1 : lv[2]? = some (1, .ref (ad 0 0))) (h2 : lv[1]? = some (2, .ref (ad2 20 0))) (h3 : lv[0]? = some (3, .int (nI (5 * j))))
    (next : ∀ (σ ρ : mS) (y : Yd) (ls : List (Int32 × Int32)), RC σ y → RRw ρ y ls [] → yE y = [] → LI y (j + 1) → Jr p l e room_1 s m args below meth c 4 D A Q (wl cA ad σ clC ++ wl cA ad2 ρ clR) ce sl 618 lv []) : Jr p l e room_1 s m args below meth c 4 D A Q (wl cA ad σ clC ++ wl cA ad2 ρ clR) ce sl 375 lv [] := by
  obtain ⟨v, y', M1, M2, hn⟩ := pr_mail hC hR hE a (xs (5 * j + 1))
  refine jr_aload_n x dL_375 rfl 2 h1 ?_
  refine jr_arg x hX hbl hbA hL (n := 1) dL_376 dL_377 dL_378 dL_379 dL_380 (by decide) 3 0 h0 h3 (by omega) ?_
  refine jr_callC (av := [mI (xs (5 * j + 1))]) (ad := ad) x M1 dL_381 (cwT x.2.2.2.2.1 wk_434 wk_435 wk_436 wk_1 kX6_mail_in rfl rfl hX6_mail (by decide)) hce (fun τ hC2 => ?_)
  refine jr_aload_n x dL_384 rfl 1 h2 ?_
  refine jr_arg x hX hbl hbA hL (n := 1) dL_385 dL_386 dL_387 dL_388 dL_389 (by decide) 3 0 h0 h3 (by omega) ?_
  refine jr_callR (av := [mI (xs (5 * j + 1))]) (ad2 := ad2) (u := v) x M2 dL_390 (cwT x.2.2.2.2.1 wk_740 wk_741 wk_742 wk_9 kX7_mail_in rfl rfl hX7_mail (by decide)) hce (fun υ ls2 hR2 hE2 => ?_)
  exact jr_icmp_eq (tgt := 618) x dL_393 rfl (fun _ => next τ υ y' ls2 hC2 hR2 hE2 hn) (fun hne => absurd rfl hne)
theorem wk_438 : (Jvm.Cond.methodLink "MailYardLaw" (57 : Nat) ({ cls := "MailYard", name := "message", desc := "(II)I" } : Jvm.MethodName)) ∈ wT := inT2 (i := 198) rfl rfl
theorem wk_439 : (Jvm.Cond.instanceMethod ({ cls := "MailYard", name := "message", desc := "(II)I" } : Jvm.MethodName)) ∈ wT := inT2 (i := 199) rfl rfl
theorem wk_440 : (Jvm.Cond.selects "MailYard" ({ cls := "MailYard", name := "message", desc := "(II)I" } : Jvm.MethodName) ({ cls := "MailYard", name := "message", desc := "(II)I" } : Jvm.MethodName)) ∈ wT := inT2 (i := 200) rfl rfl
theorem wk_744 : (Jvm.Cond.methodLink "MailYardLaw" (60 : Nat) ({ cls := "MailYardModel", name := "message", desc := "(II)I" } : Jvm.MethodName)) ∈ wT := inT4 (i := 24) rfl rfl
theorem wk_745 : (Jvm.Cond.instanceMethod ({ cls := "MailYardModel", name := "message", desc := "(II)I" } : Jvm.MethodName)) ∈ wT := inT4 (i := 25) rfl rfl
theorem wk_746 : (Jvm.Cond.selects "MailYardModel" ({ cls := "MailYardModel", name := "message", desc := "(II)I" } : Jvm.MethodName) ({ cls := "MailYardModel", name := "message", desc := "(II)I" } : Jvm.MethodName)) ∈ wT := inT4 (i := 26) rfl rfl
theorem law_message {p : Program} {l : Launch} {e : Env} {s : State} {m : MethodId} {args : Array Value} {below : List Frame} {meth : Method} {c : Code} {D : va_G} {cA : Nat → ClassId} {A : Nat → Prop} {Q : State → Prop} {b L : Nat} {xs : Nat → Int32} {ce sl : Nat} {ad ad2 : Nat → Nat → Nat} (x : Rx p s m args c code (kX6_init :: wT) "MailYardLaw" 4 D cA A) (hX : va_X b L xs s s.heap) (hbl : b < s.heap.size) (hbA : ¬ A b) (hL : L < 2 ^ 31) (hce : ce ≤ room_1.cells ∧ sl ≤ room_1.slots) {σ ρ : mS} {y : Yd} {ls : List (Int32 × Int32)} {j : Nat} (hC : RC σ y) (hR : RRw ρ y ls []) (hE : yE y = []) (a : LI y j) (hj : j ≤ 600) (hi : 5 * j + 5 ≤ L) {lv : List (Nat × Value)} (h0 : lv[3]? = some (0, .ref b)) (h1 : lv[2]? = some (1, .ref (ad 0 0))) (h2 : lv[1]? = some (2, .ref (ad2 20 0))) (h3 : lv[0]? = some (3, .int (nI (5 * j))))
    (next : ∀ (σ ρ : mS) (y : Yd) (ls : List (Int32 × Int32)), RC σ y → RRw ρ y ls [] → yE y = [] → LI y (j + 1) → Jr p l e room_1 s m args below meth c 4 D A Q (wl cA ad σ clC ++ wl cA ad2 ρ clR) ce sl 618 lv []) : Jr p l e room_1 s m args below meth c 4 D A Q (wl cA ad σ clC ++ wl cA ad2 ρ clR) ce sl 398 lv [] := by
  obtain ⟨v, y', M1, M2, hn⟩ := pr_message hC hR hE a (xs (5 * j + 1)) (xs (5 * j + 2))
  refine jr_aload_n x dL_398 rfl 2 h1 ?_
  refine jr_arg x hX hbl hbA hL (n := 1) dL_399 dL_400 dL_401 dL_402 dL_403 (by decide) 3 0 h0 h3 (by omega) ?_
  refine jr_arg x hX hbl hbA hL (n := 2) dL_404 dL_405 dL_406 dL_407 dL_408 (by decide) 3 0 h0 h3 (by omega) ?_
  refine jr_callC (av := [mI (xs (5 * j + 1)), mI (xs (5 * j + 2))]) (ad := ad) x M1 dL_409 (cwT x.2.2.2.2.1 wk_438 wk_439 wk_440 wk_1 kX6_message_in rfl rfl hX6_message (by decide)) hce (fun τ hC2 => ?_)
  refine jr_aload_n x dL_412 rfl 1 h2 ?_
  refine jr_arg x hX hbl hbA hL (n := 1) dL_413 dL_414 dL_415 dL_416 dL_417 (by decide) 3 0 h0 h3 (by omega) ?_
  refine jr_arg x hX hbl hbA hL (n := 2) dL_418 dL_419 dL_420 dL_421 dL_422 (by decide) 3 0 h0 h3 (by omega) ?_
  refine jr_callR (av := [mI (xs (5 * j + 1)), mI (xs (5 * j + 2))]) (ad2 := ad2) (u := v) x M2 dL_423 (cwT x.2.2.2.2.1 wk_744 wk_745 wk_746 wk_9 kX7_message_in rfl rfl hX7_message (by decide)) hce (fun υ ls2 hR2 hE2 => ?_)
  exact jr_icmp_eq (tgt := 618) x dL_426 rfl (fun _ => next τ υ y' ls2 hC2 hR2 hE2 hn) (fun hne => absurd rfl hne)
theorem wk_442 : (Jvm.Cond.methodLink "MailYardLaw" (61 : Nat) ({ cls := "MailYard", name := "linked", desc := "(II)Z" } : Jvm.MethodName)) ∈ wT := inT2 (i := 202) rfl rfl
theorem wk_443 : (Jvm.Cond.instanceMethod ({ cls := "MailYard", name := "linked", desc := "(II)Z" } : Jvm.MethodName)) ∈ wT := inT2 (i := 203) rfl rfl
theorem wk_444 : (Jvm.Cond.selects "MailYard" ({ cls := "MailYard", name := "linked", desc := "(II)Z" } : Jvm.MethodName) ({ cls := "MailYard", name := "linked", desc := "(II)Z" } : Jvm.MethodName)) ∈ wT := inT2 (i := 204) rfl rfl
theorem wk_748 : (Jvm.Cond.methodLink "MailYardLaw" (65 : Nat) ({ cls := "MailYardModel", name := "linked", desc := "(II)Z" } : Jvm.MethodName)) ∈ wT := inT4 (i := 28) rfl rfl
theorem wk_749 : (Jvm.Cond.instanceMethod ({ cls := "MailYardModel", name := "linked", desc := "(II)Z" } : Jvm.MethodName)) ∈ wT := inT4 (i := 29) rfl rfl
theorem wk_750 : (Jvm.Cond.selects "MailYardModel" ({ cls := "MailYardModel", name := "linked", desc := "(II)Z" } : Jvm.MethodName) ({ cls := "MailYardModel", name := "linked", desc := "(II)Z" } : Jvm.MethodName)) ∈ wT := inT4 (i := 30) rfl rfl
theorem law_linked {p : Program} {l : Launch} {e : Env} {s : State} {m : MethodId} {args : Array Value} {below : List Frame} {meth : Method} {c : Code} {D : va_G} {cA : Nat → ClassId} {A : Nat → Prop} {Q : State → Prop} {b L : Nat} {xs : Nat → Int32} {ce sl : Nat} {ad ad2 : Nat → Nat → Nat} (x : Rx p s m args c code (kX6_init :: wT) "MailYardLaw" 4 D cA A) (hX : va_X b L xs s s.heap) (hbl : b < s.heap.size) (hbA : ¬ A b) (hL : L < 2 ^ 31) (hce : ce ≤ room_1.cells ∧ sl ≤ room_1.slots) {σ ρ : mS} {y : Yd} {ls : List (Int32 × Int32)} {j : Nat} (hC : RC σ y) (hR : RRw ρ y ls []) (hE : yE y = []) (a : LI y j) (hj : j ≤ 600) (hi : 5 * j + 5 ≤ L) {lv : List (Nat × Value)} (h0 : lv[3]? = some (0, .ref b)) (h1 : lv[2]? = some (1, .ref (ad 0 0))) (h2 : lv[1]? = some (2, .ref (ad2 20 0))) (h3 : lv[0]? = some (3, .int (nI (5 * j))))
    (next : ∀ (σ ρ : mS) (y : Yd) (ls : List (Int32 × Int32)), RC σ y → RRw ρ y ls [] → yE y = [] → LI y (j + 1) → Jr p l e room_1 s m args below meth c 4 D A Q (wl cA ad σ clC ++ wl cA ad2 ρ clR) ce sl 618 lv []) : Jr p l e room_1 s m args below meth c 4 D A Q (wl cA ad σ clC ++ wl cA ad2 ρ clR) ce sl 431 lv [] := by
  obtain ⟨v, y', M1, M2, hn⟩ := pr_linked hC hR hE a (xs (5 * j + 1)) (xs (5 * j + 2))
  refine jr_aload_n x dL_431 rfl 2 h1 ?_
  refine jr_arg x hX hbl hbA hL (n := 1) dL_432 dL_433 dL_434 dL_435 dL_436 (by decide) 3 0 h0 h3 (by omega) ?_
  refine jr_arg x hX hbl hbA hL (n := 2) dL_437 dL_438 dL_439 dL_440 dL_441 (by decide) 3 0 h0 h3 (by omega) ?_
  refine jr_callC (av := [mI (xs (5 * j + 1)), mI (xs (5 * j + 2))]) (ad := ad) x M1 dL_442 (cwT x.2.2.2.2.1 wk_442 wk_443 wk_444 wk_1 kX6_linked_in rfl rfl hX6_linked (by decide)) hce (fun τ hC2 => ?_)
  refine jr_aload_n x dL_445 rfl 1 h2 ?_
  refine jr_arg x hX hbl hbA hL (n := 1) dL_446 dL_447 dL_448 dL_449 dL_450 (by decide) 3 0 h0 h3 (by omega) ?_
  refine jr_arg x hX hbl hbA hL (n := 2) dL_451 dL_452 dL_453 dL_454 dL_455 (by decide) 3 0 h0 h3 (by omega) ?_
  refine jr_callR (av := [mI (xs (5 * j + 1)), mI (xs (5 * j + 2))]) (ad2 := ad2) (u := v) x M2 dL_456 (cwT x.2.2.2.2.1 wk_748 wk_749 wk_750 wk_9 kX7_linked_in rfl rfl hX7_linked (by decide)) hce (fun υ ls2 hR2 hE2 => ?_)
  exact jr_icmp_eq (tgt := 618) x dL_459 rfl (fun _ => next τ υ y' ls2 hC2 hR2 hE2 hn) (fun hne => absurd rfl hne)
theorem wk_446 : (Jvm.Cond.methodLink "MailYardLaw" (66 : Nat) ({ cls := "MailYard", name := "supervisor", desc := "(I)I" } : Jvm.MethodName)) ∈ wT := inT2 (i := 206) rfl rfl
theorem wk_447 : (Jvm.Cond.instanceMethod ({ cls := "MailYard", name := "supervisor", desc := "(I)I" } : Jvm.MethodName)) ∈ wT := inT2 (i := 207) rfl rfl
theorem wk_448 : (Jvm.Cond.selects "MailYard" ({ cls := "MailYard", name := "supervisor", desc := "(I)I" } : Jvm.MethodName) ({ cls := "MailYard", name := "supervisor", desc := "(I)I" } : Jvm.MethodName)) ∈ wT := inT2 (i := 208) rfl rfl
theorem wk_752 : (Jvm.Cond.methodLink "MailYardLaw" (69 : Nat) ({ cls := "MailYardModel", name := "supervisor", desc := "(I)I" } : Jvm.MethodName)) ∈ wT := inT4 (i := 32) rfl rfl
theorem wk_753 : (Jvm.Cond.instanceMethod ({ cls := "MailYardModel", name := "supervisor", desc := "(I)I" } : Jvm.MethodName)) ∈ wT := inT4 (i := 33) rfl rfl
theorem wk_754 : (Jvm.Cond.selects "MailYardModel" ({ cls := "MailYardModel", name := "supervisor", desc := "(I)I" } : Jvm.MethodName) ({ cls := "MailYardModel", name := "supervisor", desc := "(I)I" } : Jvm.MethodName)) ∈ wT := inT4 (i := 34) rfl rfl
theorem law_supervisor {p : Program} {l : Launch} {e : Env} {s : State} {m : MethodId} {args : Array Value} {below : List Frame} {meth : Method} {c : Code} {D : va_G} {cA : Nat → ClassId} {A : Nat → Prop} {Q : State → Prop} {b L : Nat} {xs : Nat → Int32} {ce sl : Nat} {ad ad2 : Nat → Nat → Nat} (x : Rx p s m args c code (kX6_init :: wT) "MailYardLaw" 4 D cA A) (hX : va_X b L xs s s.heap) (hbl : b < s.heap.size) (hbA : ¬ A b) (hL : L < 2 ^ 31) (hce : ce ≤ room_1.cells ∧ sl ≤ room_1.slots) {σ ρ : mS} {y : Yd} {ls : List (Int32 × Int32)} {j : Nat} (hC : RC σ y) (hR : RRw ρ y ls []) (hE : yE y = []) (a : LI y j) (hj : j ≤ 600) (hi : 5 * j + 5 ≤ L) {lv : List (Nat × Value)} (h0 : lv[3]? = some (0, .ref b)) (h1 : lv[2]? = some (1, .ref (ad 0 0))) (h2 : lv[1]? = some (2, .ref (ad2 20 0))) (h3 : lv[0]? = some (3, .int (nI (5 * j))))
    (next : ∀ (σ ρ : mS) (y : Yd) (ls : List (Int32 × Int32)), RC σ y → RRw ρ y ls [] → yE y = [] → LI y (j + 1) → Jr p l e room_1 s m args below meth c 4 D A Q (wl cA ad σ clC ++ wl cA ad2 ρ clR) ce sl 618 lv []) : Jr p l e room_1 s m args below meth c 4 D A Q (wl cA ad σ clC ++ wl cA ad2 ρ clR) ce sl 464 lv [] := by
  obtain ⟨v, y', M1, M2, hn⟩ := pr_supervisor hC hR hE a (xs (5 * j + 1))
  refine jr_aload_n x dL_464 rfl 2 h1 ?_
  refine jr_arg x hX hbl hbA hL (n := 1) dL_465 dL_466 dL_467 dL_468 dL_469 (by decide) 3 0 h0 h3 (by omega) ?_
  refine jr_callC (av := [mI (xs (5 * j + 1))]) (ad := ad) x M1 dL_470 (cwT x.2.2.2.2.1 wk_446 wk_447 wk_448 wk_1 kX6_supervisor_in rfl rfl hX6_supervisor (by decide)) hce (fun τ hC2 => ?_)
  refine jr_aload_n x dL_473 rfl 1 h2 ?_
  refine jr_arg x hX hbl hbA hL (n := 1) dL_474 dL_475 dL_476 dL_477 dL_478 (by decide) 3 0 h0 h3 (by omega) ?_
  refine jr_callR (av := [mI (xs (5 * j + 1))]) (ad2 := ad2) (u := v) x M2 dL_479 (cwT x.2.2.2.2.1 wk_752 wk_753 wk_754 wk_9 kX7_supervisor_in rfl rfl hX7_supervisor (by decide)) hce (fun υ ls2 hR2 hE2 => ?_)
  exact jr_icmp_eq (tgt := 618) x dL_482 rfl (fun _ => next τ υ y' ls2 hC2 hR2 hE2 hn) (fun hne => absurd rfl hne)
theorem wk_450 : (Jvm.Cond.methodLink "MailYardLaw" (70 : Nat) ({ cls := "MailYard", name := "restarts", desc := "(I)I" } : Jvm.MethodName)) ∈ wT := inT2 (i := 210) rfl rfl
theorem wk_451 : (Jvm.Cond.instanceMethod ({ cls := "MailYard", name := "restarts", desc := "(I)I" } : Jvm.MethodName)) ∈ wT := inT2 (i := 211) rfl rfl
theorem wk_452 : (Jvm.Cond.selects "MailYard" ({ cls := "MailYard", name := "restarts", desc := "(I)I" } : Jvm.MethodName) ({ cls := "MailYard", name := "restarts", desc := "(I)I" } : Jvm.MethodName)) ∈ wT := inT2 (i := 212) rfl rfl
theorem wk_756 : (Jvm.Cond.methodLink "MailYardLaw" (73 : Nat) ({ cls := "MailYardModel", name := "restarts", desc := "(I)I" } : Jvm.MethodName)) ∈ wT := inT4 (i := 36) rfl rfl
theorem wk_757 : (Jvm.Cond.instanceMethod ({ cls := "MailYardModel", name := "restarts", desc := "(I)I" } : Jvm.MethodName)) ∈ wT := inT4 (i := 37) rfl rfl
theorem wk_758 : (Jvm.Cond.selects "MailYardModel" ({ cls := "MailYardModel", name := "restarts", desc := "(I)I" } : Jvm.MethodName) ({ cls := "MailYardModel", name := "restarts", desc := "(I)I" } : Jvm.MethodName)) ∈ wT := inT4 (i := 38) rfl rfl
theorem law_restarts {p : Program} {l : Launch} {e : Env} {s : State} {m : MethodId} {args : Array Value} {below : List Frame} {meth : Method} {c : Code} {D : va_G} {cA : Nat → ClassId} {A : Nat → Prop} {Q : State → Prop} {b L : Nat} {xs : Nat → Int32} {ce sl : Nat} {ad ad2 : Nat → Nat → Nat} (x : Rx p s m args c code (kX6_init :: wT) "MailYardLaw" 4 D cA A) (hX : va_X b L xs s s.heap) (hbl : b < s.heap.size) (hbA : ¬ A b) (hL : L < 2 ^ 31) (hce : ce ≤ room_1.cells ∧ sl ≤ room_1.slots) {σ ρ : mS} {y : Yd} {ls : List (Int32 × Int32)} {j : Nat} (hC : RC σ y) (hR : RRw ρ y ls []) (hE : yE y = []) (a : LI y j) (hj : j ≤ 600) (hi : 5 * j + 5 ≤ L) {lv : List (Nat × Value)} (h0 : lv[3]? = some (0, .ref b)) (h1 : lv[2]? = some (1, .ref (ad 0 0))) (h2 : lv[1]? = some (2, .ref (ad2 20 0))) (h3 : lv[0]? = some (3, .int (nI (5 * j))))
    (next : ∀ (σ ρ : mS) (y : Yd) (ls : List (Int32 × Int32)), RC σ y → RRw ρ y ls [] → yE y = [] → LI y (j + 1) → Jr p l e room_1 s m args below meth c 4 D A Q (wl cA ad σ clC ++ wl cA ad2 ρ clR) ce sl 618 lv []) : Jr p l e room_1 s m args below meth c 4 D A Q (wl cA ad σ clC ++ wl cA ad2 ρ clR) ce sl 487 lv [] := by
  obtain ⟨v, y', M1, M2, hn⟩ := pr_restarts hC hR hE a (xs (5 * j + 1))
  refine jr_aload_n x dL_487 rfl 2 h1 ?_
  refine jr_arg x hX hbl hbA hL (n := 1) dL_488 dL_489 dL_490 dL_491 dL_492 (by decide) 3 0 h0 h3 (by omega) ?_
  refine jr_callC (av := [mI (xs (5 * j + 1))]) (ad := ad) x M1 dL_493 (cwT x.2.2.2.2.1 wk_450 wk_451 wk_452 wk_1 kX6_restarts_in rfl rfl hX6_restarts (by decide)) hce (fun τ hC2 => ?_)
  refine jr_aload_n x dL_496 rfl 1 h2 ?_
  refine jr_arg x hX hbl hbA hL (n := 1) dL_497 dL_498 dL_499 dL_500 dL_501 (by decide) 3 0 h0 h3 (by omega) ?_
  refine jr_callR (av := [mI (xs (5 * j + 1))]) (ad2 := ad2) (u := v) x M2 dL_502 (cwT x.2.2.2.2.1 wk_756 wk_757 wk_758 wk_9 kX7_restarts_in rfl rfl hX7_restarts (by decide)) hce (fun υ ls2 hR2 hE2 => ?_)
  exact jr_icmp_eq (tgt := 618) x dL_505 rfl (fun _ => next τ υ y' ls2 hC2 hR2 hE2 hn) (fun hne => absurd rfl hne)
theorem wk_454 : (Jvm.Cond.methodLink "MailYardLaw" (74 : Nat) ({ cls := "MailYard", name := "queue", desc := "(I)I" } : Jvm.MethodName)) ∈ wT := inT2 (i := 214) rfl rfl
theorem wk_455 : (Jvm.Cond.instanceMethod ({ cls := "MailYard", name := "queue", desc := "(I)I" } : Jvm.MethodName)) ∈ wT := inT2 (i := 215) rfl rfl
theorem wk_456 : (Jvm.Cond.selects "MailYard" ({ cls := "MailYard", name := "queue", desc := "(I)I" } : Jvm.MethodName) ({ cls := "MailYard", name := "queue", desc := "(I)I" } : Jvm.MethodName)) ∈ wT := inT2 (i := 216) rfl rfl
theorem wk_760 : (Jvm.Cond.methodLink "MailYardLaw" (77 : Nat) ({ cls := "MailYardModel", name := "queue", desc := "(I)I" } : Jvm.MethodName)) ∈ wT := inT4 (i := 40) rfl rfl
theorem wk_761 : (Jvm.Cond.instanceMethod ({ cls := "MailYardModel", name := "queue", desc := "(I)I" } : Jvm.MethodName)) ∈ wT := inT4 (i := 41) rfl rfl
theorem wk_762 : (Jvm.Cond.selects "MailYardModel" ({ cls := "MailYardModel", name := "queue", desc := "(I)I" } : Jvm.MethodName) ({ cls := "MailYardModel", name := "queue", desc := "(I)I" } : Jvm.MethodName)) ∈ wT := inT4 (i := 42) rfl rfl
theorem law_queue {p : Program} {l : Launch} {e : Env} {s : State} {m : MethodId} {args : Array Value} {below : List Frame} {meth : Method} {c : Code} {D : va_G} {cA : Nat → ClassId} {A : Nat → Prop} {Q : State → Prop} {b L : Nat} {xs : Nat → Int32} {ce sl : Nat} {ad ad2 : Nat → Nat → Nat} (x : Rx p s m args c code (kX6_init :: wT) "MailYardLaw" 4 D cA A) (hX : va_X b L xs s s.heap) (hbl : b < s.heap.size) (hbA : ¬ A b) (hL : L < 2 ^ 31) (hce : ce ≤ room_1.cells ∧ sl ≤ room_1.slots) {σ ρ : mS} {y : Yd} {ls : List (Int32 × Int32)} {j : Nat} (hC : RC σ y) (hR : RRw ρ y ls []) (hE : yE y = []) (a : LI y j) (hj : j ≤ 600) (hi : 5 * j + 5 ≤ L) {lv : List (Nat × Value)} (h0 : lv[3]? = some (0, .ref b)) (h1 : lv[2]? = some (1, .ref (ad 0 0))) (h2 : lv[1]? = some (2, .ref (ad2 20 0))) (h3 : lv[0]? = some (3, .int (nI (5 * j))))
    (next : ∀ (σ ρ : mS) (y : Yd) (ls : List (Int32 × Int32)), RC σ y → RRw ρ y ls [] → yE y = [] → LI y (j + 1) → Jr p l e room_1 s m args below meth c 4 D A Q (wl cA ad σ clC ++ wl cA ad2 ρ clR) ce sl 618 lv []) : Jr p l e room_1 s m args below meth c 4 D A Q (wl cA ad σ clC ++ wl cA ad2 ρ clR) ce sl 510 lv [] := by
  obtain ⟨v, y', M1, M2, hn⟩ := pr_queue hC hR hE a (xs (5 * j + 1))
  refine jr_aload_n x dL_510 rfl 2 h1 ?_
  refine jr_arg x hX hbl hbA hL (n := 1) dL_511 dL_512 dL_513 dL_514 dL_515 (by decide) 3 0 h0 h3 (by omega) ?_
  refine jr_callC (av := [mI (xs (5 * j + 1))]) (ad := ad) x M1 dL_516 (cwT x.2.2.2.2.1 wk_454 wk_455 wk_456 wk_1 kX6_queue_in rfl rfl hX6_queue (by decide)) hce (fun τ hC2 => ?_)
  refine jr_aload_n x dL_519 rfl 1 h2 ?_
  refine jr_arg x hX hbl hbA hL (n := 1) dL_520 dL_521 dL_522 dL_523 dL_524 (by decide) 3 0 h0 h3 (by omega) ?_
  refine jr_callR (av := [mI (xs (5 * j + 1))]) (ad2 := ad2) (u := v) x M2 dL_525 (cwT x.2.2.2.2.1 wk_760 wk_761 wk_762 wk_9 kX7_queue_in rfl rfl hX7_queue (by decide)) hce (fun υ ls2 hR2 hE2 => ?_)
  exact jr_icmp_eq (tgt := 618) x dL_528 rfl (fun _ => next τ υ y' ls2 hC2 hR2 hE2 hn) (fun hne => absurd rfl hne)
theorem wk_458 : (Jvm.Cond.methodLink "MailYardLaw" (78 : Nat) ({ cls := "MailYard", name := "room", desc := "()I" } : Jvm.MethodName)) ∈ wT := inT2 (i := 218) rfl rfl
theorem wk_459 : (Jvm.Cond.instanceMethod ({ cls := "MailYard", name := "room", desc := "()I" } : Jvm.MethodName)) ∈ wT := inT2 (i := 219) rfl rfl
theorem wk_460 : (Jvm.Cond.selects "MailYard" ({ cls := "MailYard", name := "room", desc := "()I" } : Jvm.MethodName) ({ cls := "MailYard", name := "room", desc := "()I" } : Jvm.MethodName)) ∈ wT := inT2 (i := 220) rfl rfl
theorem wk_764 : (Jvm.Cond.methodLink "MailYardLaw" (81 : Nat) ({ cls := "MailYardModel", name := "room", desc := "()I" } : Jvm.MethodName)) ∈ wT := inT4 (i := 44) rfl rfl
theorem wk_765 : (Jvm.Cond.instanceMethod ({ cls := "MailYardModel", name := "room", desc := "()I" } : Jvm.MethodName)) ∈ wT := inT4 (i := 45) rfl rfl
theorem wk_766 : (Jvm.Cond.selects "MailYardModel" ({ cls := "MailYardModel", name := "room", desc := "()I" } : Jvm.MethodName) ({ cls := "MailYardModel", name := "room", desc := "()I" } : Jvm.MethodName)) ∈ wT := inT4 (i := 46) rfl rfl
theorem law_room {p : Program} {l : Launch} {e : Env} {s : State} {m : MethodId} {args : Array Value} {below : List Frame} {meth : Method} {c : Code} {D : va_G} {cA : Nat → ClassId} {A : Nat → Prop} {Q : State → Prop} {b L : Nat} {xs : Nat → Int32} {ce sl : Nat} {ad ad2 : Nat → Nat → Nat} (x : Rx p s m args c code (kX6_init :: wT) "MailYardLaw" 4 D cA A) (hX : va_X b L xs s s.heap) (hbl : b < s.heap.size) (hbA : ¬ A b) (hL : L < 2 ^ 31) (hce : ce ≤ room_1.cells ∧ sl ≤ room_1.slots) {σ ρ : mS} {y : Yd} {ls : List (Int32 × Int32)} {j : Nat} (hC : RC σ y) (hR : RRw ρ y ls []) (hE : yE y = []) (a : LI y j) (hj : j ≤ 600) (hi : 5 * j + 5 ≤ L) {lv : List (Nat × Value)} (h0 : lv[3]? = some (0, .ref b)) (h1 : lv[2]? = some (1, .ref (ad 0 0))) (h2 : lv[1]? = some (2, .ref (ad2 20 0))) (h3 : lv[0]? = some (3, .int (nI (5 * j))))
    (next : ∀ (σ ρ : mS) (y : Yd) (ls : List (Int32 × Int32)), RC σ y → RRw ρ y ls [] → yE y = [] → LI y (j + 1) → Jr p l e room_1 s m args below meth c 4 D A Q (wl cA ad σ clC ++ wl cA ad2 ρ clR) ce sl 618 lv []) : Jr p l e room_1 s m args below meth c 4 D A Q (wl cA ad σ clC ++ wl cA ad2 ρ clR) ce sl 533 lv [] := by
  obtain ⟨v, y', M1, M2, hn⟩ := pr_room hC hR hE a
  refine jr_aload_n x dL_533 rfl 2 h1 ?_
  refine jr_callC (av := []) (ad := ad) x M1 dL_534 (cwT x.2.2.2.2.1 wk_458 wk_459 wk_460 wk_1 kX6_room_in rfl rfl hX6_room (by decide)) hce (fun τ hC2 => ?_)
  refine jr_aload_n x dL_537 rfl 1 h2 ?_
  refine jr_callR (av := []) (ad2 := ad2) (u := v) x M2 dL_538 (cwT x.2.2.2.2.1 wk_764 wk_765 wk_766 wk_9 kX7_room_in rfl rfl hX7_room (by decide)) hce (fun υ ls2 hR2 hE2 => ?_)
  exact jr_icmp_eq (tgt := 618) x dL_541 rfl (fun _ => next τ υ y' ls2 hC2 hR2 hE2 hn) (fun hne => absurd rfl hne)
theorem wk_462 : (Jvm.Cond.methodLink "MailYardLaw" (82 : Nat) ({ cls := "MailYard", name := "lost", desc := "()I" } : Jvm.MethodName)) ∈ wT := inT2 (i := 222) rfl rfl
theorem wk_463 : (Jvm.Cond.instanceMethod ({ cls := "MailYard", name := "lost", desc := "()I" } : Jvm.MethodName)) ∈ wT := inT2 (i := 223) rfl rfl
theorem wk_464 : (Jvm.Cond.selects "MailYard" ({ cls := "MailYard", name := "lost", desc := "()I" } : Jvm.MethodName) ({ cls := "MailYard", name := "lost", desc := "()I" } : Jvm.MethodName)) ∈ wT := inT2 (i := 224) rfl rfl
theorem wk_768 : (Jvm.Cond.methodLink "MailYardLaw" (85 : Nat) ({ cls := "MailYardModel", name := "lost", desc := "()I" } : Jvm.MethodName)) ∈ wT := inT4 (i := 48) rfl rfl
theorem wk_769 : (Jvm.Cond.instanceMethod ({ cls := "MailYardModel", name := "lost", desc := "()I" } : Jvm.MethodName)) ∈ wT := inT4 (i := 49) rfl rfl
theorem wk_770 : (Jvm.Cond.selects "MailYardModel" ({ cls := "MailYardModel", name := "lost", desc := "()I" } : Jvm.MethodName) ({ cls := "MailYardModel", name := "lost", desc := "()I" } : Jvm.MethodName)) ∈ wT := inT4 (i := 50) rfl rfl
theorem law_lost {p : Program} {l : Launch} {e : Env} {s : State} {m : MethodId} {args : Array Value} {below : List Frame} {meth : Method} {c : Code} {D : va_G} {cA : Nat → ClassId} {A : Nat → Prop} {Q : State → Prop} {b L : Nat} {xs : Nat → Int32} {ce sl : Nat} {ad ad2 : Nat → Nat → Nat} (x : Rx p s m args c code (kX6_init :: wT) "MailYardLaw" 4 D cA A) (hX : va_X b L xs s s.heap) (hbl : b < s.heap.size) (hbA : ¬ A b) (hL : L < 2 ^ 31) (hce : ce ≤ room_1.cells ∧ sl ≤ room_1.slots) {σ ρ : mS} {y : Yd} {ls : List (Int32 × Int32)} {j : Nat} (hC : RC σ y) (hR : RRw ρ y ls []) (hE : yE y = []) (a : LI y j) (hj : j ≤ 600) (hi : 5 * j + 5 ≤ L) {lv : List (Nat × Value)} (h0 : lv[3]? = some (0, .ref b)) (h1 : lv[2]? = some (1, .ref (ad 0 0))) (h2 : lv[1]? = some (2, .ref (ad2 20 0))) (h3 : lv[0]? = some (3, .int (nI (5 * j))))
    (next : ∀ (σ ρ : mS) (y : Yd) (ls : List (Int32 × Int32)), RC σ y → RRw ρ y ls [] → yE y = [] → LI y (j + 1) → Jr p l e room_1 s m args below meth c 4 D A Q (wl cA ad σ clC ++ wl cA ad2 ρ clR) ce sl 618 lv []) : Jr p l e room_1 s m args below meth c 4 D A Q (wl cA ad σ clC ++ wl cA ad2 ρ clR) ce sl 546 lv [] := by
  obtain ⟨v, y', M1, M2, hn⟩ := pr_lost hC hR hE a
  refine jr_aload_n x dL_546 rfl 2 h1 ?_
  refine jr_callC (av := []) (ad := ad) x M1 dL_547 (cwT x.2.2.2.2.1 wk_462 wk_463 wk_464 wk_1 kX6_lost_in rfl rfl hX6_lost (by decide)) hce (fun τ hC2 => ?_)
  refine jr_aload_n x dL_550 rfl 1 h2 ?_
  refine jr_callR (av := []) (ad2 := ad2) (u := v) x M2 dL_551 (cwT x.2.2.2.2.1 wk_768 wk_769 wk_770 wk_9 kX7_lost_in rfl rfl hX7_lost (by decide)) hce (fun υ ls2 hR2 hE2 => ?_)
  exact jr_icmp_eq (tgt := 618) x dL_554 rfl (fun _ => next τ υ y' ls2 hC2 hR2 hE2 hn) (fun hne => absurd rfl hne)
theorem wk_466 : (Jvm.Cond.methodLink "MailYardLaw" (86 : Nat) ({ cls := "MailYard", name := "timers", desc := "()I" } : Jvm.MethodName)) ∈ wT := inT2 (i := 226) rfl rfl
theorem wk_467 : (Jvm.Cond.instanceMethod ({ cls := "MailYard", name := "timers", desc := "()I" } : Jvm.MethodName)) ∈ wT := inT2 (i := 227) rfl rfl
theorem wk_468 : (Jvm.Cond.selects "MailYard" ({ cls := "MailYard", name := "timers", desc := "()I" } : Jvm.MethodName) ({ cls := "MailYard", name := "timers", desc := "()I" } : Jvm.MethodName)) ∈ wT := inT2 (i := 228) rfl rfl
theorem wk_772 : (Jvm.Cond.methodLink "MailYardLaw" (89 : Nat) ({ cls := "MailYardModel", name := "timers", desc := "()I" } : Jvm.MethodName)) ∈ wT := inT4 (i := 52) rfl rfl
theorem wk_773 : (Jvm.Cond.instanceMethod ({ cls := "MailYardModel", name := "timers", desc := "()I" } : Jvm.MethodName)) ∈ wT := inT4 (i := 53) rfl rfl
theorem wk_774 : (Jvm.Cond.selects "MailYardModel" ({ cls := "MailYardModel", name := "timers", desc := "()I" } : Jvm.MethodName) ({ cls := "MailYardModel", name := "timers", desc := "()I" } : Jvm.MethodName)) ∈ wT := inT4 (i := 54) rfl rfl
theorem law_timers {p : Program} {l : Launch} {e : Env} {s : State} {m : MethodId} {args : Array Value} {below : List Frame} {meth : Method} {c : Code} {D : va_G} {cA : Nat → ClassId} {A : Nat → Prop} {Q : State → Prop} {b L : Nat} {xs : Nat → Int32} {ce sl : Nat} {ad ad2 : Nat → Nat → Nat} (x : Rx p s m args c code (kX6_init :: wT) "MailYardLaw" 4 D cA A) (hX : va_X b L xs s s.heap) (hbl : b < s.heap.size) (hbA : ¬ A b) (hL : L < 2 ^ 31) (hce : ce ≤ room_1.cells ∧ sl ≤ room_1.slots) {σ ρ : mS} {y : Yd} {ls : List (Int32 × Int32)} {j : Nat} (hC : RC σ y) (hR : RRw ρ y ls []) (hE : yE y = []) (a : LI y j) (hj : j ≤ 600) (hi : 5 * j + 5 ≤ L) {lv : List (Nat × Value)} (h0 : lv[3]? = some (0, .ref b)) (h1 : lv[2]? = some (1, .ref (ad 0 0))) (h2 : lv[1]? = some (2, .ref (ad2 20 0))) (h3 : lv[0]? = some (3, .int (nI (5 * j))))
    (next : ∀ (σ ρ : mS) (y : Yd) (ls : List (Int32 × Int32)), RC σ y → RRw ρ y ls [] → yE y = [] → LI y (j + 1) → Jr p l e room_1 s m args below meth c 4 D A Q (wl cA ad σ clC ++ wl cA ad2 ρ clR) ce sl 618 lv []) : Jr p l e room_1 s m args below meth c 4 D A Q (wl cA ad σ clC ++ wl cA ad2 ρ clR) ce sl 559 lv [] := by
  obtain ⟨v, y', M1, M2, hn⟩ := pr_timers hC hR hE a
  refine jr_aload_n x dL_559 rfl 2 h1 ?_
  refine jr_callC (av := []) (ad := ad) x M1 dL_560 (cwT x.2.2.2.2.1 wk_466 wk_467 wk_468 wk_1 kX6_timers_in rfl rfl hX6_timers (by decide)) hce (fun τ hC2 => ?_)
  refine jr_aload_n x dL_563 rfl 1 h2 ?_
  refine jr_callR (av := []) (ad2 := ad2) (u := v) x M2 dL_564 (cwT x.2.2.2.2.1 wk_772 wk_773 wk_774 wk_9 kX7_timers_in rfl rfl hX7_timers (by decide)) hce (fun υ ls2 hR2 hE2 => ?_)
  exact jr_icmp_eq (tgt := 618) x dL_567 rfl (fun _ => next τ υ y' ls2 hC2 hR2 hE2 hn) (fun hne => absurd rfl hne)
theorem wk_470 : (Jvm.Cond.methodLink "MailYardLaw" (90 : Nat) ({ cls := "MailYard", name := "output", desc := "(I)I" } : Jvm.MethodName)) ∈ wT := inT2 (i := 230) rfl rfl
theorem wk_471 : (Jvm.Cond.instanceMethod ({ cls := "MailYard", name := "output", desc := "(I)I" } : Jvm.MethodName)) ∈ wT := inT2 (i := 231) rfl rfl
theorem wk_472 : (Jvm.Cond.selects "MailYard" ({ cls := "MailYard", name := "output", desc := "(I)I" } : Jvm.MethodName) ({ cls := "MailYard", name := "output", desc := "(I)I" } : Jvm.MethodName)) ∈ wT := inT2 (i := 232) rfl rfl
theorem wk_776 : (Jvm.Cond.methodLink "MailYardLaw" (93 : Nat) ({ cls := "MailYardModel", name := "output", desc := "(I)I" } : Jvm.MethodName)) ∈ wT := inT4 (i := 56) rfl rfl
theorem wk_777 : (Jvm.Cond.instanceMethod ({ cls := "MailYardModel", name := "output", desc := "(I)I" } : Jvm.MethodName)) ∈ wT := inT4 (i := 57) rfl rfl
theorem wk_778 : (Jvm.Cond.selects "MailYardModel" ({ cls := "MailYardModel", name := "output", desc := "(I)I" } : Jvm.MethodName) ({ cls := "MailYardModel", name := "output", desc := "(I)I" } : Jvm.MethodName)) ∈ wT := inT4 (i := 58) rfl rfl
theorem law_output {p : Program} {l : Launch} {e : Env} {s : State} {m : MethodId} {args : Array Value} {below : List Frame} {meth : Method} {c : Code} {D : va_G} {cA : Nat → ClassId} {A : Nat → Prop} {Q : State → Prop} {b L : Nat} {xs : Nat → Int32} {ce sl : Nat} {ad ad2 : Nat → Nat → Nat} (x : Rx p s m args c code (kX6_init :: wT) "MailYardLaw" 4 D cA A) (hX : va_X b L xs s s.heap) (hbl : b < s.heap.size) (hbA : ¬ A b) (hL : L < 2 ^ 31) (hce : ce ≤ room_1.cells ∧ sl ≤ room_1.slots) {σ ρ : mS} {y : Yd} {ls : List (Int32 × Int32)} {j : Nat} (hC : RC σ y) (hR : RRw ρ y ls []) (hE : yE y = []) (a : LI y j) (hj : j ≤ 600) (hi : 5 * j + 5 ≤ L) {lv : List (Nat × Value)} (h0 : lv[3]? = some (0, .ref b)) (h1 : lv[2]? = some (1, .ref (ad 0 0))) (h2 : lv[1]? = some (2, .ref (ad2 20 0))) (h3 : lv[0]? = some (3, .int (nI (5 * j))))
    (next : ∀ (σ ρ : mS) (y : Yd) (ls : List (Int32 × Int32)), RC σ y → RRw ρ y ls [] → yE y = [] → LI y (j + 1) → Jr p l e room_1 s m args below meth c 4 D A Q (wl cA ad σ clC ++ wl cA ad2 ρ clR) ce sl 618 lv []) : Jr p l e room_1 s m args below meth c 4 D A Q (wl cA ad σ clC ++ wl cA ad2 ρ clR) ce sl 572 lv [] := by
  obtain ⟨v, y', M1, M2, hn⟩ := pr_output hC hR hE a (xs (5 * j + 1))
  refine jr_aload_n x dL_572 rfl 2 h1 ?_
  refine jr_arg x hX hbl hbA hL (n := 1) dL_573 dL_574 dL_575 dL_576 dL_577 (by decide) 3 0 h0 h3 (by omega) ?_
  refine jr_callC (av := [mI (xs (5 * j + 1))]) (ad := ad) x M1 dL_578 (cwT x.2.2.2.2.1 wk_470 wk_471 wk_472 wk_1 kX6_output_in rfl rfl hX6_output (by decide)) hce (fun τ hC2 => ?_)
  refine jr_aload_n x dL_581 rfl 1 h2 ?_
  refine jr_arg x hX hbl hbA hL (n := 1) dL_582 dL_583 dL_584 dL_585 dL_586 (by decide) 3 0 h0 h3 (by omega) ?_
  refine jr_callR (av := [mI (xs (5 * j + 1))]) (ad2 := ad2) (u := v) x M2 dL_587 (cwT x.2.2.2.2.1 wk_776 wk_777 wk_778 wk_9 kX7_output_in rfl rfl hX7_output (by decide)) hce (fun υ ls2 hR2 hE2 => ?_)
  exact jr_icmp_eq (tgt := 618) x dL_590 rfl (fun _ => next τ υ y' ls2 hC2 hR2 hE2 hn) (fun hne => absurd rfl hne)
theorem wk_478 : (Jvm.Cond.methodLink "MailYardLaw" (94 : Nat) ({ cls := "MailYard", name := "author", desc := "(I)I" } : Jvm.MethodName)) ∈ wT := inT2 (i := 238) rfl rfl
theorem wk_479 : (Jvm.Cond.instanceMethod ({ cls := "MailYard", name := "author", desc := "(I)I" } : Jvm.MethodName)) ∈ wT := inT2 (i := 239) rfl rfl
theorem wk_480 : (Jvm.Cond.selects "MailYard" ({ cls := "MailYard", name := "author", desc := "(I)I" } : Jvm.MethodName) ({ cls := "MailYard", name := "author", desc := "(I)I" } : Jvm.MethodName)) ∈ wT := inT3 (i := 0) rfl rfl
theorem wk_780 : (Jvm.Cond.methodLink "MailYardLaw" (97 : Nat) ({ cls := "MailYardModel", name := "author", desc := "(I)I" } : Jvm.MethodName)) ∈ wT := inT4 (i := 60) rfl rfl
theorem wk_781 : (Jvm.Cond.instanceMethod ({ cls := "MailYardModel", name := "author", desc := "(I)I" } : Jvm.MethodName)) ∈ wT := inT4 (i := 61) rfl rfl
theorem wk_782 : (Jvm.Cond.selects "MailYardModel" ({ cls := "MailYardModel", name := "author", desc := "(I)I" } : Jvm.MethodName) ({ cls := "MailYardModel", name := "author", desc := "(I)I" } : Jvm.MethodName)) ∈ wT := inT4 (i := 62) rfl rfl
theorem law_author {p : Program} {l : Launch} {e : Env} {s : State} {m : MethodId} {args : Array Value} {below : List Frame} {meth : Method} {c : Code} {D : va_G} {cA : Nat → ClassId} {A : Nat → Prop} {Q : State → Prop} {b L : Nat} {xs : Nat → Int32} {ce sl : Nat} {ad ad2 : Nat → Nat → Nat} (x : Rx p s m args c code (kX6_init :: wT) "MailYardLaw" 4 D cA A) (hX : va_X b L xs s s.heap) (hbl : b < s.heap.size) (hbA : ¬ A b) (hL : L < 2 ^ 31) (hce : ce ≤ room_1.cells ∧ sl ≤ room_1.slots) {σ ρ : mS} {y : Yd} {ls : List (Int32 × Int32)} {j : Nat} (hC : RC σ y) (hR : RRw ρ y ls []) (hE : yE y = []) (a : LI y j) (hj : j ≤ 600) (hi : 5 * j + 5 ≤ L) {lv : List (Nat × Value)} (h0 : lv[3]? = some (0, .ref b)) (h1 : lv[2]? = some (1, .ref (ad 0 0))) (h2 : lv[1]? = some (2, .ref (ad2 20 0))) (h3 : lv[0]? = some (3, .int (nI (5 * j))))
    (next : ∀ (σ ρ : mS) (y : Yd) (ls : List (Int32 × Int32)), RC σ y → RRw ρ y ls [] → yE y = [] → LI y (j + 1) → Jr p l e room_1 s m args below meth c 4 D A Q (wl cA ad σ clC ++ wl cA ad2 ρ clR) ce sl 618 lv []) : Jr p l e room_1 s m args below meth c 4 D A Q (wl cA ad σ clC ++ wl cA ad2 ρ clR) ce sl 595 lv [] := by
  obtain ⟨v, y', M1, M2, hn⟩ := pr_author hC hR hE a (xs (5 * j + 1))
  refine jr_aload_n x dL_595 rfl 2 h1 ?_
  refine jr_arg x hX hbl hbA hL (n := 1) dL_596 dL_597 dL_598 dL_599 dL_600 (by decide) 3 0 h0 h3 (by omega) ?_
  refine jr_callC (av := [mI (xs (5 * j + 1))]) (ad := ad) x M1 dL_601 (cwT x.2.2.2.2.1 wk_478 wk_479 wk_480 wk_1 kX6_author_in rfl rfl hX6_author (by decide)) hce (fun τ hC2 => ?_)
  refine jr_aload_n x dL_604 rfl 1 h2 ?_
  refine jr_arg x hX hbl hbA hL (n := 1) dL_605 dL_606 dL_607 dL_608 dL_609 (by decide) 3 0 h0 h3 (by omega) ?_
  refine jr_callR (av := [mI (xs (5 * j + 1))]) (ad2 := ad2) (u := v) x M2 dL_610 (cwT x.2.2.2.2.1 wk_780 wk_781 wk_782 wk_9 kX7_author_in rfl rfl hX7_author (by decide)) hce (fun υ ls2 hR2 hE2 => ?_)
  exact jr_icmp_eq (tgt := 618) x dL_613 rfl (fun _ => next τ υ y' ls2 hC2 hR2 hE2 hn) (fun hne => absurd rfl hne)
