/-! Names: the words of the tables, the classes and their fields, the methods. Written by mk_names.py out of the Statement. -/
def wT : List Cond := lw_tbl.filter goodWord
theorem inT1 {i : Nat} {w : Cond} (h : tables_1_1[i]? = some w) (g : goodWord w = true) : w ∈ wT := List.mem_filter.mpr ⟨List.mem_append_right _ (List.mem_append_left _ (List.mem_of_getElem? h)), g⟩
theorem inT2 {i : Nat} {w : Cond} (h : tables_1_2[i]? = some w) (g : goodWord w = true) : w ∈ wT := List.mem_filter.mpr ⟨List.mem_append_right _ (List.mem_append_right _ (List.mem_append_left _ (List.mem_of_getElem? h))), g⟩
theorem inT3 {i : Nat} {w : Cond} (h : tables_1_3[i]? = some w) (g : goodWord w = true) : w ∈ wT := List.mem_filter.mpr ⟨List.mem_append_right _ (List.mem_append_right _ (List.mem_append_right _ (List.mem_append_left _ (List.mem_of_getElem? h)))), g⟩
theorem inT4 {i : Nat} {w : Cond} (h : tables_1_4[i]? = some w) (g : goodWord w = true) : w ∈ wT := List.mem_filter.mpr ⟨List.mem_append_right _ (List.mem_append_right _ (List.mem_append_right _ (List.mem_append_right _ (List.mem_of_getElem? h)))), g⟩
theorem inP {q : MethodName × Nat} (h : q ∈ lw_privs) (g : goodWord (Cond.selects q.1.cls q.1 q.1) = true) : Cond.selects q.1.cls q.1 q.1 ∈ wT := List.mem_filter.mpr ⟨List.mem_append_left _ (List.mem_map.mpr ⟨q, h, rfl⟩), g⟩
theorem wT_lw : ∀ w ∈ wT, w ∈ lw_tbl := fun _ h => (List.mem_filter.mp h).1
theorem gT {c0 : Cond} {ws : List Cond} (h : ∀ w ∈ ws, w ∈ wT) : GoodIn (c0 :: wT) ws := fun w hw => ⟨List.mem_cons_of_mem _ (h w hw), good_of_word (List.mem_filter.mp (h w hw)).2⟩
theorem cbT {c0 : Cond} {R : Room} {s : State} {args : Array Value} {own : String} {index maxL n : Nat} {y : MethodName} {bytes : ByteArray} {rt : Option FieldType} {rm : Room} (hts : ∀ w ∈ c0 :: wT, w.before args s = true) (hl : Cond.methodLink own index y ∈ wT) (hn : Cond.initialized y.cls ∈ wT) (hc : Cond.code y bytes maxL rt ∈ wT) (hrc : rm.cells = 0) (hrs : rm.slots = 0) (hd : y.cls ≠ "java/lang/invoke/MethodHandle" ∧ y.cls ≠ "java/lang/invoke/VarHandle" ∧ (parseMethodDescriptor y.desc).map (fun d => d.parameters.length) = some n) (hR : rm.frames + 1 ≤ R.frames ∧ 8 + (maxL + 11) + rm.locals ≤ R.locals) : CallB R s args own index y bytes maxL rt (Cond.code y bytes maxL rt :: wT) rm 0 0 n :=
  callB_of (Ts := c0 :: wT) n hts (gT (fun w h => (List.mem_cons.mp h).elim (fun e => by rw [e]; exact hc) id)) rfl hrc hrs (hts _ (List.mem_cons_of_mem _ hn)) (hts _ (List.mem_cons_of_mem _ hl)) hd hR
theorem cwT {c0 : Cond} {R : Room} {s : State} {args : Array Value} {own : String} {index maxL n : Nat} {y : MethodName} {bytes : ByteArray} {rt : Option FieldType} {rm : Room} (hts : ∀ w ∈ c0 :: wT, w.before args s = true) (hl : Cond.methodLink own index y ∈ wT) (hi : Cond.instanceMethod y ∈ wT) (hs : Cond.selects y.cls y y ∈ wT) (hn : Cond.initialized y.cls ∈ wT) (hc : Cond.code y bytes maxL rt ∈ wT) (hrc : rm.cells = 0) (hrs : rm.slots = 0) (hd : y.cls ≠ "java/lang/invoke/MethodHandle" ∧ y.cls ≠ "java/lang/invoke/VarHandle" ∧ (parseMethodDescriptor y.desc).map (fun d => d.parameters.length) = some n) (hR : rm.frames + 1 ≤ R.frames ∧ 8 + (maxL + 11) + rm.locals ≤ R.locals) : CallW R s args own y.cls index y bytes maxL rt (Cond.code y bytes maxL rt :: wT) rm 0 0 n :=
  ⟨cbT hts hl hn hc hrc hrs hd hR, hts _ (List.mem_cons_of_mem _ hi), hts _ (List.mem_cons_of_mem _ hs)⟩
abbrev RX0 : String := "MailYard$Actor"
def TX0 : u_T := fun k => match k with
  | 0 => ("MailYard$Actor", "slot", "I", true)
  | 1 => ("MailYard$Actor", "registers", "[I", true)
  | 2 => ("MailYard$Actor", "mailbox", "LMailYard$Mailbox;", true)
  | 3 => ("MailYard$Actor", "timesBegunAnew", "[J", true)
  | 4 => ("MailYard$Actor", "id", "I", false)
  | 5 => ("MailYard$Actor", "entry", "I", false)
  | 6 => ("MailYard$Actor", "argument", "I", false)
  | 7 => ("MailYard$Actor", "overseer", "I", false)
  | 8 => ("MailYard$Actor", "cell", "I", false)
  | 9 => ("MailYard$Actor", "traps", "Z", false)
  | 10 => ("MailYard$Actor", "waiting", "Z", false)
  | 11 => ("MailYard$Actor", "done", "I", false)
  | 12 => ("MailYard$Actor", "begunAnew", "I", false)
  | 13 => ("MailYard$Actor", "reason", "I", false)
  | _ => ("MailYard$Actor", "links", "I", false)
def tyX0 : Nat → FieldType := fun k => match k with
  | 0 => .int
  | 1 => .array .int
  | 2 => .object "MailYard$Mailbox"
  | 3 => .array .long
  | 4 => .int
  | 5 => .int
  | 6 => .int
  | 7 => .int
  | 8 => .int
  | 9 => .boolean
  | 10 => .boolean
  | 11 => .int
  | 12 => .int
  | 13 => .int
  | _ => .int
theorem nmX0 : ∀ a, a < 15 → ∀ b, b < 15 → a ≠ b → (TX0 a).2.1 ≠ (TX0 b).2.1 := by decide +kernel
theorem tyX0_ok : ∀ k, k < 15 → parseFieldDescriptor (TX0 k).2.2.1 = some (tyX0 k) := by decide +kernel
abbrev RX1 : String := "MailYard$Code"
def TX1 : u_T := fun k => match k with
  | 0 => ("MailYard$Code", "ops", "[I", true)
  | 1 => ("MailYard$Code", "firsts", "[I", true)
  | _ => ("MailYard$Code", "seconds", "[I", true)
def tyX1 : Nat → FieldType := fun k => match k with
  | 0 => .array .int
  | 1 => .array .int
  | _ => .array .int
theorem nmX1 : ∀ a, a < 3 → ∀ b, b < 3 → a ≠ b → (TX1 a).2.1 ≠ (TX1 b).2.1 := by decide +kernel
theorem tyX1_ok : ∀ k, k < 3 → parseFieldDescriptor (TX1 k).2.2.1 = some (tyX1 k) := by decide +kernel
abbrev RX2 : String := "MailYard$Line"
def TX2 : u_T := fun k => match k with
  | 0 => ("MailYard$Line", "row", "[LMailYard$Actor;", true)
  | _ => ("MailYard$Line", "size", "I", false)
def tyX2 : Nat → FieldType := fun k => match k with
  | 0 => .array (.object "MailYard$Actor")
  | _ => .int
theorem nmX2 : ∀ a, a < 2 → ∀ b, b < 2 → a ≠ b → (TX2 a).2.1 ≠ (TX2 b).2.1 := by decide +kernel
theorem tyX2_ok : ∀ k, k < 2 → parseFieldDescriptor (TX2 k).2.2.1 = some (tyX2 k) := by decide +kernel
abbrev RX3 : String := "MailYard$Mailbox"
def TX3 : u_T := fun k => match k with
  | 0 => ("MailYard$Mailbox", "values", "[I", true)
  | 1 => ("MailYard$Mailbox", "senders", "[I", true)
  | 2 => ("MailYard$Mailbox", "head", "I", false)
  | _ => ("MailYard$Mailbox", "size", "I", false)
def tyX3 : Nat → FieldType := fun k => match k with
  | 0 => .array .int
  | 1 => .array .int
  | 2 => .int
  | _ => .int
theorem nmX3 : ∀ a, a < 4 → ∀ b, b < 4 → a ≠ b → (TX3 a).2.1 ≠ (TX3 b).2.1 := by decide +kernel
theorem tyX3_ok : ∀ k, k < 4 → parseFieldDescriptor (TX3 k).2.2.1 = some (tyX3 k) := by decide +kernel
abbrev RX4 : String := "MailYard$Outputs"
def TX4 : u_T := fun k => match k with
  | 0 => ("MailYard$Outputs", "values", "[I", true)
  | 1 => ("MailYard$Outputs", "authors", "[I", true)
  | _ => ("MailYard$Outputs", "size", "I", false)
def tyX4 : Nat → FieldType := fun k => match k with
  | 0 => .array .int
  | 1 => .array .int
  | _ => .int
theorem nmX4 : ∀ a, a < 3 → ∀ b, b < 3 → a ≠ b → (TX4 a).2.1 ≠ (TX4 b).2.1 := by decide +kernel
theorem tyX4_ok : ∀ k, k < 3 → parseFieldDescriptor (TX4 k).2.2.1 = some (tyX4 k) := by decide +kernel
abbrev RX5 : String := "MailYard$Timers"
def TX5 : u_T := fun k => match k with
  | 0 => ("MailYard$Timers", "owners", "[I", true)
  | 1 => ("MailYard$Timers", "values", "[I", true)
  | 2 => ("MailYard$Timers", "limits", "[Z", true)
  | 3 => ("MailYard$Timers", "ends", "[J", true)
  | _ => ("MailYard$Timers", "size", "I", false)
def tyX5 : Nat → FieldType := fun k => match k with
  | 0 => .array .int
  | 1 => .array .int
  | 2 => .array .boolean
  | 3 => .array .long
  | _ => .int
theorem nmX5 : ∀ a, a < 5 → ∀ b, b < 5 → a ≠ b → (TX5 a).2.1 ≠ (TX5 b).2.1 := by decide +kernel
theorem tyX5_ok : ∀ k, k < 5 → parseFieldDescriptor (TX5 k).2.2.1 = some (tyX5 k) := by decide +kernel
abbrev RX6 : String := "MailYard"
def TX6 : u_T := fun k => match k with
  | 0 => ("MailYard", "code", "LMailYard$Code;", true)
  | 1 => ("MailYard", "alive", "LMailYard$Line;", true)
  | 2 => ("MailYard", "spare", "LMailYard$Line;", true)
  | 3 => ("MailYard", "ready", "LMailYard$Line;", true)
  | 4 => ("MailYard", "endings", "LMailYard$Line;", true)
  | 5 => ("MailYard", "clock", "LMailYard$Timers;", true)
  | 6 => ("MailYard", "outputs", "LMailYard$Outputs;", true)
  | 7 => ("MailYard", "now", "J", false)
  | 8 => ("MailYard", "freeCells", "I", false)
  | 9 => ("MailYard", "lostMessages", "I", false)
  | _ => ("MailYard", "lastId", "I", false)
def tyX6 : Nat → FieldType := fun k => match k with
  | 0 => .object "MailYard$Code"
  | 1 => .object "MailYard$Line"
  | 2 => .object "MailYard$Line"
  | 3 => .object "MailYard$Line"
  | 4 => .object "MailYard$Line"
  | 5 => .object "MailYard$Timers"
  | 6 => .object "MailYard$Outputs"
  | 7 => .long
  | 8 => .int
  | 9 => .int
  | _ => .int
theorem nmX6 : ∀ a, a < 11 → ∀ b, b < 11 → a ≠ b → (TX6 a).2.1 ≠ (TX6 b).2.1 := by decide +kernel
theorem tyX6_ok : ∀ k, k < 11 → parseFieldDescriptor (TX6 k).2.2.1 = some (tyX6 k) := by decide +kernel
abbrev RX7 : String := "MailYardModel"
def TX7 : u_T := fun k => match k with
  | 0 => ("MailYardModel", "ops", "[I", false)
  | 1 => ("MailYardModel", "as", "[I", false)
  | 2 => ("MailYardModel", "bs", "[I", false)
  | 3 => ("MailYardModel", "made", "I", false)
  | 4 => ("MailYardModel", "who", "[I", false)
  | 5 => ("MailYardModel", "regs", "[I", false)
  | 6 => ("MailYardModel", "at", "[I", false)
  | 7 => ("MailYardModel", "entries", "[I", false)
  | 8 => ("MailYardModel", "arguments", "[I", false)
  | 9 => ("MailYardModel", "traps", "[Z", false)
  | 10 => ("MailYardModel", "above", "[I", false)
  | 11 => ("MailYardModel", "waits", "[Z", false)
  | 12 => ("MailYardModel", "turns", "[I", false)
  | 13 => ("MailYardModel", "begun", "[I", false)
  | 14 => ("MailYardModel", "times", "[I", false)
  | 15 => ("MailYardModel", "queued", "I", false)
  | 16 => ("MailYardModel", "row", "[I", false)
  | 17 => ("MailYardModel", "now", "I", false)
  | 18 => ("MailYardModel", "mails", "I", false)
  | 19 => ("MailYardModel", "mailTo", "[I", false)
  | 20 => ("MailYardModel", "mailFrom", "[I", false)
  | 21 => ("MailYardModel", "mailValue", "[I", false)
  | 22 => ("MailYardModel", "links", "I", false)
  | 23 => ("MailYardModel", "linkOne", "[I", false)
  | 24 => ("MailYardModel", "linkTwo", "[I", false)
  | 25 => ("MailYardModel", "missed", "I", false)
  | 26 => ("MailYardModel", "clocks", "I", false)
  | 27 => ("MailYardModel", "clockWho", "[I", false)
  | 28 => ("MailYardModel", "clockEnd", "[I", false)
  | 29 => ("MailYardModel", "clockValue", "[I", false)
  | 30 => ("MailYardModel", "clockLimit", "[Z", false)
  | 31 => ("MailYardModel", "outs", "I", false)
  | 32 => ("MailYardModel", "outValue", "[I", false)
  | 33 => ("MailYardModel", "outWho", "[I", false)
  | 34 => ("MailYardModel", "endings", "I", false)
  | 35 => ("MailYardModel", "endWho", "[I", false)
  | _ => ("MailYardModel", "endWhy", "[I", false)
def tyX7 : Nat → FieldType := fun k => match k with
  | 0 => .array .int
  | 1 => .array .int
  | 2 => .array .int
  | 3 => .int
  | 4 => .array .int
  | 5 => .array .int
  | 6 => .array .int
  | 7 => .array .int
  | 8 => .array .int
  | 9 => .array .boolean
  | 10 => .array .int
  | 11 => .array .boolean
  | 12 => .array .int
  | 13 => .array .int
  | 14 => .array .int
  | 15 => .int
  | 16 => .array .int
  | 17 => .int
  | 18 => .int
  | 19 => .array .int
  | 20 => .array .int
  | 21 => .array .int
  | 22 => .int
  | 23 => .array .int
  | 24 => .array .int
  | 25 => .int
  | 26 => .int
  | 27 => .array .int
  | 28 => .array .int
  | 29 => .array .int
  | 30 => .array .boolean
  | 31 => .int
  | 32 => .array .int
  | 33 => .array .int
  | 34 => .int
  | 35 => .array .int
  | _ => .array .int
theorem nmX7 : ∀ a, a < 37 → ∀ b, b < 37 → a ≠ b → (TX7 a).2.1 ≠ (TX7 b).2.1 := by decide +kernel
theorem tyX7_ok : ∀ k, k < 37 → parseFieldDescriptor (TX7 k).2.2.1 = some (tyX7 k) := by decide +kernel
abbrev vwCl : List vw_C := [(RX0, TX0, 15), (RX1, TX1, 3), (RX2, TX2, 2), (RX3, TX3, 4), (RX4, TX4, 3), (RX5, TX5, 5), (RX6, TX6, 11), (RX7, TX7, 37)]
theorem w_188 : (Jvm.Cond.lays "MailYard$Actor" "MailYard$Actor" "links" "I") ∈ wT := inT1 (i := 188) rfl rfl
theorem w_186 : (Jvm.Cond.lays "MailYard$Actor" "MailYard$Actor" "reason" "I") ∈ wT := inT1 (i := 186) rfl rfl
theorem w_184 : (Jvm.Cond.lays "MailYard$Actor" "MailYard$Actor" "begunAnew" "I") ∈ wT := inT1 (i := 184) rfl rfl
theorem w_182 : (Jvm.Cond.lays "MailYard$Actor" "MailYard$Actor" "done" "I") ∈ wT := inT1 (i := 182) rfl rfl
theorem w_180 : (Jvm.Cond.lays "MailYard$Actor" "MailYard$Actor" "waiting" "Z") ∈ wT := inT1 (i := 180) rfl rfl
theorem w_178 : (Jvm.Cond.lays "MailYard$Actor" "MailYard$Actor" "traps" "Z") ∈ wT := inT1 (i := 178) rfl rfl
theorem w_176 : (Jvm.Cond.lays "MailYard$Actor" "MailYard$Actor" "cell" "I") ∈ wT := inT1 (i := 176) rfl rfl
theorem w_174 : (Jvm.Cond.lays "MailYard$Actor" "MailYard$Actor" "overseer" "I") ∈ wT := inT1 (i := 174) rfl rfl
theorem w_172 : (Jvm.Cond.lays "MailYard$Actor" "MailYard$Actor" "argument" "I") ∈ wT := inT1 (i := 172) rfl rfl
theorem w_170 : (Jvm.Cond.lays "MailYard$Actor" "MailYard$Actor" "entry" "I") ∈ wT := inT1 (i := 170) rfl rfl
theorem w_168 : (Jvm.Cond.lays "MailYard$Actor" "MailYard$Actor" "id" "I") ∈ wT := inT1 (i := 168) rfl rfl
theorem w_166 : (Jvm.Cond.laysFinal "MailYard$Actor" "MailYard$Actor" "timesBegunAnew" "[J") ∈ wT := inT1 (i := 166) rfl rfl
theorem w_164 : (Jvm.Cond.laysFinal "MailYard$Actor" "MailYard$Actor" "mailbox" "LMailYard$Mailbox;") ∈ wT := inT1 (i := 164) rfl rfl
theorem w_162 : (Jvm.Cond.laysFinal "MailYard$Actor" "MailYard$Actor" "registers" "[I") ∈ wT := inT1 (i := 162) rfl rfl
theorem w_160 : (Jvm.Cond.laysFinal "MailYard$Actor" "MailYard$Actor" "slot" "I") ∈ wT := inT1 (i := 160) rfl rfl
theorem w_38 : (Jvm.Cond.laysFinal "MailYard$Code" "MailYard$Code" "seconds" "[I") ∈ wT := inT1 (i := 38) rfl rfl
theorem w_36 : (Jvm.Cond.laysFinal "MailYard$Code" "MailYard$Code" "firsts" "[I") ∈ wT := inT1 (i := 36) rfl rfl
theorem w_34 : (Jvm.Cond.laysFinal "MailYard$Code" "MailYard$Code" "ops" "[I") ∈ wT := inT1 (i := 34) rfl rfl
theorem w_56 : (Jvm.Cond.lays "MailYard$Line" "MailYard$Line" "size" "I") ∈ wT := inT1 (i := 56) rfl rfl
theorem w_54 : (Jvm.Cond.laysFinal "MailYard$Line" "MailYard$Line" "row" "[LMailYard$Actor;") ∈ wT := inT1 (i := 54) rfl rfl
theorem w_129 : (Jvm.Cond.lays "MailYard$Mailbox" "MailYard$Mailbox" "size" "I") ∈ wT := inT1 (i := 129) rfl rfl
theorem w_127 : (Jvm.Cond.lays "MailYard$Mailbox" "MailYard$Mailbox" "head" "I") ∈ wT := inT1 (i := 127) rfl rfl
theorem w_125 : (Jvm.Cond.laysFinal "MailYard$Mailbox" "MailYard$Mailbox" "senders" "[I") ∈ wT := inT1 (i := 125) rfl rfl
theorem w_123 : (Jvm.Cond.laysFinal "MailYard$Mailbox" "MailYard$Mailbox" "values" "[I") ∈ wT := inT1 (i := 123) rfl rfl
theorem w_103 : (Jvm.Cond.lays "MailYard$Outputs" "MailYard$Outputs" "size" "I") ∈ wT := inT1 (i := 103) rfl rfl
theorem w_101 : (Jvm.Cond.laysFinal "MailYard$Outputs" "MailYard$Outputs" "authors" "[I") ∈ wT := inT1 (i := 101) rfl rfl
theorem w_99 : (Jvm.Cond.laysFinal "MailYard$Outputs" "MailYard$Outputs" "values" "[I") ∈ wT := inT1 (i := 99) rfl rfl
theorem w_82 : (Jvm.Cond.lays "MailYard$Timers" "MailYard$Timers" "size" "I") ∈ wT := inT1 (i := 82) rfl rfl
theorem w_80 : (Jvm.Cond.laysFinal "MailYard$Timers" "MailYard$Timers" "ends" "[J") ∈ wT := inT1 (i := 80) rfl rfl
theorem w_78 : (Jvm.Cond.laysFinal "MailYard$Timers" "MailYard$Timers" "limits" "[Z") ∈ wT := inT1 (i := 78) rfl rfl
theorem w_76 : (Jvm.Cond.laysFinal "MailYard$Timers" "MailYard$Timers" "values" "[I") ∈ wT := inT1 (i := 76) rfl rfl
theorem w_74 : (Jvm.Cond.laysFinal "MailYard$Timers" "MailYard$Timers" "owners" "[I") ∈ wT := inT1 (i := 74) rfl rfl
theorem w_226 : (Jvm.Cond.lays "MailYard" "MailYard" "lastId" "I") ∈ wT := inT1 (i := 226) rfl rfl
theorem w_224 : (Jvm.Cond.lays "MailYard" "MailYard" "lostMessages" "I") ∈ wT := inT1 (i := 224) rfl rfl
theorem w_222 : (Jvm.Cond.lays "MailYard" "MailYard" "freeCells" "I") ∈ wT := inT1 (i := 222) rfl rfl
theorem w_220 : (Jvm.Cond.lays "MailYard" "MailYard" "now" "J") ∈ wT := inT1 (i := 220) rfl rfl
theorem w_218 : (Jvm.Cond.laysFinal "MailYard" "MailYard" "outputs" "LMailYard$Outputs;") ∈ wT := inT1 (i := 218) rfl rfl
theorem w_216 : (Jvm.Cond.laysFinal "MailYard" "MailYard" "clock" "LMailYard$Timers;") ∈ wT := inT1 (i := 216) rfl rfl
theorem w_214 : (Jvm.Cond.laysFinal "MailYard" "MailYard" "endings" "LMailYard$Line;") ∈ wT := inT1 (i := 214) rfl rfl
theorem w_212 : (Jvm.Cond.laysFinal "MailYard" "MailYard" "ready" "LMailYard$Line;") ∈ wT := inT1 (i := 212) rfl rfl
theorem w_210 : (Jvm.Cond.laysFinal "MailYard" "MailYard" "spare" "LMailYard$Line;") ∈ wT := inT1 (i := 210) rfl rfl
theorem w_208 : (Jvm.Cond.laysFinal "MailYard" "MailYard" "alive" "LMailYard$Line;") ∈ wT := inT1 (i := 208) rfl rfl
theorem w_206 : (Jvm.Cond.laysFinal "MailYard" "MailYard" "code" "LMailYard$Code;") ∈ wT := inT1 (i := 206) rfl rfl
theorem w_597 : (Jvm.Cond.lays "MailYardModel" "MailYardModel" "endWhy" "[I") ∈ wT := inT3 (i := 117) rfl rfl
theorem w_595 : (Jvm.Cond.lays "MailYardModel" "MailYardModel" "endWho" "[I") ∈ wT := inT3 (i := 115) rfl rfl
theorem w_593 : (Jvm.Cond.lays "MailYardModel" "MailYardModel" "endings" "I") ∈ wT := inT3 (i := 113) rfl rfl
theorem w_591 : (Jvm.Cond.lays "MailYardModel" "MailYardModel" "outWho" "[I") ∈ wT := inT3 (i := 111) rfl rfl
theorem w_589 : (Jvm.Cond.lays "MailYardModel" "MailYardModel" "outValue" "[I") ∈ wT := inT3 (i := 109) rfl rfl
theorem w_587 : (Jvm.Cond.lays "MailYardModel" "MailYardModel" "outs" "I") ∈ wT := inT3 (i := 107) rfl rfl
theorem w_585 : (Jvm.Cond.lays "MailYardModel" "MailYardModel" "clockLimit" "[Z") ∈ wT := inT3 (i := 105) rfl rfl
theorem w_583 : (Jvm.Cond.lays "MailYardModel" "MailYardModel" "clockValue" "[I") ∈ wT := inT3 (i := 103) rfl rfl
theorem w_581 : (Jvm.Cond.lays "MailYardModel" "MailYardModel" "clockEnd" "[I") ∈ wT := inT3 (i := 101) rfl rfl
theorem w_579 : (Jvm.Cond.lays "MailYardModel" "MailYardModel" "clockWho" "[I") ∈ wT := inT3 (i := 99) rfl rfl
theorem w_577 : (Jvm.Cond.lays "MailYardModel" "MailYardModel" "clocks" "I") ∈ wT := inT3 (i := 97) rfl rfl
theorem w_575 : (Jvm.Cond.lays "MailYardModel" "MailYardModel" "missed" "I") ∈ wT := inT3 (i := 95) rfl rfl
theorem w_573 : (Jvm.Cond.lays "MailYardModel" "MailYardModel" "linkTwo" "[I") ∈ wT := inT3 (i := 93) rfl rfl
theorem w_571 : (Jvm.Cond.lays "MailYardModel" "MailYardModel" "linkOne" "[I") ∈ wT := inT3 (i := 91) rfl rfl
theorem w_569 : (Jvm.Cond.lays "MailYardModel" "MailYardModel" "links" "I") ∈ wT := inT3 (i := 89) rfl rfl
theorem w_567 : (Jvm.Cond.lays "MailYardModel" "MailYardModel" "mailValue" "[I") ∈ wT := inT3 (i := 87) rfl rfl
theorem w_565 : (Jvm.Cond.lays "MailYardModel" "MailYardModel" "mailFrom" "[I") ∈ wT := inT3 (i := 85) rfl rfl
theorem w_563 : (Jvm.Cond.lays "MailYardModel" "MailYardModel" "mailTo" "[I") ∈ wT := inT3 (i := 83) rfl rfl
theorem w_561 : (Jvm.Cond.lays "MailYardModel" "MailYardModel" "mails" "I") ∈ wT := inT3 (i := 81) rfl rfl
theorem w_559 : (Jvm.Cond.lays "MailYardModel" "MailYardModel" "now" "I") ∈ wT := inT3 (i := 79) rfl rfl
theorem w_557 : (Jvm.Cond.lays "MailYardModel" "MailYardModel" "row" "[I") ∈ wT := inT3 (i := 77) rfl rfl
theorem w_555 : (Jvm.Cond.lays "MailYardModel" "MailYardModel" "queued" "I") ∈ wT := inT3 (i := 75) rfl rfl
theorem w_553 : (Jvm.Cond.lays "MailYardModel" "MailYardModel" "times" "[I") ∈ wT := inT3 (i := 73) rfl rfl
theorem w_551 : (Jvm.Cond.lays "MailYardModel" "MailYardModel" "begun" "[I") ∈ wT := inT3 (i := 71) rfl rfl
theorem w_549 : (Jvm.Cond.lays "MailYardModel" "MailYardModel" "turns" "[I") ∈ wT := inT3 (i := 69) rfl rfl
theorem w_547 : (Jvm.Cond.lays "MailYardModel" "MailYardModel" "waits" "[Z") ∈ wT := inT3 (i := 67) rfl rfl
theorem w_545 : (Jvm.Cond.lays "MailYardModel" "MailYardModel" "above" "[I") ∈ wT := inT3 (i := 65) rfl rfl
theorem w_543 : (Jvm.Cond.lays "MailYardModel" "MailYardModel" "traps" "[Z") ∈ wT := inT3 (i := 63) rfl rfl
theorem w_541 : (Jvm.Cond.lays "MailYardModel" "MailYardModel" "arguments" "[I") ∈ wT := inT3 (i := 61) rfl rfl
theorem w_539 : (Jvm.Cond.lays "MailYardModel" "MailYardModel" "entries" "[I") ∈ wT := inT3 (i := 59) rfl rfl
theorem w_537 : (Jvm.Cond.lays "MailYardModel" "MailYardModel" "at" "[I") ∈ wT := inT3 (i := 57) rfl rfl
theorem w_535 : (Jvm.Cond.lays "MailYardModel" "MailYardModel" "regs" "[I") ∈ wT := inT3 (i := 55) rfl rfl
theorem w_533 : (Jvm.Cond.lays "MailYardModel" "MailYardModel" "who" "[I") ∈ wT := inT3 (i := 53) rfl rfl
theorem w_531 : (Jvm.Cond.lays "MailYardModel" "MailYardModel" "made" "I") ∈ wT := inT3 (i := 51) rfl rfl
theorem w_529 : (Jvm.Cond.lays "MailYardModel" "MailYardModel" "bs" "[I") ∈ wT := inT3 (i := 49) rfl rfl
theorem w_527 : (Jvm.Cond.lays "MailYardModel" "MailYardModel" "as" "[I") ∈ wT := inT3 (i := 47) rfl rfl
theorem w_525 : (Jvm.Cond.lays "MailYardModel" "MailYardModel" "ops" "[I") ∈ wT := inT3 (i := 45) rfl rfl
theorem w_52 : (Jvm.Cond.fieldLink "MailYard$Line" (17 : Nat) "MailYard$Line" "size" "I") ∈ wT := inT1 (i := 52) rfl rfl
theorem w_50 : (Jvm.Cond.fieldLink "MailYard$Line" (11 : Nat) "MailYard$Line" "row" "[LMailYard$Actor;") ∈ wT := inT1 (i := 50) rfl rfl
theorem w_233 : (Jvm.Cond.methodLink "MailYard" (69 : Nat) ({ cls := "MailYard$Code", name := "isCell", desc := "(I)Z" } : Jvm.MethodName)) ∈ wT := inT1 (i := 233) rfl rfl
theorem w_2 : (Jvm.Cond.initialized "MailYard$Code") ∈ wT := inT1 (i := 2) rfl rfl
theorem w_234 : (Jvm.Cond.static ({ cls := "MailYard$Code", name := "isCell", desc := "(I)Z" } : Jvm.MethodName)) ∈ wT := inT1 (i := 234) rfl rfl
theorem w_236 : (Jvm.Cond.methodLink "MailYard" (73 : Nat) ({ cls := "MailYard$Code", name := "isInstruction", desc := "(III)Z" } : Jvm.MethodName)) ∈ wT := inT1 (i := 236) rfl rfl
theorem w_237 : (Jvm.Cond.static ({ cls := "MailYard$Code", name := "isInstruction", desc := "(III)Z" } : Jvm.MethodName)) ∈ wT := inT1 (i := 237) rfl rfl
theorem w_195 : (Jvm.Cond.fieldLink "MailYard" (10 : Nat) "MailYard" "code" "LMailYard$Code;") ∈ wT := inT1 (i := 195) rfl rfl
theorem w_243 : (Jvm.Cond.methodLink "MailYard" (77 : Nat) ({ cls := "MailYard$Code", name := "put", desc := "(IIII)V" } : Jvm.MethodName)) ∈ wT := inT2 (i := 3) rfl rfl
theorem w_244 : (Jvm.Cond.instanceMethod ({ cls := "MailYard$Code", name := "put", desc := "(IIII)V" } : Jvm.MethodName)) ∈ wT := inT2 (i := 4) rfl rfl
theorem w_245 : (Jvm.Cond.selects "MailYard$Code" ({ cls := "MailYard$Code", name := "put", desc := "(IIII)V" } : Jvm.MethodName) ({ cls := "MailYard$Code", name := "put", desc := "(IIII)V" } : Jvm.MethodName)) ∈ wT := inT2 (i := 5) rfl rfl
theorem w_239 : (Jvm.Cond.methodLink "MailYard$Code" (27 : Nat) ({ cls := "MailYard$Code", name := "isRegister", desc := "(I)Z" } : Jvm.MethodName)) ∈ wT := inT1 (i := 239) rfl rfl
theorem w_240 : (Jvm.Cond.static ({ cls := "MailYard$Code", name := "isRegister", desc := "(I)Z" } : Jvm.MethodName)) ∈ wT := inT2 (i := 0) rfl rfl
theorem w_242 : (Jvm.Cond.methodLink "MailYard$Code" (31 : Nat) ({ cls := "MailYard$Code", name := "isCell", desc := "(I)Z" } : Jvm.MethodName)) ∈ wT := inT2 (i := 2) rfl rfl
theorem w_28 : (Jvm.Cond.fieldLink "MailYard$Code" (9 : Nat) "MailYard$Code" "ops" "[I") ∈ wT := inT1 (i := 28) rfl rfl
theorem w_30 : (Jvm.Cond.fieldLink "MailYard$Code" (13 : Nat) "MailYard$Code" "firsts" "[I") ∈ wT := inT1 (i := 30) rfl rfl
theorem w_32 : (Jvm.Cond.fieldLink "MailYard$Code" (16 : Nat) "MailYard$Code" "seconds" "[I") ∈ wT := inT1 (i := 32) rfl rfl
theorem w_197 : (Jvm.Cond.fieldLink "MailYard" (23 : Nat) "MailYard" "spare" "LMailYard$Line;") ∈ wT := inT1 (i := 197) rfl rfl
theorem w_53 : (Jvm.Cond.fieldLink "MailYard" (81 : Nat) "MailYard$Line" "size" "I") ∈ wT := inT1 (i := 53) rfl rfl
theorem w_251 : (Jvm.Cond.methodLink "MailYard" (84 : Nat) ({ cls := "MailYard", name := "beginActor", desc := "(III)I" } : Jvm.MethodName)) ∈ wT := inT2 (i := 11) rfl rfl
theorem w_253 : (Jvm.Cond.instanceMethod ({ cls := "MailYard", name := "beginActor", desc := "(III)I" } : Jvm.MethodName)) ∈ wT := inT2 (i := 13) rfl rfl
theorem w_1 : (Jvm.Cond.initialized "MailYard") ∈ wT := inT1 (i := 1) rfl rfl
theorem w_255 : (Jvm.Cond.methodLink "MailYard" (142 : Nat) ({ cls := "MailYard$Line", name := "at", desc := "(I)LMailYard$Actor;" } : Jvm.MethodName)) ∈ wT := inT2 (i := 15) rfl rfl
theorem w_256 : (Jvm.Cond.instanceMethod ({ cls := "MailYard$Line", name := "at", desc := "(I)LMailYard$Actor;" } : Jvm.MethodName)) ∈ wT := inT2 (i := 16) rfl rfl
theorem w_257 : (Jvm.Cond.selects "MailYard$Line" ({ cls := "MailYard$Line", name := "at", desc := "(I)LMailYard$Actor;" } : Jvm.MethodName) ({ cls := "MailYard$Line", name := "at", desc := "(I)LMailYard$Actor;" } : Jvm.MethodName)) ∈ wT := inT2 (i := 17) rfl rfl
theorem w_4 : (Jvm.Cond.initialized "MailYard$Line") ∈ wT := inT1 (i := 4) rfl rfl
theorem w_205 : (Jvm.Cond.fieldLink "MailYard" (57 : Nat) "MailYard" "lastId" "I") ∈ wT := inT1 (i := 205) rfl rfl
theorem w_259 : (Jvm.Cond.methodLink "MailYard" (222 : Nat) ({ cls := "MailYard$Actor", name := "reset", desc := "(IIII)V" } : Jvm.MethodName)) ∈ wT := inT2 (i := 19) rfl rfl
theorem w_260 : (Jvm.Cond.instanceMethod ({ cls := "MailYard$Actor", name := "reset", desc := "(IIII)V" } : Jvm.MethodName)) ∈ wT := inT2 (i := 20) rfl rfl
theorem w_261 : (Jvm.Cond.selects "MailYard$Actor" ({ cls := "MailYard$Actor", name := "reset", desc := "(IIII)V" } : Jvm.MethodName) ({ cls := "MailYard$Actor", name := "reset", desc := "(IIII)V" } : Jvm.MethodName)) ∈ wT := inT2 (i := 21) rfl rfl
theorem w_7 : (Jvm.Cond.initialized "MailYard$Actor") ∈ wT := inT1 (i := 7) rfl rfl
theorem w_268 : (Jvm.Cond.methodLink "MailYard" (168 : Nat) ({ cls := "MailYard$Line", name := "remove", desc := "(LMailYard$Actor;)V" } : Jvm.MethodName)) ∈ wT := inT2 (i := 28) rfl rfl
theorem w_269 : (Jvm.Cond.instanceMethod ({ cls := "MailYard$Line", name := "remove", desc := "(LMailYard$Actor;)V" } : Jvm.MethodName)) ∈ wT := inT2 (i := 29) rfl rfl
theorem w_270 : (Jvm.Cond.selects "MailYard$Line" ({ cls := "MailYard$Line", name := "remove", desc := "(LMailYard$Actor;)V" } : Jvm.MethodName) ({ cls := "MailYard$Line", name := "remove", desc := "(LMailYard$Actor;)V" } : Jvm.MethodName)) ∈ wT := inT2 (i := 30) rfl rfl
theorem w_196 : (Jvm.Cond.fieldLink "MailYard" (19 : Nat) "MailYard" "alive" "LMailYard$Line;") ∈ wT := inT1 (i := 196) rfl rfl
theorem w_191 : (Jvm.Cond.methodLink "MailYard" (65 : Nat) ({ cls := "MailYard$Line", name := "add", desc := "(LMailYard$Actor;)V" } : Jvm.MethodName)) ∈ wT := inT1 (i := 191) rfl rfl
theorem w_192 : (Jvm.Cond.instanceMethod ({ cls := "MailYard$Line", name := "add", desc := "(LMailYard$Actor;)V" } : Jvm.MethodName)) ∈ wT := inT1 (i := 192) rfl rfl
theorem w_193 : (Jvm.Cond.selects "MailYard$Line" ({ cls := "MailYard$Line", name := "add", desc := "(LMailYard$Actor;)V" } : Jvm.MethodName) ({ cls := "MailYard$Line", name := "add", desc := "(LMailYard$Actor;)V" } : Jvm.MethodName)) ∈ wT := inT1 (i := 193) rfl rfl
theorem w_272 : (Jvm.Cond.methodLink "MailYard" (171 : Nat) ({ cls := "MailYard", name := "makeReady", desc := "(LMailYard$Actor;)V" } : Jvm.MethodName)) ∈ wT := inT2 (i := 32) rfl rfl
theorem w_274 : (Jvm.Cond.instanceMethod ({ cls := "MailYard", name := "makeReady", desc := "(LMailYard$Actor;)V" } : Jvm.MethodName)) ∈ wT := inT2 (i := 34) rfl rfl
theorem w_138 : (Jvm.Cond.fieldLink "MailYard$Actor" (28 : Nat) "MailYard$Actor" "id" "I") ∈ wT := inT1 (i := 138) rfl rfl
theorem w_141 : (Jvm.Cond.fieldLink "MailYard$Actor" (31 : Nat) "MailYard$Actor" "entry" "I") ∈ wT := inT1 (i := 141) rfl rfl
theorem w_143 : (Jvm.Cond.fieldLink "MailYard$Actor" (34 : Nat) "MailYard$Actor" "argument" "I") ∈ wT := inT1 (i := 143) rfl rfl
theorem w_145 : (Jvm.Cond.fieldLink "MailYard$Actor" (37 : Nat) "MailYard$Actor" "overseer" "I") ∈ wT := inT1 (i := 145) rfl rfl
theorem w_147 : (Jvm.Cond.fieldLink "MailYard$Actor" (40 : Nat) "MailYard$Actor" "cell" "I") ∈ wT := inT1 (i := 147) rfl rfl
theorem w_149 : (Jvm.Cond.fieldLink "MailYard$Actor" (43 : Nat) "MailYard$Actor" "traps" "Z") ∈ wT := inT1 (i := 149) rfl rfl
theorem w_151 : (Jvm.Cond.fieldLink "MailYard$Actor" (47 : Nat) "MailYard$Actor" "waiting" "Z") ∈ wT := inT1 (i := 151) rfl rfl
theorem w_153 : (Jvm.Cond.fieldLink "MailYard$Actor" (50 : Nat) "MailYard$Actor" "done" "I") ∈ wT := inT1 (i := 153) rfl rfl
theorem w_155 : (Jvm.Cond.fieldLink "MailYard$Actor" (53 : Nat) "MailYard$Actor" "begunAnew" "I") ∈ wT := inT1 (i := 155) rfl rfl
theorem w_157 : (Jvm.Cond.fieldLink "MailYard$Actor" (56 : Nat) "MailYard$Actor" "reason" "I") ∈ wT := inT1 (i := 157) rfl rfl
theorem w_159 : (Jvm.Cond.fieldLink "MailYard$Actor" (59 : Nat) "MailYard$Actor" "links" "I") ∈ wT := inT1 (i := 159) rfl rfl
theorem w_133 : (Jvm.Cond.fieldLink "MailYard$Actor" (9 : Nat) "MailYard$Actor" "registers" "[I") ∈ wT := inT1 (i := 133) rfl rfl
theorem w_263 : (Jvm.Cond.methodLink "MailYard$Actor" (62 : Nat) ({ cls := "java/util/Arrays", name := "fill", desc := "([II)V" } : Jvm.MethodName)) ∈ wT := inT2 (i := 23) rfl rfl
theorem w_3 : (Jvm.Cond.initialized "java/util/Arrays") ∈ wT := inT1 (i := 3) rfl rfl
theorem w_26 : (Jvm.Cond.static ({ cls := "java/util/Arrays", name := "fill", desc := "([II)V" } : Jvm.MethodName)) ∈ wT := inT1 (i := 26) rfl rfl
theorem w_137 : (Jvm.Cond.fieldLink "MailYard$Actor" (20 : Nat) "MailYard$Actor" "timesBegunAnew" "[J") ∈ wT := inT1 (i := 137) rfl rfl
theorem w_264 : (Jvm.Cond.constantLong "MailYard$Actor" (68 : Nat) (-10 : Int64)) ∈ wT := inT2 (i := 24) rfl rfl
theorem w_265 : (Jvm.Cond.methodLink "MailYard$Actor" (70 : Nat) ({ cls := "java/util/Arrays", name := "fill", desc := "([JJ)V" } : Jvm.MethodName)) ∈ wT := inT2 (i := 25) rfl rfl
theorem w_266 : (Jvm.Cond.static ({ cls := "java/util/Arrays", name := "fill", desc := "([JJ)V" } : Jvm.MethodName)) ∈ wT := inT2 (i := 26) rfl rfl
theorem w_152 : (Jvm.Cond.fieldLink "MailYard" (107 : Nat) "MailYard$Actor" "waiting" "Z") ∈ wT := inT1 (i := 152) rfl rfl
theorem w_154 : (Jvm.Cond.fieldLink "MailYard" (159 : Nat) "MailYard$Actor" "done" "I") ∈ wT := inT1 (i := 154) rfl rfl
theorem w_198 : (Jvm.Cond.fieldLink "MailYard" (26 : Nat) "MailYard" "ready" "LMailYard$Line;") ∈ wT := inT1 (i := 198) rfl rfl
theorem w_280 : (Jvm.Cond.methodLink "MailYard" (88 : Nat) ({ cls := "MailYard$Line", name := "find", desc := "(I)LMailYard$Actor;" } : Jvm.MethodName)) ∈ wT := inT2 (i := 40) rfl rfl
theorem w_281 : (Jvm.Cond.instanceMethod ({ cls := "MailYard$Line", name := "find", desc := "(I)LMailYard$Actor;" } : Jvm.MethodName)) ∈ wT := inT2 (i := 41) rfl rfl
theorem w_282 : (Jvm.Cond.selects "MailYard$Line" ({ cls := "MailYard$Line", name := "find", desc := "(I)LMailYard$Actor;" } : Jvm.MethodName) ({ cls := "MailYard$Line", name := "find", desc := "(I)LMailYard$Actor;" } : Jvm.MethodName)) ∈ wT := inT2 (i := 42) rfl rfl
theorem w_203 : (Jvm.Cond.fieldLink "MailYard" (50 : Nat) "MailYard" "freeCells" "I") ∈ wT := inT1 (i := 203) rfl rfl
theorem w_284 : (Jvm.Cond.methodLink "MailYard" (92 : Nat) ({ cls := "MailYard", name := "deliver", desc := "(LMailYard$Actor;II)V" } : Jvm.MethodName)) ∈ wT := inT2 (i := 44) rfl rfl
theorem w_286 : (Jvm.Cond.instanceMethod ({ cls := "MailYard", name := "deliver", desc := "(LMailYard$Actor;II)V" } : Jvm.MethodName)) ∈ wT := inT2 (i := 46) rfl rfl
theorem w_139 : (Jvm.Cond.fieldLink "MailYard$Line" (21 : Nat) "MailYard$Actor" "id" "I") ∈ wT := inT1 (i := 139) rfl rfl
theorem w_204 : (Jvm.Cond.fieldLink "MailYard" (54 : Nat) "MailYard" "lostMessages" "I") ∈ wT := inT1 (i := 204) rfl rfl
theorem w_136 : (Jvm.Cond.fieldLink "MailYard" (121 : Nat) "MailYard$Actor" "mailbox" "LMailYard$Mailbox;") ∈ wT := inT1 (i := 136) rfl rfl
theorem w_288 : (Jvm.Cond.methodLink "MailYard" (225 : Nat) ({ cls := "MailYard$Mailbox", name := "add", desc := "(II)V" } : Jvm.MethodName)) ∈ wT := inT2 (i := 48) rfl rfl
theorem w_289 : (Jvm.Cond.instanceMethod ({ cls := "MailYard$Mailbox", name := "add", desc := "(II)V" } : Jvm.MethodName)) ∈ wT := inT2 (i := 49) rfl rfl
theorem w_290 : (Jvm.Cond.selects "MailYard$Mailbox" ({ cls := "MailYard$Mailbox", name := "add", desc := "(II)V" } : Jvm.MethodName) ({ cls := "MailYard$Mailbox", name := "add", desc := "(II)V" } : Jvm.MethodName)) ∈ wT := inT2 (i := 50) rfl rfl
theorem w_8 : (Jvm.Cond.initialized "MailYard$Mailbox") ∈ wT := inT1 (i := 8) rfl rfl
theorem w_200 : (Jvm.Cond.fieldLink "MailYard" (35 : Nat) "MailYard" "clock" "LMailYard$Timers;") ∈ wT := inT1 (i := 200) rfl rfl
theorem w_140 : (Jvm.Cond.fieldLink "MailYard" (145 : Nat) "MailYard$Actor" "id" "I") ∈ wT := inT1 (i := 140) rfl rfl
theorem w_292 : (Jvm.Cond.methodLink "MailYard" (226 : Nat) ({ cls := "MailYard$Timers", name := "limitOf", desc := "(I)I" } : Jvm.MethodName)) ∈ wT := inT2 (i := 52) rfl rfl
theorem w_293 : (Jvm.Cond.instanceMethod ({ cls := "MailYard$Timers", name := "limitOf", desc := "(I)I" } : Jvm.MethodName)) ∈ wT := inT2 (i := 53) rfl rfl
theorem w_294 : (Jvm.Cond.selects "MailYard$Timers" ({ cls := "MailYard$Timers", name := "limitOf", desc := "(I)I" } : Jvm.MethodName) ({ cls := "MailYard$Timers", name := "limitOf", desc := "(I)I" } : Jvm.MethodName)) ∈ wT := inT2 (i := 54) rfl rfl
theorem w_5 : (Jvm.Cond.initialized "MailYard$Timers") ∈ wT := inT1 (i := 5) rfl rfl
theorem w_296 : (Jvm.Cond.methodLink "MailYard" (229 : Nat) ({ cls := "MailYard$Timers", name := "removeAt", desc := "(I)V" } : Jvm.MethodName)) ∈ wT := inT2 (i := 56) rfl rfl
theorem w_297 : (Jvm.Cond.instanceMethod ({ cls := "MailYard$Timers", name := "removeAt", desc := "(I)V" } : Jvm.MethodName)) ∈ wT := inT2 (i := 57) rfl rfl
theorem w_298 : (Jvm.Cond.selects "MailYard$Timers" ({ cls := "MailYard$Timers", name := "removeAt", desc := "(I)V" } : Jvm.MethodName) ({ cls := "MailYard$Timers", name := "removeAt", desc := "(I)V" } : Jvm.MethodName)) ∈ wT := inT2 (i := 58) rfl rfl
theorem w_121 : (Jvm.Cond.fieldLink "MailYard$Mailbox" (22 : Nat) "MailYard$Mailbox" "size" "I") ∈ wT := inT1 (i := 121) rfl rfl
theorem w_120 : (Jvm.Cond.fieldLink "MailYard$Mailbox" (18 : Nat) "MailYard$Mailbox" "head" "I") ∈ wT := inT1 (i := 120) rfl rfl
theorem w_118 : (Jvm.Cond.fieldLink "MailYard$Mailbox" (9 : Nat) "MailYard$Mailbox" "values" "[I") ∈ wT := inT1 (i := 118) rfl rfl
theorem w_119 : (Jvm.Cond.fieldLink "MailYard$Mailbox" (15 : Nat) "MailYard$Mailbox" "senders" "[I") ∈ wT := inT1 (i := 119) rfl rfl
theorem w_72 : (Jvm.Cond.fieldLink "MailYard$Timers" (24 : Nat) "MailYard$Timers" "size" "I") ∈ wT := inT1 (i := 72) rfl rfl
theorem w_65 : (Jvm.Cond.fieldLink "MailYard$Timers" (9 : Nat) "MailYard$Timers" "owners" "[I") ∈ wT := inT1 (i := 65) rfl rfl
theorem w_69 : (Jvm.Cond.fieldLink "MailYard$Timers" (16 : Nat) "MailYard$Timers" "limits" "[Z") ∈ wT := inT1 (i := 69) rfl rfl
theorem w_71 : (Jvm.Cond.fieldLink "MailYard$Timers" (20 : Nat) "MailYard$Timers" "ends" "[J") ∈ wT := inT1 (i := 71) rfl rfl
theorem w_67 : (Jvm.Cond.fieldLink "MailYard$Timers" (13 : Nat) "MailYard$Timers" "values" "[I") ∈ wT := inT1 (i := 67) rfl rfl
theorem w_304 : (Jvm.Cond.methodLink "MailYard" (96 : Nat) ({ cls := "MailYard", name := "advance", desc := "()I" } : Jvm.MethodName)) ∈ wT := inT2 (i := 64) rfl rfl
theorem w_306 : (Jvm.Cond.instanceMethod ({ cls := "MailYard", name := "advance", desc := "()I" } : Jvm.MethodName)) ∈ wT := inT2 (i := 66) rfl rfl
theorem w_308 : (Jvm.Cond.methodLink "MailYard" (162 : Nat) ({ cls := "MailYard", name := "perform", desc := "(LMailYard$Actor;)V" } : Jvm.MethodName)) ∈ wT := inT2 (i := 68) rfl rfl
theorem w_310 : (Jvm.Cond.instanceMethod ({ cls := "MailYard", name := "perform", desc := "(LMailYard$Actor;)V" } : Jvm.MethodName)) ∈ wT := inT2 (i := 70) rfl rfl
theorem w_199 : (Jvm.Cond.fieldLink "MailYard" (29 : Nat) "MailYard" "endings" "LMailYard$Line;") ∈ wT := inT1 (i := 199) rfl rfl
theorem w_368 : (Jvm.Cond.methodLink "MailYard" (165 : Nat) ({ cls := "MailYard", name := "settle", desc := "(LMailYard$Actor;)V" } : Jvm.MethodName)) ∈ wT := inT2 (i := 128) rfl rfl
theorem w_370 : (Jvm.Cond.instanceMethod ({ cls := "MailYard", name := "settle", desc := "(LMailYard$Actor;)V" } : Jvm.MethodName)) ∈ wT := inT2 (i := 130) rfl rfl
theorem w_148 : (Jvm.Cond.fieldLink "MailYard" (118 : Nat) "MailYard$Actor" "cell" "I") ∈ wT := inT1 (i := 148) rfl rfl
theorem w_312 : (Jvm.Cond.methodLink "MailYard" (174 : Nat) ({ cls := "MailYard$Code", name := "isFilled", desc := "(I)Z" } : Jvm.MethodName)) ∈ wT := inT2 (i := 72) rfl rfl
theorem w_313 : (Jvm.Cond.instanceMethod ({ cls := "MailYard$Code", name := "isFilled", desc := "(I)Z" } : Jvm.MethodName)) ∈ wT := inT2 (i := 73) rfl rfl
theorem w_314 : (Jvm.Cond.selects "MailYard$Code" ({ cls := "MailYard$Code", name := "isFilled", desc := "(I)Z" } : Jvm.MethodName) ({ cls := "MailYard$Code", name := "isFilled", desc := "(I)Z" } : Jvm.MethodName)) ∈ wT := inT2 (i := 74) rfl rfl
theorem w_316 : (Jvm.Cond.methodLink "MailYard" (177 : Nat) ({ cls := "MailYard", name := "comeToEnd", desc := "(LMailYard$Actor;I)V" } : Jvm.MethodName)) ∈ wT := inT2 (i := 76) rfl rfl
theorem w_318 : (Jvm.Cond.instanceMethod ({ cls := "MailYard", name := "comeToEnd", desc := "(LMailYard$Actor;I)V" } : Jvm.MethodName)) ∈ wT := inT2 (i := 78) rfl rfl
theorem w_134 : (Jvm.Cond.fieldLink "MailYard" (114 : Nat) "MailYard$Actor" "registers" "[I") ∈ wT := inT1 (i := 134) rfl rfl
theorem w_31 : (Jvm.Cond.fieldLink "MailYard" (181 : Nat) "MailYard$Code" "firsts" "[I") ∈ wT := inT1 (i := 31) rfl rfl
theorem w_33 : (Jvm.Cond.fieldLink "MailYard" (184 : Nat) "MailYard$Code" "seconds" "[I") ∈ wT := inT1 (i := 33) rfl rfl
theorem w_29 : (Jvm.Cond.fieldLink "MailYard" (187 : Nat) "MailYard$Code" "ops" "[I") ∈ wT := inT1 (i := 29) rfl rfl
theorem w_324 : (Jvm.Cond.methodLink "MailYard" (190 : Nat) ({ cls := "MailYard", name := "sendTo", desc := "(III)V" } : Jvm.MethodName)) ∈ wT := inT2 (i := 84) rfl rfl
theorem w_326 : (Jvm.Cond.instanceMethod ({ cls := "MailYard", name := "sendTo", desc := "(III)V" } : Jvm.MethodName)) ∈ wT := inT2 (i := 86) rfl rfl
theorem w_328 : (Jvm.Cond.methodLink "MailYard" (194 : Nat) ({ cls := "MailYard", name := "takeMessage", desc := "(LMailYard$Actor;II)V" } : Jvm.MethodName)) ∈ wT := inT2 (i := 88) rfl rfl
theorem w_330 : (Jvm.Cond.instanceMethod ({ cls := "MailYard", name := "takeMessage", desc := "(LMailYard$Actor;II)V" } : Jvm.MethodName)) ∈ wT := inT2 (i := 90) rfl rfl
theorem w_348 : (Jvm.Cond.methodLink "MailYard" (197 : Nat) ({ cls := "MailYard", name := "makeLink", desc := "(LMailYard$Actor;I)V" } : Jvm.MethodName)) ∈ wT := inT2 (i := 108) rfl rfl
theorem w_350 : (Jvm.Cond.instanceMethod ({ cls := "MailYard", name := "makeLink", desc := "(LMailYard$Actor;I)V" } : Jvm.MethodName)) ∈ wT := inT2 (i := 110) rfl rfl
theorem w_150 : (Jvm.Cond.fieldLink "MailYard" (200 : Nat) "MailYard$Actor" "traps" "Z") ∈ wT := inT1 (i := 150) rfl rfl
theorem w_201 : (Jvm.Cond.fieldLink "MailYard" (42 : Nat) "MailYard" "outputs" "LMailYard$Outputs;") ∈ wT := inT1 (i := 201) rfl rfl
theorem w_364 : (Jvm.Cond.methodLink "MailYard" (203 : Nat) ({ cls := "MailYard$Outputs", name := "add", desc := "(II)V" } : Jvm.MethodName)) ∈ wT := inT2 (i := 124) rfl rfl
theorem w_365 : (Jvm.Cond.instanceMethod ({ cls := "MailYard$Outputs", name := "add", desc := "(II)V" } : Jvm.MethodName)) ∈ wT := inT2 (i := 125) rfl rfl
theorem w_366 : (Jvm.Cond.selects "MailYard$Outputs" ({ cls := "MailYard$Outputs", name := "add", desc := "(II)V" } : Jvm.MethodName) ({ cls := "MailYard$Outputs", name := "add", desc := "(II)V" } : Jvm.MethodName)) ∈ wT := inT2 (i := 126) rfl rfl
theorem w_6 : (Jvm.Cond.initialized "MailYard$Outputs") ∈ wT := inT1 (i := 6) rfl rfl
theorem w_202 : (Jvm.Cond.fieldLink "MailYard" (46 : Nat) "MailYard" "now" "J") ∈ wT := inT1 (i := 202) rfl rfl
theorem w_344 : (Jvm.Cond.methodLink "MailYard" (206 : Nat) ({ cls := "MailYard$Timers", name := "add", desc := "(IJIZ)V" } : Jvm.MethodName)) ∈ wT := inT2 (i := 104) rfl rfl
theorem w_345 : (Jvm.Cond.instanceMethod ({ cls := "MailYard$Timers", name := "add", desc := "(IJIZ)V" } : Jvm.MethodName)) ∈ wT := inT2 (i := 105) rfl rfl
theorem w_346 : (Jvm.Cond.selects "MailYard$Timers" ({ cls := "MailYard$Timers", name := "add", desc := "(IJIZ)V" } : Jvm.MethodName) ({ cls := "MailYard$Timers", name := "add", desc := "(IJIZ)V" } : Jvm.MethodName)) ∈ wT := inT2 (i := 106) rfl rfl
theorem w_320 : (Jvm.Cond.methodLink "MailYard" (240 : Nat) ({ cls := "MailYard$Line", name := "contains", desc := "(LMailYard$Actor;)Z" } : Jvm.MethodName)) ∈ wT := inT2 (i := 80) rfl rfl
theorem w_321 : (Jvm.Cond.instanceMethod ({ cls := "MailYard$Line", name := "contains", desc := "(LMailYard$Actor;)Z" } : Jvm.MethodName)) ∈ wT := inT2 (i := 81) rfl rfl
theorem w_322 : (Jvm.Cond.selects "MailYard$Line" ({ cls := "MailYard$Line", name := "contains", desc := "(LMailYard$Actor;)Z" } : Jvm.MethodName) ({ cls := "MailYard$Line", name := "contains", desc := "(LMailYard$Actor;)Z" } : Jvm.MethodName)) ∈ wT := inT2 (i := 82) rfl rfl
theorem w_158 : (Jvm.Cond.fieldLink "MailYard" (243 : Nat) "MailYard$Actor" "reason" "I") ∈ wT := inT1 (i := 158) rfl rfl
theorem w_122 : (Jvm.Cond.fieldLink "MailYard" (125 : Nat) "MailYard$Mailbox" "size" "I") ∈ wT := inT1 (i := 122) rfl rfl
theorem w_332 : (Jvm.Cond.methodLink "MailYard" (209 : Nat) ({ cls := "MailYard$Mailbox", name := "firstSender", desc := "()I" } : Jvm.MethodName)) ∈ wT := inT2 (i := 92) rfl rfl
theorem w_333 : (Jvm.Cond.instanceMethod ({ cls := "MailYard$Mailbox", name := "firstSender", desc := "()I" } : Jvm.MethodName)) ∈ wT := inT2 (i := 93) rfl rfl
theorem w_334 : (Jvm.Cond.selects "MailYard$Mailbox" ({ cls := "MailYard$Mailbox", name := "firstSender", desc := "()I" } : Jvm.MethodName) ({ cls := "MailYard$Mailbox", name := "firstSender", desc := "()I" } : Jvm.MethodName)) ∈ wT := inT2 (i := 94) rfl rfl
theorem w_336 : (Jvm.Cond.methodLink "MailYard" (128 : Nat) ({ cls := "MailYard$Mailbox", name := "valueAt", desc := "(I)I" } : Jvm.MethodName)) ∈ wT := inT2 (i := 96) rfl rfl
theorem w_337 : (Jvm.Cond.instanceMethod ({ cls := "MailYard$Mailbox", name := "valueAt", desc := "(I)I" } : Jvm.MethodName)) ∈ wT := inT2 (i := 97) rfl rfl
theorem w_338 : (Jvm.Cond.selects "MailYard$Mailbox" ({ cls := "MailYard$Mailbox", name := "valueAt", desc := "(I)I" } : Jvm.MethodName) ({ cls := "MailYard$Mailbox", name := "valueAt", desc := "(I)I" } : Jvm.MethodName)) ∈ wT := inT2 (i := 98) rfl rfl
theorem w_340 : (Jvm.Cond.methodLink "MailYard" (212 : Nat) ({ cls := "MailYard$Mailbox", name := "removeFirst", desc := "()V" } : Jvm.MethodName)) ∈ wT := inT2 (i := 100) rfl rfl
theorem w_341 : (Jvm.Cond.instanceMethod ({ cls := "MailYard$Mailbox", name := "removeFirst", desc := "()V" } : Jvm.MethodName)) ∈ wT := inT2 (i := 101) rfl rfl
theorem w_342 : (Jvm.Cond.selects "MailYard$Mailbox" ({ cls := "MailYard$Mailbox", name := "removeFirst", desc := "()V" } : Jvm.MethodName) ({ cls := "MailYard$Mailbox", name := "removeFirst", desc := "()V" } : Jvm.MethodName)) ∈ wT := inT2 (i := 102) rfl rfl
theorem w_352 : (Jvm.Cond.methodLink "MailYard" (215 : Nat) ({ cls := "MailYard", name := "exitReaches", desc := "(LMailYard$Actor;II)V" } : Jvm.MethodName)) ∈ wT := inT2 (i := 112) rfl rfl
theorem w_354 : (Jvm.Cond.instanceMethod ({ cls := "MailYard", name := "exitReaches", desc := "(LMailYard$Actor;II)V" } : Jvm.MethodName)) ∈ wT := inT2 (i := 114) rfl rfl
theorem w_356 : (Jvm.Cond.methodLink "MailYard" (132 : Nat) ({ cls := "MailYard$Actor", name := "isLinkedWith", desc := "(LMailYard$Actor;)Z" } : Jvm.MethodName)) ∈ wT := inT2 (i := 116) rfl rfl
theorem w_357 : (Jvm.Cond.instanceMethod ({ cls := "MailYard$Actor", name := "isLinkedWith", desc := "(LMailYard$Actor;)Z" } : Jvm.MethodName)) ∈ wT := inT2 (i := 117) rfl rfl
theorem w_358 : (Jvm.Cond.selects "MailYard$Actor" ({ cls := "MailYard$Actor", name := "isLinkedWith", desc := "(LMailYard$Actor;)Z" } : Jvm.MethodName) ({ cls := "MailYard$Actor", name := "isLinkedWith", desc := "(LMailYard$Actor;)Z" } : Jvm.MethodName)) ∈ wT := inT2 (i := 118) rfl rfl
theorem w_360 : (Jvm.Cond.methodLink "MailYard" (218 : Nat) ({ cls := "MailYard$Actor", name := "setLink", desc := "(LMailYard$Actor;Z)V" } : Jvm.MethodName)) ∈ wT := inT2 (i := 120) rfl rfl
theorem w_361 : (Jvm.Cond.instanceMethod ({ cls := "MailYard$Actor", name := "setLink", desc := "(LMailYard$Actor;Z)V" } : Jvm.MethodName)) ∈ wT := inT2 (i := 121) rfl rfl
theorem w_362 : (Jvm.Cond.selects "MailYard$Actor" ({ cls := "MailYard$Actor", name := "setLink", desc := "(LMailYard$Actor;Z)V" } : Jvm.MethodName) ({ cls := "MailYard$Actor", name := "setLink", desc := "(LMailYard$Actor;Z)V" } : Jvm.MethodName)) ∈ wT := inT2 (i := 122) rfl rfl
theorem w_132 : (Jvm.Cond.fieldLink "MailYard$Actor" (24 : Nat) "MailYard$Actor" "slot" "I") ∈ wT := inT1 (i := 132) rfl rfl
theorem w_97 : (Jvm.Cond.fieldLink "MailYard$Outputs" (16 : Nat) "MailYard$Outputs" "size" "I") ∈ wT := inT1 (i := 97) rfl rfl
theorem w_93 : (Jvm.Cond.fieldLink "MailYard$Outputs" (9 : Nat) "MailYard$Outputs" "values" "[I") ∈ wT := inT1 (i := 93) rfl rfl
theorem w_95 : (Jvm.Cond.fieldLink "MailYard$Outputs" (13 : Nat) "MailYard$Outputs" "authors" "[I") ∈ wT := inT1 (i := 95) rfl rfl
theorem w_372 : (Jvm.Cond.methodLink "MailYard" (246 : Nat) ({ cls := "MailYard", name := "bury", desc := "(LMailYard$Actor;)V" } : Jvm.MethodName)) ∈ wT := inT2 (i := 132) rfl rfl
theorem w_374 : (Jvm.Cond.instanceMethod ({ cls := "MailYard", name := "bury", desc := "(LMailYard$Actor;)V" } : Jvm.MethodName)) ∈ wT := inT2 (i := 134) rfl rfl
theorem w_51 : (Jvm.Cond.fieldLink "MailYard" (249 : Nat) "MailYard$Line" "row" "[LMailYard$Actor;") ∈ wT := inT1 (i := 51) rfl rfl
theorem w_385 : (Jvm.Cond.methodLink "MailYard" (253 : Nat) ({ cls := "MailYard", name := "dropLink", desc := "(LMailYard$Actor;LMailYard$Actor;)V" } : Jvm.MethodName)) ∈ wT := inT2 (i := 145) rfl rfl
theorem w_387 : (Jvm.Cond.instanceMethod ({ cls := "MailYard", name := "dropLink", desc := "(LMailYard$Actor;LMailYard$Actor;)V" } : Jvm.MethodName)) ∈ wT := inT2 (i := 147) rfl rfl
theorem w_146 : (Jvm.Cond.fieldLink "MailYard" (136 : Nat) "MailYard$Actor" "overseer" "I") ∈ wT := inT1 (i := 146) rfl rfl
theorem w_389 : (Jvm.Cond.methodLink "MailYard" (257 : Nat) ({ cls := "MailYard", name := "tellOverseer", desc := "(LMailYard$Actor;)V" } : Jvm.MethodName)) ∈ wT := inT2 (i := 149) rfl rfl
theorem w_391 : (Jvm.Cond.instanceMethod ({ cls := "MailYard", name := "tellOverseer", desc := "(LMailYard$Actor;)V" } : Jvm.MethodName)) ∈ wT := inT2 (i := 151) rfl rfl
theorem w_376 : (Jvm.Cond.methodLink "MailYard" (260 : Nat) ({ cls := "MailYard$Timers", name := "removeAllOf", desc := "(I)V" } : Jvm.MethodName)) ∈ wT := inT2 (i := 136) rfl rfl
theorem w_377 : (Jvm.Cond.instanceMethod ({ cls := "MailYard$Timers", name := "removeAllOf", desc := "(I)V" } : Jvm.MethodName)) ∈ wT := inT2 (i := 137) rfl rfl
theorem w_378 : (Jvm.Cond.selects "MailYard$Timers" ({ cls := "MailYard$Timers", name := "removeAllOf", desc := "(I)V" } : Jvm.MethodName) ({ cls := "MailYard$Timers", name := "removeAllOf", desc := "(I)V" } : Jvm.MethodName)) ∈ wT := inT2 (i := 138) rfl rfl
theorem w_381 : (Jvm.Cond.methodLink "MailYard" (263 : Nat) ({ cls := "MailYard$Mailbox", name := "clear", desc := "()V" } : Jvm.MethodName)) ∈ wT := inT2 (i := 141) rfl rfl
theorem w_382 : (Jvm.Cond.instanceMethod ({ cls := "MailYard$Mailbox", name := "clear", desc := "()V" } : Jvm.MethodName)) ∈ wT := inT2 (i := 142) rfl rfl
theorem w_383 : (Jvm.Cond.selects "MailYard$Mailbox" ({ cls := "MailYard$Mailbox", name := "clear", desc := "()V" } : Jvm.MethodName) ({ cls := "MailYard$Mailbox", name := "clear", desc := "()V" } : Jvm.MethodName)) ∈ wT := inT2 (i := 143) rfl rfl
theorem w_380 : (Jvm.Cond.methodLink "MailYard$Timers" (28 : Nat) ({ cls := "MailYard$Timers", name := "removeAt", desc := "(I)V" } : Jvm.MethodName)) ∈ wT := inT2 (i := 140) rfl rfl
theorem w_393 : (Jvm.Cond.methodLink "MailYard" (266 : Nat) ({ cls := "MailYard$Actor", name := "mayBeginAnew", desc := "(J)Z" } : Jvm.MethodName)) ∈ wT := inT2 (i := 153) rfl rfl
theorem w_394 : (Jvm.Cond.instanceMethod ({ cls := "MailYard$Actor", name := "mayBeginAnew", desc := "(J)Z" } : Jvm.MethodName)) ∈ wT := inT2 (i := 154) rfl rfl
theorem w_395 : (Jvm.Cond.selects "MailYard$Actor" ({ cls := "MailYard$Actor", name := "mayBeginAnew", desc := "(J)Z" } : Jvm.MethodName) ({ cls := "MailYard$Actor", name := "mayBeginAnew", desc := "(J)Z" } : Jvm.MethodName)) ∈ wT := inT2 (i := 155) rfl rfl
theorem w_398 : (Jvm.Cond.methodLink "MailYard" (270 : Nat) ({ cls := "MailYard$Actor", name := "noteBegunAnew", desc := "(J)V" } : Jvm.MethodName)) ∈ wT := inT2 (i := 158) rfl rfl
theorem w_399 : (Jvm.Cond.instanceMethod ({ cls := "MailYard$Actor", name := "noteBegunAnew", desc := "(J)V" } : Jvm.MethodName)) ∈ wT := inT2 (i := 159) rfl rfl
theorem w_400 : (Jvm.Cond.selects "MailYard$Actor" ({ cls := "MailYard$Actor", name := "noteBegunAnew", desc := "(J)V" } : Jvm.MethodName) ({ cls := "MailYard$Actor", name := "noteBegunAnew", desc := "(J)V" } : Jvm.MethodName)) ∈ wT := inT2 (i := 160) rfl rfl
theorem w_142 : (Jvm.Cond.fieldLink "MailYard" (274 : Nat) "MailYard$Actor" "entry" "I") ∈ wT := inT1 (i := 142) rfl rfl
theorem w_144 : (Jvm.Cond.fieldLink "MailYard" (277 : Nat) "MailYard$Actor" "argument" "I") ∈ wT := inT1 (i := 144) rfl rfl
theorem w_397 : (Jvm.Cond.constantLong "MailYard$Actor" (73 : Nat) (10 : Int64)) ∈ wT := inT2 (i := 157) rfl rfl
theorem w_402 : (Jvm.Cond.methodLink "MailYard$Actor" (75 : Nat) ({ cls := "java/lang/System", name := "arraycopy", desc := "(Ljava/lang/Object;ILjava/lang/Object;II)V" } : Jvm.MethodName)) ∈ wT := inT2 (i := 162) rfl rfl
theorem w_404 : (Jvm.Cond.native ({ cls := "java/lang/System", name := "arraycopy", desc := "(Ljava/lang/Object;ILjava/lang/Object;II)V" } : Jvm.MethodName)) ∈ wT := inT2 (i := 164) rfl rfl
theorem w_403 : (Jvm.Cond.static ({ cls := "java/lang/System", name := "arraycopy", desc := "(Ljava/lang/Object;ILjava/lang/Object;II)V" } : Jvm.MethodName)) ∈ wT := inT2 (i := 163) rfl rfl
theorem w_10 : (Jvm.Cond.initialized "java/lang/System") ∈ wT := inT1 (i := 10) rfl rfl
theorem w_413 : (Jvm.Cond.methodLink "MailYard" (100 : Nat) ({ cls := "MailYard$Timers", name := "firstEnding", desc := "(J)I" } : Jvm.MethodName)) ∈ wT := inT2 (i := 173) rfl rfl
theorem w_414 : (Jvm.Cond.instanceMethod ({ cls := "MailYard$Timers", name := "firstEnding", desc := "(J)I" } : Jvm.MethodName)) ∈ wT := inT2 (i := 174) rfl rfl
theorem w_415 : (Jvm.Cond.selects "MailYard$Timers" ({ cls := "MailYard$Timers", name := "firstEnding", desc := "(J)I" } : Jvm.MethodName) ({ cls := "MailYard$Timers", name := "firstEnding", desc := "(J)I" } : Jvm.MethodName)) ∈ wT := inT2 (i := 175) rfl rfl
theorem w_417 : (Jvm.Cond.methodLink "MailYard" (104 : Nat) ({ cls := "MailYard", name := "ring", desc := "(I)V" } : Jvm.MethodName)) ∈ wT := inT2 (i := 177) rfl rfl
theorem w_419 : (Jvm.Cond.instanceMethod ({ cls := "MailYard", name := "ring", desc := "(I)V" } : Jvm.MethodName)) ∈ wT := inT2 (i := 179) rfl rfl
theorem w_66 : (Jvm.Cond.fieldLink "MailYard" (232 : Nat) "MailYard$Timers" "owners" "[I") ∈ wT := inT1 (i := 66) rfl rfl
theorem w_68 : (Jvm.Cond.fieldLink "MailYard" (235 : Nat) "MailYard$Timers" "values" "[I") ∈ wT := inT1 (i := 68) rfl rfl
theorem w_70 : (Jvm.Cond.fieldLink "MailYard" (236 : Nat) "MailYard$Timers" "limits" "[Z") ∈ wT := inT1 (i := 70) rfl rfl
theorem w_429 : (Jvm.Cond.methodLink "MailYard" (111 : Nat) ({ cls := "MailYard$Code", name := "isRegister", desc := "(I)Z" } : Jvm.MethodName)) ∈ wT := inT2 (i := 189) rfl rfl
theorem w_156 : (Jvm.Cond.fieldLink "MailYard" (139 : Nat) "MailYard$Actor" "begunAnew" "I") ∈ wT := inT1 (i := 156) rfl rfl
theorem w_73 : (Jvm.Cond.fieldLink "MailYard" (148 : Nat) "MailYard$Timers" "size" "I") ∈ wT := inT1 (i := 73) rfl rfl
theorem w_98 : (Jvm.Cond.fieldLink "MailYard" (149 : Nat) "MailYard$Outputs" "size" "I") ∈ wT := inT1 (i := 98) rfl rfl
theorem w_474 : (Jvm.Cond.methodLink "MailYard" (150 : Nat) ({ cls := "MailYard$Outputs", name := "has", desc := "(I)Z" } : Jvm.MethodName)) ∈ wT := inT2 (i := 234) rfl rfl
theorem w_475 : (Jvm.Cond.instanceMethod ({ cls := "MailYard$Outputs", name := "has", desc := "(I)Z" } : Jvm.MethodName)) ∈ wT := inT2 (i := 235) rfl rfl
theorem w_476 : (Jvm.Cond.selects "MailYard$Outputs" ({ cls := "MailYard$Outputs", name := "has", desc := "(I)Z" } : Jvm.MethodName) ({ cls := "MailYard$Outputs", name := "has", desc := "(I)Z" } : Jvm.MethodName)) ∈ wT := inT2 (i := 236) rfl rfl
theorem w_94 : (Jvm.Cond.fieldLink "MailYard" (153 : Nat) "MailYard$Outputs" "values" "[I") ∈ wT := inT1 (i := 94) rfl rfl
theorem w_96 : (Jvm.Cond.fieldLink "MailYard" (156 : Nat) "MailYard$Outputs" "authors" "[I") ∈ wT := inT1 (i := 96) rfl rfl
theorem w_604 : (Jvm.Cond.methodLink "MailYardModel" (95 : Nat) ({ cls := "MailYardModel", name := "within", desc := "(III)Z" } : Jvm.MethodName)) ∈ wT := inT3 (i := 124) rfl rfl
theorem w_9 : (Jvm.Cond.initialized "MailYardModel") ∈ wT := inT1 (i := 9) rfl rfl
theorem w_605 : (Jvm.Cond.static ({ cls := "MailYardModel", name := "within", desc := "(III)Z" } : Jvm.MethodName)) ∈ wT := inT3 (i := 125) rfl rfl
theorem w_488 : (Jvm.Cond.fieldLink "MailYardModel" (7 : Nat) "MailYardModel" "ops" "[I") ∈ wT := inT3 (i := 8) rfl rfl
theorem w_489 : (Jvm.Cond.fieldLink "MailYardModel" (13 : Nat) "MailYardModel" "as" "[I") ∈ wT := inT3 (i := 9) rfl rfl
theorem w_490 : (Jvm.Cond.fieldLink "MailYardModel" (16 : Nat) "MailYardModel" "bs" "[I") ∈ wT := inT3 (i := 10) rfl rfl
theorem w_611 : (Jvm.Cond.methodLink "MailYardModel" (110 : Nat) ({ cls := "MailYardModel", name := "begin", desc := "(III)I" } : Jvm.MethodName)) ∈ wT := inT3 (i := 131) rfl rfl
theorem w_613 : (Jvm.Cond.instanceMethod ({ cls := "MailYardModel", name := "begin", desc := "(III)I" } : Jvm.MethodName)) ∈ wT := inT3 (i := 133) rfl rfl
theorem w_492 : (Jvm.Cond.fieldLink "MailYardModel" (19 : Nat) "MailYardModel" "who" "[I") ∈ wT := inT3 (i := 12) rfl rfl
theorem w_491 : (Jvm.Cond.fieldLink "MailYardModel" (103 : Nat) "MailYardModel" "made" "I") ∈ wT := inT3 (i := 11) rfl rfl
theorem w_493 : (Jvm.Cond.fieldLink "MailYardModel" (22 : Nat) "MailYardModel" "regs" "[I") ∈ wT := inT3 (i := 13) rfl rfl
theorem w_494 : (Jvm.Cond.fieldLink "MailYardModel" (25 : Nat) "MailYardModel" "at" "[I") ∈ wT := inT3 (i := 14) rfl rfl
theorem w_495 : (Jvm.Cond.fieldLink "MailYardModel" (28 : Nat) "MailYardModel" "entries" "[I") ∈ wT := inT3 (i := 15) rfl rfl
theorem w_496 : (Jvm.Cond.fieldLink "MailYardModel" (31 : Nat) "MailYardModel" "arguments" "[I") ∈ wT := inT3 (i := 16) rfl rfl
theorem w_497 : (Jvm.Cond.fieldLink "MailYardModel" (34 : Nat) "MailYardModel" "traps" "[Z") ∈ wT := inT3 (i := 17) rfl rfl
theorem w_498 : (Jvm.Cond.fieldLink "MailYardModel" (38 : Nat) "MailYardModel" "above" "[I") ∈ wT := inT3 (i := 18) rfl rfl
theorem w_501 : (Jvm.Cond.fieldLink "MailYardModel" (47 : Nat) "MailYardModel" "begun" "[I") ∈ wT := inT3 (i := 21) rfl rfl
theorem w_615 : (Jvm.Cond.methodLink "MailYardModel" (106 : Nat) ({ cls := "MailYardModel", name := "enqueue", desc := "(I)V" } : Jvm.MethodName)) ∈ wT := inT3 (i := 135) rfl rfl
theorem w_617 : (Jvm.Cond.instanceMethod ({ cls := "MailYardModel", name := "enqueue", desc := "(I)V" } : Jvm.MethodName)) ∈ wT := inT3 (i := 137) rfl rfl
theorem w_499 : (Jvm.Cond.fieldLink "MailYardModel" (41 : Nat) "MailYardModel" "waits" "[Z") ∈ wT := inT3 (i := 19) rfl rfl
theorem w_500 : (Jvm.Cond.fieldLink "MailYardModel" (44 : Nat) "MailYardModel" "turns" "[I") ∈ wT := inT3 (i := 20) rfl rfl
theorem w_504 : (Jvm.Cond.fieldLink "MailYardModel" (53 : Nat) "MailYardModel" "row" "[I") ∈ wT := inT3 (i := 24) rfl rfl
theorem w_503 : (Jvm.Cond.fieldLink "MailYardModel" (99 : Nat) "MailYardModel" "queued" "I") ∈ wT := inT3 (i := 23) rfl rfl
theorem w_623 : (Jvm.Cond.methodLink "MailYardModel" (130 : Nat) ({ cls := "MailYardModel", name := "find", desc := "(I)I" } : Jvm.MethodName)) ∈ wT := inT3 (i := 143) rfl rfl
theorem w_625 : (Jvm.Cond.instanceMethod ({ cls := "MailYardModel", name := "find", desc := "(I)I" } : Jvm.MethodName)) ∈ wT := inT3 (i := 145) rfl rfl
theorem w_627 : (Jvm.Cond.methodLink "MailYardModel" (134 : Nat) ({ cls := "MailYardModel", name := "freeCells", desc := "()I" } : Jvm.MethodName)) ∈ wT := inT3 (i := 147) rfl rfl
theorem w_629 : (Jvm.Cond.instanceMethod ({ cls := "MailYardModel", name := "freeCells", desc := "()I" } : Jvm.MethodName)) ∈ wT := inT3 (i := 149) rfl rfl
theorem w_631 : (Jvm.Cond.methodLink "MailYardModel" (145 : Nat) ({ cls := "MailYardModel", name := "post", desc := "(III)V" } : Jvm.MethodName)) ∈ wT := inT3 (i := 151) rfl rfl
theorem w_633 : (Jvm.Cond.instanceMethod ({ cls := "MailYardModel", name := "post", desc := "(III)V" } : Jvm.MethodName)) ∈ wT := inT3 (i := 153) rfl rfl
theorem w_506 : (Jvm.Cond.fieldLink "MailYardModel" (114 : Nat) "MailYardModel" "mails" "I") ∈ wT := inT3 (i := 26) rfl rfl
theorem w_510 : (Jvm.Cond.fieldLink "MailYardModel" (117 : Nat) "MailYardModel" "links" "I") ∈ wT := inT3 (i := 30) rfl rfl
theorem w_513 : (Jvm.Cond.fieldLink "MailYardModel" (138 : Nat) "MailYardModel" "missed" "I") ∈ wT := inT3 (i := 33) rfl rfl
theorem w_635 : (Jvm.Cond.methodLink "MailYardModel" (141 : Nat) ({ cls := "MailYardModel", name := "come", desc := "(III)V" } : Jvm.MethodName)) ∈ wT := inT3 (i := 155) rfl rfl
theorem w_637 : (Jvm.Cond.instanceMethod ({ cls := "MailYardModel", name := "come", desc := "(III)V" } : Jvm.MethodName)) ∈ wT := inT3 (i := 157) rfl rfl
theorem w_507 : (Jvm.Cond.fieldLink "MailYardModel" (56 : Nat) "MailYardModel" "mailTo" "[I") ∈ wT := inT3 (i := 27) rfl rfl
theorem w_508 : (Jvm.Cond.fieldLink "MailYardModel" (59 : Nat) "MailYardModel" "mailFrom" "[I") ∈ wT := inT3 (i := 28) rfl rfl
theorem w_509 : (Jvm.Cond.fieldLink "MailYardModel" (62 : Nat) "MailYardModel" "mailValue" "[I") ∈ wT := inT3 (i := 29) rfl rfl
theorem w_639 : (Jvm.Cond.methodLink "MailYardModel" (126 : Nat) ({ cls := "MailYardModel", name := "stopClocks", desc := "(IZ)V" } : Jvm.MethodName)) ∈ wT := inT3 (i := 159) rfl rfl
theorem w_641 : (Jvm.Cond.instanceMethod ({ cls := "MailYardModel", name := "stopClocks", desc := "(IZ)V" } : Jvm.MethodName)) ∈ wT := inT3 (i := 161) rfl rfl
theorem w_514 : (Jvm.Cond.fieldLink "MailYardModel" (120 : Nat) "MailYardModel" "clocks" "I") ∈ wT := inT3 (i := 34) rfl rfl
theorem w_515 : (Jvm.Cond.fieldLink "MailYardModel" (71 : Nat) "MailYardModel" "clockWho" "[I") ∈ wT := inT3 (i := 35) rfl rfl
theorem w_518 : (Jvm.Cond.fieldLink "MailYardModel" (80 : Nat) "MailYardModel" "clockLimit" "[Z") ∈ wT := inT3 (i := 38) rfl rfl
theorem w_643 : (Jvm.Cond.methodLink "MailYardModel" (123 : Nat) ({ cls := "MailYardModel", name := "dropClock", desc := "(I)V" } : Jvm.MethodName)) ∈ wT := inT3 (i := 163) rfl rfl
theorem w_645 : (Jvm.Cond.instanceMethod ({ cls := "MailYardModel", name := "dropClock", desc := "(I)V" } : Jvm.MethodName)) ∈ wT := inT3 (i := 165) rfl rfl
theorem w_516 : (Jvm.Cond.fieldLink "MailYardModel" (74 : Nat) "MailYardModel" "clockEnd" "[I") ∈ wT := inT3 (i := 36) rfl rfl
theorem w_517 : (Jvm.Cond.fieldLink "MailYardModel" (77 : Nat) "MailYardModel" "clockValue" "[I") ∈ wT := inT3 (i := 37) rfl rfl
theorem w_651 : (Jvm.Cond.methodLink "MailYardModel" (204 : Nat) ({ cls := "MailYardModel", name := "act", desc := "(IIII)V" } : Jvm.MethodName)) ∈ wT := inT3 (i := 171) rfl rfl
theorem w_653 : (Jvm.Cond.instanceMethod ({ cls := "MailYardModel", name := "act", desc := "(IIII)V" } : Jvm.MethodName)) ∈ wT := inT3 (i := 173) rfl rfl
theorem w_687 : (Jvm.Cond.methodLink "MailYardModel" (151 : Nat) ({ cls := "MailYardModel", name := "ends", desc := "(II)V" } : Jvm.MethodName)) ∈ wT := inT3 (i := 207) rfl rfl
theorem w_689 : (Jvm.Cond.instanceMethod ({ cls := "MailYardModel", name := "ends", desc := "(II)V" } : Jvm.MethodName)) ∈ wT := inT3 (i := 209) rfl rfl
theorem w_695 : (Jvm.Cond.methodLink "MailYardModel" (208 : Nat) ({ cls := "MailYardModel", name := "settle", desc := "()V" } : Jvm.MethodName)) ∈ wT := inT3 (i := 215) rfl rfl
theorem w_697 : (Jvm.Cond.instanceMethod ({ cls := "MailYardModel", name := "settle", desc := "()V" } : Jvm.MethodName)) ∈ wT := inT3 (i := 217) rfl rfl
theorem w_667 : (Jvm.Cond.methodLink "MailYardModel" (162 : Nat) ({ cls := "MailYardModel", name := "leave", desc := "(I)V" } : Jvm.MethodName)) ∈ wT := inT3 (i := 187) rfl rfl
theorem w_669 : (Jvm.Cond.instanceMethod ({ cls := "MailYardModel", name := "leave", desc := "(I)V" } : Jvm.MethodName)) ∈ wT := inT3 (i := 189) rfl rfl
theorem w_655 : (Jvm.Cond.methodLink "MailYardModel" (195 : Nat) ({ cls := "MailYardModel", name := "take", desc := "(III)V" } : Jvm.MethodName)) ∈ wT := inT3 (i := 175) rfl rfl
theorem w_657 : (Jvm.Cond.instanceMethod ({ cls := "MailYardModel", name := "take", desc := "(III)V" } : Jvm.MethodName)) ∈ wT := inT3 (i := 177) rfl rfl
theorem w_675 : (Jvm.Cond.methodLink "MailYardModel" (198 : Nat) ({ cls := "MailYardModel", name := "link", desc := "(II)V" } : Jvm.MethodName)) ∈ wT := inT3 (i := 195) rfl rfl
theorem w_677 : (Jvm.Cond.instanceMethod ({ cls := "MailYardModel", name := "link", desc := "(II)V" } : Jvm.MethodName)) ∈ wT := inT3 (i := 197) rfl rfl
theorem w_691 : (Jvm.Cond.methodLink "MailYardModel" (201 : Nat) ({ cls := "MailYardModel", name := "put", desc := "(II)V" } : Jvm.MethodName)) ∈ wT := inT3 (i := 211) rfl rfl
theorem w_693 : (Jvm.Cond.instanceMethod ({ cls := "MailYardModel", name := "put", desc := "(II)V" } : Jvm.MethodName)) ∈ wT := inT3 (i := 213) rfl rfl
theorem w_671 : (Jvm.Cond.methodLink "MailYardModel" (188 : Nat) ({ cls := "MailYardModel", name := "clock", desc := "(IIIZ)V" } : Jvm.MethodName)) ∈ wT := inT3 (i := 191) rfl rfl
theorem w_673 : (Jvm.Cond.instanceMethod ({ cls := "MailYardModel", name := "clock", desc := "(IIIZ)V" } : Jvm.MethodName)) ∈ wT := inT3 (i := 193) rfl rfl
theorem w_659 : (Jvm.Cond.methodLink "MailYardModel" (185 : Nat) ({ cls := "MailYardModel", name := "mailAt", desc := "(II)I" } : Jvm.MethodName)) ∈ wT := inT3 (i := 179) rfl rfl
theorem w_661 : (Jvm.Cond.instanceMethod ({ cls := "MailYardModel", name := "mailAt", desc := "(II)I" } : Jvm.MethodName)) ∈ wT := inT3 (i := 181) rfl rfl
theorem w_663 : (Jvm.Cond.methodLink "MailYardModel" (165 : Nat) ({ cls := "MailYardModel", name := "takeMail", desc := "(I)V" } : Jvm.MethodName)) ∈ wT := inT3 (i := 183) rfl rfl
theorem w_665 : (Jvm.Cond.instanceMethod ({ cls := "MailYardModel", name := "takeMail", desc := "(I)V" } : Jvm.MethodName)) ∈ wT := inT3 (i := 185) rfl rfl
theorem w_505 : (Jvm.Cond.fieldLink "MailYardModel" (159 : Nat) "MailYardModel" "now" "I") ∈ wT := inT3 (i := 25) rfl rfl
theorem w_679 : (Jvm.Cond.methodLink "MailYardModel" (155 : Nat) ({ cls := "MailYardModel", name := "linkAt", desc := "(II)I" } : Jvm.MethodName)) ∈ wT := inT3 (i := 199) rfl rfl
theorem w_681 : (Jvm.Cond.instanceMethod ({ cls := "MailYardModel", name := "linkAt", desc := "(II)I" } : Jvm.MethodName)) ∈ wT := inT3 (i := 201) rfl rfl
theorem w_683 : (Jvm.Cond.methodLink "MailYardModel" (175 : Nat) ({ cls := "MailYardModel", name := "exitReaches", desc := "(III)V" } : Jvm.MethodName)) ∈ wT := inT3 (i := 203) rfl rfl
theorem w_685 : (Jvm.Cond.instanceMethod ({ cls := "MailYardModel", name := "exitReaches", desc := "(III)V" } : Jvm.MethodName)) ∈ wT := inT3 (i := 205) rfl rfl
theorem w_511 : (Jvm.Cond.fieldLink "MailYardModel" (65 : Nat) "MailYardModel" "linkOne" "[I") ∈ wT := inT3 (i := 31) rfl rfl
theorem w_512 : (Jvm.Cond.fieldLink "MailYardModel" (68 : Nat) "MailYardModel" "linkTwo" "[I") ∈ wT := inT3 (i := 32) rfl rfl
theorem w_523 : (Jvm.Cond.fieldLink "MailYardModel" (89 : Nat) "MailYardModel" "endWho" "[I") ∈ wT := inT3 (i := 43) rfl rfl
theorem w_522 : (Jvm.Cond.fieldLink "MailYardModel" (148 : Nat) "MailYardModel" "endings" "I") ∈ wT := inT3 (i := 42) rfl rfl
theorem w_524 : (Jvm.Cond.fieldLink "MailYardModel" (92 : Nat) "MailYardModel" "endWhy" "[I") ∈ wT := inT3 (i := 44) rfl rfl
theorem w_519 : (Jvm.Cond.fieldLink "MailYardModel" (192 : Nat) "MailYardModel" "outs" "I") ∈ wT := inT3 (i := 39) rfl rfl
theorem w_520 : (Jvm.Cond.fieldLink "MailYardModel" (83 : Nat) "MailYardModel" "outValue" "[I") ∈ wT := inT3 (i := 40) rfl rfl
theorem w_521 : (Jvm.Cond.fieldLink "MailYardModel" (86 : Nat) "MailYardModel" "outWho" "[I") ∈ wT := inT3 (i := 41) rfl rfl
theorem w_699 : (Jvm.Cond.methodLink "MailYardModel" (182 : Nat) ({ cls := "MailYardModel", name := "end", desc := "(II)V" } : Jvm.MethodName)) ∈ wT := inT3 (i := 219) rfl rfl
theorem w_701 : (Jvm.Cond.instanceMethod ({ cls := "MailYardModel", name := "end", desc := "(II)V" } : Jvm.MethodName)) ∈ wT := inT3 (i := 221) rfl rfl
theorem w_703 : (Jvm.Cond.methodLink "MailYardModel" (168 : Nat) ({ cls := "MailYardModel", name := "nextAfter", desc := "(IIZ)I" } : Jvm.MethodName)) ∈ wT := inT3 (i := 223) rfl rfl
theorem w_705 : (Jvm.Cond.instanceMethod ({ cls := "MailYardModel", name := "nextAfter", desc := "(IIZ)I" } : Jvm.MethodName)) ∈ wT := inT3 (i := 225) rfl rfl
theorem w_707 : (Jvm.Cond.methodLink "MailYardModel" (172 : Nat) ({ cls := "MailYardModel", name := "unlink", desc := "(I)V" } : Jvm.MethodName)) ∈ wT := inT3 (i := 227) rfl rfl
theorem w_709 : (Jvm.Cond.instanceMethod ({ cls := "MailYardModel", name := "unlink", desc := "(I)V" } : Jvm.MethodName)) ∈ wT := inT3 (i := 229) rfl rfl
theorem w_711 : (Jvm.Cond.methodLink "MailYardModel" (178 : Nat) ({ cls := "MailYardModel", name := "mayBegin", desc := "(I)Z" } : Jvm.MethodName)) ∈ wT := inT3 (i := 231) rfl rfl
theorem w_713 : (Jvm.Cond.instanceMethod ({ cls := "MailYardModel", name := "mayBegin", desc := "(I)Z" } : Jvm.MethodName)) ∈ wT := inT3 (i := 233) rfl rfl
theorem w_502 : (Jvm.Cond.fieldLink "MailYardModel" (50 : Nat) "MailYardModel" "times" "[I") ∈ wT := inT3 (i := 22) rfl rfl
theorem w_719 : (Jvm.Cond.methodLink "MailYardModel" (211 : Nat) ({ cls := "MailYardModel", name := "step", desc := "()I" } : Jvm.MethodName)) ∈ wT := inT3 (i := 239) rfl rfl
theorem w_648 : (Jvm.Cond.instanceMethod ({ cls := "MailYardModel", name := "step", desc := "()I" } : Jvm.MethodName)) ∈ wT := inT3 (i := 168) rfl rfl
theorem w_649 : (Jvm.Cond.selects "MailYardModel" ({ cls := "MailYardModel", name := "step", desc := "()I" } : Jvm.MethodName) ({ cls := "MailYardModel", name := "step", desc := "()I" } : Jvm.MethodName)) ∈ wT := inT3 (i := 169) rfl rfl
theorem w_724 : (Jvm.Cond.methodLink "MailYardModel" (214 : Nat) ({ cls := "MailYardModel", name := "due", desc := "()I" } : Jvm.MethodName)) ∈ wT := inT4 (i := 4) rfl rfl
theorem w_726 : (Jvm.Cond.instanceMethod ({ cls := "MailYardModel", name := "due", desc := "()I" } : Jvm.MethodName)) ∈ wT := inT4 (i := 6) rfl rfl
theorem inX0 : ∀ w ∈ u_ws RX0 TX0 15, w ∈ wT := List.forall_mem_cons.mpr ⟨w_160, List.forall_mem_cons.mpr ⟨w_162, List.forall_mem_cons.mpr ⟨w_164, List.forall_mem_cons.mpr ⟨w_166, List.forall_mem_cons.mpr ⟨w_168, List.forall_mem_cons.mpr ⟨w_170, List.forall_mem_cons.mpr ⟨w_172, List.forall_mem_cons.mpr ⟨w_174, List.forall_mem_cons.mpr ⟨w_176, List.forall_mem_cons.mpr ⟨w_178, List.forall_mem_cons.mpr ⟨w_180, List.forall_mem_cons.mpr ⟨w_182, List.forall_mem_cons.mpr ⟨w_184, List.forall_mem_cons.mpr ⟨w_186, List.forall_mem_cons.mpr ⟨w_188, fun _ h => absurd h List.not_mem_nil⟩⟩⟩⟩⟩⟩⟩⟩⟩⟩⟩⟩⟩⟩⟩
theorem inX1 : ∀ w ∈ u_ws RX1 TX1 3, w ∈ wT := List.forall_mem_cons.mpr ⟨w_34, List.forall_mem_cons.mpr ⟨w_36, List.forall_mem_cons.mpr ⟨w_38, fun _ h => absurd h List.not_mem_nil⟩⟩⟩
theorem inX2 : ∀ w ∈ u_ws RX2 TX2 2, w ∈ wT := List.forall_mem_cons.mpr ⟨w_54, List.forall_mem_cons.mpr ⟨w_56, fun _ h => absurd h List.not_mem_nil⟩⟩
theorem inX3 : ∀ w ∈ u_ws RX3 TX3 4, w ∈ wT := List.forall_mem_cons.mpr ⟨w_123, List.forall_mem_cons.mpr ⟨w_125, List.forall_mem_cons.mpr ⟨w_127, List.forall_mem_cons.mpr ⟨w_129, fun _ h => absurd h List.not_mem_nil⟩⟩⟩⟩
theorem inX4 : ∀ w ∈ u_ws RX4 TX4 3, w ∈ wT := List.forall_mem_cons.mpr ⟨w_99, List.forall_mem_cons.mpr ⟨w_101, List.forall_mem_cons.mpr ⟨w_103, fun _ h => absurd h List.not_mem_nil⟩⟩⟩
theorem inX5 : ∀ w ∈ u_ws RX5 TX5 5, w ∈ wT := List.forall_mem_cons.mpr ⟨w_74, List.forall_mem_cons.mpr ⟨w_76, List.forall_mem_cons.mpr ⟨w_78, List.forall_mem_cons.mpr ⟨w_80, List.forall_mem_cons.mpr ⟨w_82, fun _ h => absurd h List.not_mem_nil⟩⟩⟩⟩⟩
theorem inX6 : ∀ w ∈ u_ws RX6 TX6 11, w ∈ wT := List.forall_mem_cons.mpr ⟨w_206, List.forall_mem_cons.mpr ⟨w_208, List.forall_mem_cons.mpr ⟨w_210, List.forall_mem_cons.mpr ⟨w_212, List.forall_mem_cons.mpr ⟨w_214, List.forall_mem_cons.mpr ⟨w_216, List.forall_mem_cons.mpr ⟨w_218, List.forall_mem_cons.mpr ⟨w_220, List.forall_mem_cons.mpr ⟨w_222, List.forall_mem_cons.mpr ⟨w_224, List.forall_mem_cons.mpr ⟨w_226, fun _ h => absurd h List.not_mem_nil⟩⟩⟩⟩⟩⟩⟩⟩⟩⟩⟩
theorem inX7 : ∀ w ∈ u_ws RX7 TX7 37, w ∈ wT := List.forall_mem_cons.mpr ⟨w_525, List.forall_mem_cons.mpr ⟨w_527, List.forall_mem_cons.mpr ⟨w_529, List.forall_mem_cons.mpr ⟨w_531, List.forall_mem_cons.mpr ⟨w_533, List.forall_mem_cons.mpr ⟨w_535, List.forall_mem_cons.mpr ⟨w_537, List.forall_mem_cons.mpr ⟨w_539, List.forall_mem_cons.mpr ⟨w_541, List.forall_mem_cons.mpr ⟨w_543, List.forall_mem_cons.mpr ⟨w_545, List.forall_mem_cons.mpr ⟨w_547, List.forall_mem_cons.mpr ⟨w_549, List.forall_mem_cons.mpr ⟨w_551, List.forall_mem_cons.mpr ⟨w_553, List.forall_mem_cons.mpr ⟨w_555, List.forall_mem_cons.mpr ⟨w_557, List.forall_mem_cons.mpr ⟨w_559, List.forall_mem_cons.mpr ⟨w_561, List.forall_mem_cons.mpr ⟨w_563, List.forall_mem_cons.mpr ⟨w_565, List.forall_mem_cons.mpr ⟨w_567, List.forall_mem_cons.mpr ⟨w_569, List.forall_mem_cons.mpr ⟨w_571, List.forall_mem_cons.mpr ⟨w_573, List.forall_mem_cons.mpr ⟨w_575, List.forall_mem_cons.mpr ⟨w_577, List.forall_mem_cons.mpr ⟨w_579, List.forall_mem_cons.mpr ⟨w_581, List.forall_mem_cons.mpr ⟨w_583, List.forall_mem_cons.mpr ⟨w_585, List.forall_mem_cons.mpr ⟨w_587, List.forall_mem_cons.mpr ⟨w_589, List.forall_mem_cons.mpr ⟨w_591, List.forall_mem_cons.mpr ⟨w_593, List.forall_mem_cons.mpr ⟨w_595, List.forall_mem_cons.mpr ⟨w_597, fun _ h => absurd h List.not_mem_nil⟩⟩⟩⟩⟩⟩⟩⟩⟩⟩⟩⟩⟩⟩⟩⟩⟩⟩⟩⟩⟩⟩⟩⟩⟩⟩⟩⟩⟩⟩⟩⟩⟩⟩⟩⟩⟩
abbrev yX6_init : MethodName := ⟨"MailYard", "<init>", "()V"⟩
abbrev cX6_init : ByteArray := prog_1_method_1_code
abbrev kX6_init : Cond := .code yX6_init cX6_init 2 none
theorem kX6_init_in : kX6_init ∈ wT := inT1 (i := 15) rfl rfl
theorem hX6_init : yX6_init.cls ≠ "java/lang/invoke/MethodHandle" ∧ yX6_init.cls ≠ "java/lang/invoke/VarHandle" ∧ (parseMethodDescriptor yX6_init.desc).map (fun d => d.parameters.length) = some 0 := by decide +kernel
abbrev yX1_init : MethodName := ⟨"MailYard$Code", "<init>", "()V"⟩
abbrev cX1_init : ByteArray := prog_3_method_1_code
abbrev kX1_init : Cond := .code yX1_init cX1_init 1 none
theorem kX1_init_in : kX1_init ∈ wT := inT1 (i := 23) rfl rfl
theorem hX1_init : yX1_init.cls ≠ "java/lang/invoke/MethodHandle" ∧ yX1_init.cls ≠ "java/lang/invoke/VarHandle" ∧ (parseMethodDescriptor yX1_init.desc).map (fun d => d.parameters.length) = some 0 := by decide +kernel
abbrev yJ_fillI : MethodName := ⟨"java/util/Arrays", "fill", "([II)V"⟩
abbrev cJ_fillI : ByteArray := prog_11_method_103_code
abbrev kJ_fillI : Cond := .code yJ_fillI cJ_fillI 4 none
theorem kJ_fillI_in : kJ_fillI ∈ wT := inT1 (i := 27) rfl rfl
theorem hJ_fillI : yJ_fillI.cls ≠ "java/lang/invoke/MethodHandle" ∧ yJ_fillI.cls ≠ "java/lang/invoke/VarHandle" ∧ (parseMethodDescriptor yJ_fillI.desc).map (fun d => d.parameters.length) = some 2 := by decide +kernel
abbrev yX2_init : MethodName := ⟨"MailYard$Line", "<init>", "()V"⟩
abbrev cX2_init : ByteArray := prog_4_method_1_code
abbrev kX2_init : Cond := .code yX2_init cX2_init 1 none
theorem kX2_init_in : kX2_init ∈ wT := inT1 (i := 46) rfl rfl
theorem hX2_init : yX2_init.cls ≠ "java/lang/invoke/MethodHandle" ∧ yX2_init.cls ≠ "java/lang/invoke/VarHandle" ∧ (parseMethodDescriptor yX2_init.desc).map (fun d => d.parameters.length) = some 0 := by decide +kernel
abbrev yX5_init : MethodName := ⟨"MailYard$Timers", "<init>", "()V"⟩
abbrev cX5_init : ByteArray := prog_7_method_1_code
abbrev kX5_init : Cond := .code yX5_init cX5_init 1 none
theorem kX5_init_in : kX5_init ∈ wT := inT1 (i := 63) rfl rfl
theorem hX5_init : yX5_init.cls ≠ "java/lang/invoke/MethodHandle" ∧ yX5_init.cls ≠ "java/lang/invoke/VarHandle" ∧ (parseMethodDescriptor yX5_init.desc).map (fun d => d.parameters.length) = some 0 := by decide +kernel
abbrev yX4_init : MethodName := ⟨"MailYard$Outputs", "<init>", "()V"⟩
abbrev cX4_init : ByteArray := prog_6_method_1_code
abbrev kX4_init : Cond := .code yX4_init cX4_init 1 none
theorem kX4_init_in : kX4_init ∈ wT := inT1 (i := 91) rfl rfl
theorem hX4_init : yX4_init.cls ≠ "java/lang/invoke/MethodHandle" ∧ yX4_init.cls ≠ "java/lang/invoke/VarHandle" ∧ (parseMethodDescriptor yX4_init.desc).map (fun d => d.parameters.length) = some 0 := by decide +kernel
abbrev yX0_init : MethodName := ⟨"MailYard$Actor", "<init>", "(I)V"⟩
abbrev cX0_init : ByteArray := prog_2_method_1_code
abbrev kX0_init : Cond := .code yX0_init cX0_init 2 none
theorem kX0_init_in : kX0_init ∈ wT := inT1 (i := 110) rfl rfl
theorem hX0_init : yX0_init.cls ≠ "java/lang/invoke/MethodHandle" ∧ yX0_init.cls ≠ "java/lang/invoke/VarHandle" ∧ (parseMethodDescriptor yX0_init.desc).map (fun d => d.parameters.length) = some 1 := by decide +kernel
abbrev yX3_init : MethodName := ⟨"MailYard$Mailbox", "<init>", "()V"⟩
abbrev cX3_init : ByteArray := prog_5_method_1_code
abbrev kX3_init : Cond := .code yX3_init cX3_init 1 none
theorem kX3_init_in : kX3_init ∈ wT := inT1 (i := 116) rfl rfl
theorem hX3_init : yX3_init.cls ≠ "java/lang/invoke/MethodHandle" ∧ yX3_init.cls ≠ "java/lang/invoke/VarHandle" ∧ (parseMethodDescriptor yX3_init.desc).map (fun d => d.parameters.length) = some 0 := by decide +kernel
abbrev yX2_add : MethodName := ⟨"MailYard$Line", "add", "(LMailYard$Actor;)V"⟩
abbrev cX2_add : ByteArray := prog_4_method_5_code
abbrev kX2_add : Cond := .code yX2_add cX2_add 2 none
theorem kX2_add_in : kX2_add ∈ wT := inT1 (i := 194) rfl rfl
theorem hX2_add : yX2_add.cls ≠ "java/lang/invoke/MethodHandle" ∧ yX2_add.cls ≠ "java/lang/invoke/VarHandle" ∧ (parseMethodDescriptor yX2_add.desc).map (fun d => d.parameters.length) = some 1 := by decide +kernel
abbrev yX6_load : MethodName := ⟨"MailYard", "load", "(IIII)Z"⟩
abbrev cX6_load : ByteArray := prog_1_method_2_code
abbrev kX6_load : Cond := .code yX6_load cX6_load 5 (some (.boolean))
theorem kX6_load_in : kX6_load ∈ wT := inT1 (i := 232) rfl rfl
theorem hX6_load : yX6_load.cls ≠ "java/lang/invoke/MethodHandle" ∧ yX6_load.cls ≠ "java/lang/invoke/VarHandle" ∧ (parseMethodDescriptor yX6_load.desc).map (fun d => d.parameters.length) = some 4 := by decide +kernel
abbrev yX1_isCell : MethodName := ⟨"MailYard$Code", "isCell", "(I)Z"⟩
abbrev cX1_isCell : ByteArray := prog_3_method_2_code
abbrev kX1_isCell : Cond := .code yX1_isCell cX1_isCell 1 (some (.boolean))
theorem kX1_isCell_in : kX1_isCell ∈ wT := inT1 (i := 235) rfl rfl
theorem hX1_isCell : yX1_isCell.cls ≠ "java/lang/invoke/MethodHandle" ∧ yX1_isCell.cls ≠ "java/lang/invoke/VarHandle" ∧ (parseMethodDescriptor yX1_isCell.desc).map (fun d => d.parameters.length) = some 1 := by decide +kernel
abbrev yX1_isInstruction : MethodName := ⟨"MailYard$Code", "isInstruction", "(III)Z"⟩
abbrev cX1_isInstruction : ByteArray := prog_3_method_4_code
abbrev kX1_isInstruction : Cond := .code yX1_isInstruction cX1_isInstruction 3 (some (.boolean))
theorem kX1_isInstruction_in : kX1_isInstruction ∈ wT := inT1 (i := 238) rfl rfl
theorem hX1_isInstruction : yX1_isInstruction.cls ≠ "java/lang/invoke/MethodHandle" ∧ yX1_isInstruction.cls ≠ "java/lang/invoke/VarHandle" ∧ (parseMethodDescriptor yX1_isInstruction.desc).map (fun d => d.parameters.length) = some 3 := by decide +kernel
abbrev yX1_isRegister : MethodName := ⟨"MailYard$Code", "isRegister", "(I)Z"⟩
abbrev cX1_isRegister : ByteArray := prog_3_method_3_code
abbrev kX1_isRegister : Cond := .code yX1_isRegister cX1_isRegister 1 (some (.boolean))
theorem kX1_isRegister_in : kX1_isRegister ∈ wT := inT2 (i := 1) rfl rfl
theorem hX1_isRegister : yX1_isRegister.cls ≠ "java/lang/invoke/MethodHandle" ∧ yX1_isRegister.cls ≠ "java/lang/invoke/VarHandle" ∧ (parseMethodDescriptor yX1_isRegister.desc).map (fun d => d.parameters.length) = some 1 := by decide +kernel
abbrev yX1_put : MethodName := ⟨"MailYard$Code", "put", "(IIII)V"⟩
abbrev cX1_put : ByteArray := prog_3_method_6_code
abbrev kX1_put : Cond := .code yX1_put cX1_put 5 none
theorem kX1_put_in : kX1_put ∈ wT := inT2 (i := 6) rfl rfl
theorem hX1_put : yX1_put.cls ≠ "java/lang/invoke/MethodHandle" ∧ yX1_put.cls ≠ "java/lang/invoke/VarHandle" ∧ (parseMethodDescriptor yX1_put.desc).map (fun d => d.parameters.length) = some 4 := by decide +kernel
abbrev yX6_spawn : MethodName := ⟨"MailYard", "spawn", "(II)I"⟩
abbrev cX6_spawn : ByteArray := prog_1_method_3_code
abbrev kX6_spawn : Cond := .code yX6_spawn cX6_spawn 3 (some (.int))
theorem kX6_spawn_in : kX6_spawn ∈ wT := inT2 (i := 10) rfl rfl
theorem hX6_spawn : yX6_spawn.cls ≠ "java/lang/invoke/MethodHandle" ∧ yX6_spawn.cls ≠ "java/lang/invoke/VarHandle" ∧ (parseMethodDescriptor yX6_spawn.desc).map (fun d => d.parameters.length) = some 2 := by decide +kernel
abbrev yX6_beginActor : MethodName := ⟨"MailYard", "beginActor", "(III)I"⟩
abbrev cX6_beginActor : ByteArray := prog_1_method_26_code
abbrev kX6_beginActor : Cond := .code yX6_beginActor cX6_beginActor 5 (some (.int))
theorem kX6_beginActor_in : kX6_beginActor ∈ wT := inT2 (i := 14) rfl rfl
theorem hX6_beginActor : yX6_beginActor.cls ≠ "java/lang/invoke/MethodHandle" ∧ yX6_beginActor.cls ≠ "java/lang/invoke/VarHandle" ∧ (parseMethodDescriptor yX6_beginActor.desc).map (fun d => d.parameters.length) = some 3 := by decide +kernel
abbrev yX2_at : MethodName := ⟨"MailYard$Line", "at", "(I)LMailYard$Actor;"⟩
abbrev cX2_at : ByteArray := prog_4_method_2_code
abbrev kX2_at : Cond := .code yX2_at cX2_at 2 (some (.object "MailYard$Actor"))
theorem kX2_at_in : kX2_at ∈ wT := inT2 (i := 18) rfl rfl
theorem hX2_at : yX2_at.cls ≠ "java/lang/invoke/MethodHandle" ∧ yX2_at.cls ≠ "java/lang/invoke/VarHandle" ∧ (parseMethodDescriptor yX2_at.desc).map (fun d => d.parameters.length) = some 1 := by decide +kernel
abbrev yX0_reset : MethodName := ⟨"MailYard$Actor", "reset", "(IIII)V"⟩
abbrev cX0_reset : ByteArray := prog_2_method_2_code
abbrev kX0_reset : Cond := .code yX0_reset cX0_reset 5 none
theorem kX0_reset_in : kX0_reset ∈ wT := inT2 (i := 22) rfl rfl
theorem hX0_reset : yX0_reset.cls ≠ "java/lang/invoke/MethodHandle" ∧ yX0_reset.cls ≠ "java/lang/invoke/VarHandle" ∧ (parseMethodDescriptor yX0_reset.desc).map (fun d => d.parameters.length) = some 4 := by decide +kernel
abbrev yJ_fillJ : MethodName := ⟨"java/util/Arrays", "fill", "([JJ)V"⟩
abbrev cJ_fillJ : ByteArray := prog_11_method_101_code
abbrev kJ_fillJ : Cond := .code yJ_fillJ cJ_fillJ 5 none
theorem kJ_fillJ_in : kJ_fillJ ∈ wT := inT2 (i := 27) rfl rfl
theorem hJ_fillJ : yJ_fillJ.cls ≠ "java/lang/invoke/MethodHandle" ∧ yJ_fillJ.cls ≠ "java/lang/invoke/VarHandle" ∧ (parseMethodDescriptor yJ_fillJ.desc).map (fun d => d.parameters.length) = some 2 := by decide +kernel
abbrev yX2_remove : MethodName := ⟨"MailYard$Line", "remove", "(LMailYard$Actor;)V"⟩
abbrev cX2_remove : ByteArray := prog_4_method_6_code
abbrev kX2_remove : Cond := .code yX2_remove cX2_remove 4 none
theorem kX2_remove_in : kX2_remove ∈ wT := inT2 (i := 31) rfl rfl
theorem hX2_remove : yX2_remove.cls ≠ "java/lang/invoke/MethodHandle" ∧ yX2_remove.cls ≠ "java/lang/invoke/VarHandle" ∧ (parseMethodDescriptor yX2_remove.desc).map (fun d => d.parameters.length) = some 1 := by decide +kernel
abbrev yX6_makeReady : MethodName := ⟨"MailYard", "makeReady", "(LMailYard$Actor;)V"⟩
abbrev cX6_makeReady : ByteArray := prog_1_method_27_code
abbrev kX6_makeReady : Cond := .code yX6_makeReady cX6_makeReady 2 none
theorem kX6_makeReady_in : kX6_makeReady ∈ wT := inT2 (i := 35) rfl rfl
theorem hX6_makeReady : yX6_makeReady.cls ≠ "java/lang/invoke/MethodHandle" ∧ yX6_makeReady.cls ≠ "java/lang/invoke/VarHandle" ∧ (parseMethodDescriptor yX6_makeReady.desc).map (fun d => d.parameters.length) = some 1 := by decide +kernel
abbrev yX6_inject : MethodName := ⟨"MailYard", "inject", "(II)I"⟩
abbrev cX6_inject : ByteArray := prog_1_method_4_code
abbrev kX6_inject : Cond := .code yX6_inject cX6_inject 4 (some (.int))
theorem kX6_inject_in : kX6_inject ∈ wT := inT2 (i := 39) rfl rfl
theorem hX6_inject : yX6_inject.cls ≠ "java/lang/invoke/MethodHandle" ∧ yX6_inject.cls ≠ "java/lang/invoke/VarHandle" ∧ (parseMethodDescriptor yX6_inject.desc).map (fun d => d.parameters.length) = some 2 := by decide +kernel
abbrev yX2_find : MethodName := ⟨"MailYard$Line", "find", "(I)LMailYard$Actor;"⟩
abbrev cX2_find : ByteArray := prog_4_method_3_code
abbrev kX2_find : Cond := .code yX2_find cX2_find 3 (some (.object "MailYard$Actor"))
theorem kX2_find_in : kX2_find ∈ wT := inT2 (i := 43) rfl rfl
theorem hX2_find : yX2_find.cls ≠ "java/lang/invoke/MethodHandle" ∧ yX2_find.cls ≠ "java/lang/invoke/VarHandle" ∧ (parseMethodDescriptor yX2_find.desc).map (fun d => d.parameters.length) = some 1 := by decide +kernel
abbrev yX6_deliver : MethodName := ⟨"MailYard", "deliver", "(LMailYard$Actor;II)V"⟩
abbrev cX6_deliver : ByteArray := prog_1_method_29_code
abbrev kX6_deliver : Cond := .code yX6_deliver cX6_deliver 4 none
theorem kX6_deliver_in : kX6_deliver ∈ wT := inT2 (i := 47) rfl rfl
theorem hX6_deliver : yX6_deliver.cls ≠ "java/lang/invoke/MethodHandle" ∧ yX6_deliver.cls ≠ "java/lang/invoke/VarHandle" ∧ (parseMethodDescriptor yX6_deliver.desc).map (fun d => d.parameters.length) = some 3 := by decide +kernel
abbrev yX3_add : MethodName := ⟨"MailYard$Mailbox", "add", "(II)V"⟩
abbrev cX3_add : ByteArray := prog_5_method_3_code
abbrev kX3_add : Cond := .code yX3_add cX3_add 4 none
theorem kX3_add_in : kX3_add ∈ wT := inT2 (i := 51) rfl rfl
theorem hX3_add : yX3_add.cls ≠ "java/lang/invoke/MethodHandle" ∧ yX3_add.cls ≠ "java/lang/invoke/VarHandle" ∧ (parseMethodDescriptor yX3_add.desc).map (fun d => d.parameters.length) = some 2 := by decide +kernel
abbrev yX5_limitOf : MethodName := ⟨"MailYard$Timers", "limitOf", "(I)I"⟩
abbrev cX5_limitOf : ByteArray := prog_7_method_5_code
abbrev kX5_limitOf : Cond := .code yX5_limitOf cX5_limitOf 3 (some (.int))
theorem kX5_limitOf_in : kX5_limitOf ∈ wT := inT2 (i := 55) rfl rfl
theorem hX5_limitOf : yX5_limitOf.cls ≠ "java/lang/invoke/MethodHandle" ∧ yX5_limitOf.cls ≠ "java/lang/invoke/VarHandle" ∧ (parseMethodDescriptor yX5_limitOf.desc).map (fun d => d.parameters.length) = some 1 := by decide +kernel
abbrev yX5_removeAt : MethodName := ⟨"MailYard$Timers", "removeAt", "(I)V"⟩
abbrev cX5_removeAt : ByteArray := prog_7_method_4_code
abbrev kX5_removeAt : Cond := .code yX5_removeAt cX5_removeAt 3 none
theorem kX5_removeAt_in : kX5_removeAt ∈ wT := inT2 (i := 59) rfl rfl
theorem hX5_removeAt : yX5_removeAt.cls ≠ "java/lang/invoke/MethodHandle" ∧ yX5_removeAt.cls ≠ "java/lang/invoke/VarHandle" ∧ (parseMethodDescriptor yX5_removeAt.desc).map (fun d => d.parameters.length) = some 1 := by decide +kernel
abbrev yX6_step : MethodName := ⟨"MailYard", "step", "()I"⟩
abbrev cX6_step : ByteArray := prog_1_method_5_code
abbrev kX6_step : Cond := .code yX6_step cX6_step 1 (some (.int))
theorem kX6_step_in : kX6_step ∈ wT := inT2 (i := 63) rfl rfl
theorem hX6_step : yX6_step.cls ≠ "java/lang/invoke/MethodHandle" ∧ yX6_step.cls ≠ "java/lang/invoke/VarHandle" ∧ (parseMethodDescriptor yX6_step.desc).map (fun d => d.parameters.length) = some 0 := by decide +kernel
abbrev yX6_advance : MethodName := ⟨"MailYard", "advance", "()I"⟩
abbrev cX6_advance : ByteArray := prog_1_method_22_code
abbrev kX6_advance : Cond := .code yX6_advance cX6_advance 4 (some (.int))
theorem kX6_advance_in : kX6_advance ∈ wT := inT2 (i := 67) rfl rfl
theorem hX6_advance : yX6_advance.cls ≠ "java/lang/invoke/MethodHandle" ∧ yX6_advance.cls ≠ "java/lang/invoke/VarHandle" ∧ (parseMethodDescriptor yX6_advance.desc).map (fun d => d.parameters.length) = some 0 := by decide +kernel
abbrev yX6_perform : MethodName := ⟨"MailYard", "perform", "(LMailYard$Actor;)V"⟩
abbrev cX6_perform : ByteArray := prog_1_method_23_code
abbrev kX6_perform : Cond := .code yX6_perform cX6_perform 6 none
theorem kX6_perform_in : kX6_perform ∈ wT := inT2 (i := 71) rfl rfl
theorem hX6_perform : yX6_perform.cls ≠ "java/lang/invoke/MethodHandle" ∧ yX6_perform.cls ≠ "java/lang/invoke/VarHandle" ∧ (parseMethodDescriptor yX6_perform.desc).map (fun d => d.parameters.length) = some 1 := by decide +kernel
abbrev yX1_isFilled : MethodName := ⟨"MailYard$Code", "isFilled", "(I)Z"⟩
abbrev cX1_isFilled : ByteArray := prog_3_method_5_code
abbrev kX1_isFilled : Cond := .code yX1_isFilled cX1_isFilled 2 (some (.boolean))
theorem kX1_isFilled_in : kX1_isFilled ∈ wT := inT2 (i := 75) rfl rfl
theorem hX1_isFilled : yX1_isFilled.cls ≠ "java/lang/invoke/MethodHandle" ∧ yX1_isFilled.cls ≠ "java/lang/invoke/VarHandle" ∧ (parseMethodDescriptor yX1_isFilled.desc).map (fun d => d.parameters.length) = some 1 := by decide +kernel
abbrev yX6_comeToEnd : MethodName := ⟨"MailYard", "comeToEnd", "(LMailYard$Actor;I)V"⟩
abbrev cX6_comeToEnd : ByteArray := prog_1_method_32_code
abbrev kX6_comeToEnd : Cond := .code yX6_comeToEnd cX6_comeToEnd 3 none
theorem kX6_comeToEnd_in : kX6_comeToEnd ∈ wT := inT2 (i := 79) rfl rfl
theorem hX6_comeToEnd : yX6_comeToEnd.cls ≠ "java/lang/invoke/MethodHandle" ∧ yX6_comeToEnd.cls ≠ "java/lang/invoke/VarHandle" ∧ (parseMethodDescriptor yX6_comeToEnd.desc).map (fun d => d.parameters.length) = some 2 := by decide +kernel
abbrev yX2_contains : MethodName := ⟨"MailYard$Line", "contains", "(LMailYard$Actor;)Z"⟩
abbrev cX2_contains : ByteArray := prog_4_method_4_code
abbrev kX2_contains : Cond := .code yX2_contains cX2_contains 3 (some (.boolean))
theorem kX2_contains_in : kX2_contains ∈ wT := inT2 (i := 83) rfl rfl
theorem hX2_contains : yX2_contains.cls ≠ "java/lang/invoke/MethodHandle" ∧ yX2_contains.cls ≠ "java/lang/invoke/VarHandle" ∧ (parseMethodDescriptor yX2_contains.desc).map (fun d => d.parameters.length) = some 1 := by decide +kernel
abbrev yX6_sendTo : MethodName := ⟨"MailYard", "sendTo", "(III)V"⟩
abbrev cX6_sendTo : ByteArray := prog_1_method_28_code
abbrev kX6_sendTo : Cond := .code yX6_sendTo cX6_sendTo 5 none
theorem kX6_sendTo_in : kX6_sendTo ∈ wT := inT2 (i := 87) rfl rfl
theorem hX6_sendTo : yX6_sendTo.cls ≠ "java/lang/invoke/MethodHandle" ∧ yX6_sendTo.cls ≠ "java/lang/invoke/VarHandle" ∧ (parseMethodDescriptor yX6_sendTo.desc).map (fun d => d.parameters.length) = some 3 := by decide +kernel
abbrev yX6_takeMessage : MethodName := ⟨"MailYard", "takeMessage", "(LMailYard$Actor;II)V"⟩
abbrev cX6_takeMessage : ByteArray := prog_1_method_24_code
abbrev kX6_takeMessage : Cond := .code yX6_takeMessage cX6_takeMessage 5 none
theorem kX6_takeMessage_in : kX6_takeMessage ∈ wT := inT2 (i := 91) rfl rfl
theorem hX6_takeMessage : yX6_takeMessage.cls ≠ "java/lang/invoke/MethodHandle" ∧ yX6_takeMessage.cls ≠ "java/lang/invoke/VarHandle" ∧ (parseMethodDescriptor yX6_takeMessage.desc).map (fun d => d.parameters.length) = some 3 := by decide +kernel
abbrev yX3_firstSender : MethodName := ⟨"MailYard$Mailbox", "firstSender", "()I"⟩
abbrev cX3_firstSender : ByteArray := prog_5_method_5_code
abbrev kX3_firstSender : Cond := .code yX3_firstSender cX3_firstSender 1 (some (.int))
theorem kX3_firstSender_in : kX3_firstSender ∈ wT := inT2 (i := 95) rfl rfl
theorem hX3_firstSender : yX3_firstSender.cls ≠ "java/lang/invoke/MethodHandle" ∧ yX3_firstSender.cls ≠ "java/lang/invoke/VarHandle" ∧ (parseMethodDescriptor yX3_firstSender.desc).map (fun d => d.parameters.length) = some 0 := by decide +kernel
abbrev yX3_valueAt : MethodName := ⟨"MailYard$Mailbox", "valueAt", "(I)I"⟩
abbrev cX3_valueAt : ByteArray := prog_5_method_4_code
abbrev kX3_valueAt : Cond := .code yX3_valueAt cX3_valueAt 2 (some (.int))
theorem kX3_valueAt_in : kX3_valueAt ∈ wT := inT2 (i := 99) rfl rfl
theorem hX3_valueAt : yX3_valueAt.cls ≠ "java/lang/invoke/MethodHandle" ∧ yX3_valueAt.cls ≠ "java/lang/invoke/VarHandle" ∧ (parseMethodDescriptor yX3_valueAt.desc).map (fun d => d.parameters.length) = some 1 := by decide +kernel
abbrev yX3_removeFirst : MethodName := ⟨"MailYard$Mailbox", "removeFirst", "()V"⟩
abbrev cX3_removeFirst : ByteArray := prog_5_method_6_code
abbrev kX3_removeFirst : Cond := .code yX3_removeFirst cX3_removeFirst 1 none
theorem kX3_removeFirst_in : kX3_removeFirst ∈ wT := inT2 (i := 103) rfl rfl
theorem hX3_removeFirst : yX3_removeFirst.cls ≠ "java/lang/invoke/MethodHandle" ∧ yX3_removeFirst.cls ≠ "java/lang/invoke/VarHandle" ∧ (parseMethodDescriptor yX3_removeFirst.desc).map (fun d => d.parameters.length) = some 0 := by decide +kernel
abbrev yX5_add : MethodName := ⟨"MailYard$Timers", "add", "(IJIZ)V"⟩
abbrev cX5_add : ByteArray := prog_7_method_2_code
abbrev kX5_add : Cond := .code yX5_add cX5_add 6 none
theorem kX5_add_in : kX5_add ∈ wT := inT2 (i := 107) rfl rfl
theorem hX5_add : yX5_add.cls ≠ "java/lang/invoke/MethodHandle" ∧ yX5_add.cls ≠ "java/lang/invoke/VarHandle" ∧ (parseMethodDescriptor yX5_add.desc).map (fun d => d.parameters.length) = some 4 := by decide +kernel
abbrev yX6_makeLink : MethodName := ⟨"MailYard", "makeLink", "(LMailYard$Actor;I)V"⟩
abbrev cX6_makeLink : ByteArray := prog_1_method_25_code
abbrev kX6_makeLink : Cond := .code yX6_makeLink cX6_makeLink 5 none
theorem kX6_makeLink_in : kX6_makeLink ∈ wT := inT2 (i := 111) rfl rfl
theorem hX6_makeLink : yX6_makeLink.cls ≠ "java/lang/invoke/MethodHandle" ∧ yX6_makeLink.cls ≠ "java/lang/invoke/VarHandle" ∧ (parseMethodDescriptor yX6_makeLink.desc).map (fun d => d.parameters.length) = some 2 := by decide +kernel
abbrev yX6_exitReaches : MethodName := ⟨"MailYard", "exitReaches", "(LMailYard$Actor;II)V"⟩
abbrev cX6_exitReaches : ByteArray := prog_1_method_31_code
abbrev kX6_exitReaches : Cond := .code yX6_exitReaches cX6_exitReaches 4 none
theorem kX6_exitReaches_in : kX6_exitReaches ∈ wT := inT2 (i := 115) rfl rfl
theorem hX6_exitReaches : yX6_exitReaches.cls ≠ "java/lang/invoke/MethodHandle" ∧ yX6_exitReaches.cls ≠ "java/lang/invoke/VarHandle" ∧ (parseMethodDescriptor yX6_exitReaches.desc).map (fun d => d.parameters.length) = some 3 := by decide +kernel
abbrev yX0_isLinkedWith : MethodName := ⟨"MailYard$Actor", "isLinkedWith", "(LMailYard$Actor;)Z"⟩
abbrev cX0_isLinkedWith : ByteArray := prog_2_method_3_code
abbrev kX0_isLinkedWith : Cond := .code yX0_isLinkedWith cX0_isLinkedWith 2 (some (.boolean))
theorem kX0_isLinkedWith_in : kX0_isLinkedWith ∈ wT := inT2 (i := 119) rfl rfl
theorem hX0_isLinkedWith : yX0_isLinkedWith.cls ≠ "java/lang/invoke/MethodHandle" ∧ yX0_isLinkedWith.cls ≠ "java/lang/invoke/VarHandle" ∧ (parseMethodDescriptor yX0_isLinkedWith.desc).map (fun d => d.parameters.length) = some 1 := by decide +kernel
abbrev yX0_setLink : MethodName := ⟨"MailYard$Actor", "setLink", "(LMailYard$Actor;Z)V"⟩
abbrev cX0_setLink : ByteArray := prog_2_method_4_code
abbrev kX0_setLink : Cond := .code yX0_setLink cX0_setLink 4 none
theorem kX0_setLink_in : kX0_setLink ∈ wT := inT2 (i := 123) rfl rfl
theorem hX0_setLink : yX0_setLink.cls ≠ "java/lang/invoke/MethodHandle" ∧ yX0_setLink.cls ≠ "java/lang/invoke/VarHandle" ∧ (parseMethodDescriptor yX0_setLink.desc).map (fun d => d.parameters.length) = some 2 := by decide +kernel
abbrev yX4_add : MethodName := ⟨"MailYard$Outputs", "add", "(II)V"⟩
abbrev cX4_add : ByteArray := prog_6_method_3_code
abbrev kX4_add : Cond := .code yX4_add cX4_add 3 none
theorem kX4_add_in : kX4_add ∈ wT := inT2 (i := 127) rfl rfl
theorem hX4_add : yX4_add.cls ≠ "java/lang/invoke/MethodHandle" ∧ yX4_add.cls ≠ "java/lang/invoke/VarHandle" ∧ (parseMethodDescriptor yX4_add.desc).map (fun d => d.parameters.length) = some 2 := by decide +kernel
abbrev yX6_settle : MethodName := ⟨"MailYard", "settle", "(LMailYard$Actor;)V"⟩
abbrev cX6_settle : ByteArray := prog_1_method_33_code
abbrev kX6_settle : Cond := .code yX6_settle cX6_settle 4 none
theorem kX6_settle_in : kX6_settle ∈ wT := inT2 (i := 131) rfl rfl
theorem hX6_settle : yX6_settle.cls ≠ "java/lang/invoke/MethodHandle" ∧ yX6_settle.cls ≠ "java/lang/invoke/VarHandle" ∧ (parseMethodDescriptor yX6_settle.desc).map (fun d => d.parameters.length) = some 1 := by decide +kernel
abbrev yX6_bury : MethodName := ⟨"MailYard", "bury", "(LMailYard$Actor;)V"⟩
abbrev cX6_bury : ByteArray := prog_1_method_34_code
abbrev kX6_bury : Cond := .code yX6_bury cX6_bury 2 none
theorem kX6_bury_in : kX6_bury ∈ wT := inT2 (i := 135) rfl rfl
theorem hX6_bury : yX6_bury.cls ≠ "java/lang/invoke/MethodHandle" ∧ yX6_bury.cls ≠ "java/lang/invoke/VarHandle" ∧ (parseMethodDescriptor yX6_bury.desc).map (fun d => d.parameters.length) = some 1 := by decide +kernel
abbrev yX5_removeAllOf : MethodName := ⟨"MailYard$Timers", "removeAllOf", "(I)V"⟩
abbrev cX5_removeAllOf : ByteArray := prog_7_method_6_code
abbrev kX5_removeAllOf : Cond := .code yX5_removeAllOf cX5_removeAllOf 3 none
theorem kX5_removeAllOf_in : kX5_removeAllOf ∈ wT := inT2 (i := 139) rfl rfl
theorem hX5_removeAllOf : yX5_removeAllOf.cls ≠ "java/lang/invoke/MethodHandle" ∧ yX5_removeAllOf.cls ≠ "java/lang/invoke/VarHandle" ∧ (parseMethodDescriptor yX5_removeAllOf.desc).map (fun d => d.parameters.length) = some 1 := by decide +kernel
abbrev yX3_clear : MethodName := ⟨"MailYard$Mailbox", "clear", "()V"⟩
abbrev cX3_clear : ByteArray := prog_5_method_2_code
abbrev kX3_clear : Cond := .code yX3_clear cX3_clear 1 none
theorem kX3_clear_in : kX3_clear ∈ wT := inT2 (i := 144) rfl rfl
theorem hX3_clear : yX3_clear.cls ≠ "java/lang/invoke/MethodHandle" ∧ yX3_clear.cls ≠ "java/lang/invoke/VarHandle" ∧ (parseMethodDescriptor yX3_clear.desc).map (fun d => d.parameters.length) = some 0 := by decide +kernel
abbrev yX6_dropLink : MethodName := ⟨"MailYard", "dropLink", "(LMailYard$Actor;LMailYard$Actor;)V"⟩
abbrev cX6_dropLink : ByteArray := prog_1_method_35_code
abbrev kX6_dropLink : Cond := .code yX6_dropLink cX6_dropLink 3 none
theorem kX6_dropLink_in : kX6_dropLink ∈ wT := inT2 (i := 148) rfl rfl
theorem hX6_dropLink : yX6_dropLink.cls ≠ "java/lang/invoke/MethodHandle" ∧ yX6_dropLink.cls ≠ "java/lang/invoke/VarHandle" ∧ (parseMethodDescriptor yX6_dropLink.desc).map (fun d => d.parameters.length) = some 2 := by decide +kernel
abbrev yX6_tellOverseer : MethodName := ⟨"MailYard", "tellOverseer", "(LMailYard$Actor;)V"⟩
abbrev cX6_tellOverseer : ByteArray := prog_1_method_36_code
abbrev kX6_tellOverseer : Cond := .code yX6_tellOverseer cX6_tellOverseer 3 none
theorem kX6_tellOverseer_in : kX6_tellOverseer ∈ wT := inT2 (i := 152) rfl rfl
theorem hX6_tellOverseer : yX6_tellOverseer.cls ≠ "java/lang/invoke/MethodHandle" ∧ yX6_tellOverseer.cls ≠ "java/lang/invoke/VarHandle" ∧ (parseMethodDescriptor yX6_tellOverseer.desc).map (fun d => d.parameters.length) = some 1 := by decide +kernel
abbrev yX0_mayBeginAnew : MethodName := ⟨"MailYard$Actor", "mayBeginAnew", "(J)Z"⟩
abbrev cX0_mayBeginAnew : ByteArray := prog_2_method_5_code
abbrev kX0_mayBeginAnew : Cond := .code yX0_mayBeginAnew cX0_mayBeginAnew 3 (some (.boolean))
theorem kX0_mayBeginAnew_in : kX0_mayBeginAnew ∈ wT := inT2 (i := 156) rfl rfl
theorem hX0_mayBeginAnew : yX0_mayBeginAnew.cls ≠ "java/lang/invoke/MethodHandle" ∧ yX0_mayBeginAnew.cls ≠ "java/lang/invoke/VarHandle" ∧ (parseMethodDescriptor yX0_mayBeginAnew.desc).map (fun d => d.parameters.length) = some 1 := by decide +kernel
abbrev yX0_noteBegunAnew : MethodName := ⟨"MailYard$Actor", "noteBegunAnew", "(J)V"⟩
abbrev cX0_noteBegunAnew : ByteArray := prog_2_method_6_code
abbrev kX0_noteBegunAnew : Cond := .code yX0_noteBegunAnew cX0_noteBegunAnew 3 none
theorem kX0_noteBegunAnew_in : kX0_noteBegunAnew ∈ wT := inT2 (i := 161) rfl rfl
theorem hX0_noteBegunAnew : yX0_noteBegunAnew.cls ≠ "java/lang/invoke/MethodHandle" ∧ yX0_noteBegunAnew.cls ≠ "java/lang/invoke/VarHandle" ∧ (parseMethodDescriptor yX0_noteBegunAnew.desc).map (fun d => d.parameters.length) = some 1 := by decide +kernel
abbrev yX6_run : MethodName := ⟨"MailYard", "run", "(I)I"⟩
abbrev cX6_run : ByteArray := prog_1_method_6_code
abbrev kX6_run : Cond := .code yX6_run cX6_run 3 (some (.int))
theorem kX6_run_in : kX6_run ∈ wT := inT2 (i := 168) rfl rfl
theorem hX6_run : yX6_run.cls ≠ "java/lang/invoke/MethodHandle" ∧ yX6_run.cls ≠ "java/lang/invoke/VarHandle" ∧ (parseMethodDescriptor yX6_run.desc).map (fun d => d.parameters.length) = some 1 := by decide +kernel
abbrev yX6_tick : MethodName := ⟨"MailYard", "tick", "()I"⟩
abbrev cX6_tick : ByteArray := prog_1_method_7_code
abbrev kX6_tick : Cond := .code yX6_tick cX6_tick 4 (some (.int))
theorem kX6_tick_in : kX6_tick ∈ wT := inT2 (i := 172) rfl rfl
theorem hX6_tick : yX6_tick.cls ≠ "java/lang/invoke/MethodHandle" ∧ yX6_tick.cls ≠ "java/lang/invoke/VarHandle" ∧ (parseMethodDescriptor yX6_tick.desc).map (fun d => d.parameters.length) = some 0 := by decide +kernel
abbrev yX5_firstEnding : MethodName := ⟨"MailYard$Timers", "firstEnding", "(J)I"⟩
abbrev cX5_firstEnding : ByteArray := prog_7_method_3_code
abbrev kX5_firstEnding : Cond := .code yX5_firstEnding cX5_firstEnding 4 (some (.int))
theorem kX5_firstEnding_in : kX5_firstEnding ∈ wT := inT2 (i := 176) rfl rfl
theorem hX5_firstEnding : yX5_firstEnding.cls ≠ "java/lang/invoke/MethodHandle" ∧ yX5_firstEnding.cls ≠ "java/lang/invoke/VarHandle" ∧ (parseMethodDescriptor yX5_firstEnding.desc).map (fun d => d.parameters.length) = some 1 := by decide +kernel
abbrev yX6_ring : MethodName := ⟨"MailYard", "ring", "(I)V"⟩
abbrev cX6_ring : ByteArray := prog_1_method_30_code
abbrev kX6_ring : Cond := .code yX6_ring cX6_ring 5 none
theorem kX6_ring_in : kX6_ring ∈ wT := inT2 (i := 180) rfl rfl
theorem hX6_ring : yX6_ring.cls ≠ "java/lang/invoke/MethodHandle" ∧ yX6_ring.cls ≠ "java/lang/invoke/VarHandle" ∧ (parseMethodDescriptor yX6_ring.desc).map (fun d => d.parameters.length) = some 1 := by decide +kernel
abbrev yX6_status : MethodName := ⟨"MailYard", "status", "(I)I"⟩
abbrev cX6_status : ByteArray := prog_1_method_8_code
abbrev kX6_status : Cond := .code yX6_status cX6_status 3 (some (.int))
theorem kX6_status_in : kX6_status ∈ wT := inT2 (i := 184) rfl rfl
theorem hX6_status : yX6_status.cls ≠ "java/lang/invoke/MethodHandle" ∧ yX6_status.cls ≠ "java/lang/invoke/VarHandle" ∧ (parseMethodDescriptor yX6_status.desc).map (fun d => d.parameters.length) = some 1 := by decide +kernel
abbrev yX6_register : MethodName := ⟨"MailYard", "register", "(II)I"⟩
abbrev cX6_register : ByteArray := prog_1_method_9_code
abbrev kX6_register : Cond := .code yX6_register cX6_register 4 (some (.int))
theorem kX6_register_in : kX6_register ∈ wT := inT2 (i := 188) rfl rfl
theorem hX6_register : yX6_register.cls ≠ "java/lang/invoke/MethodHandle" ∧ yX6_register.cls ≠ "java/lang/invoke/VarHandle" ∧ (parseMethodDescriptor yX6_register.desc).map (fun d => d.parameters.length) = some 2 := by decide +kernel
abbrev yX6_place : MethodName := ⟨"MailYard", "place", "(I)I"⟩
abbrev cX6_place : ByteArray := prog_1_method_10_code
abbrev kX6_place : Cond := .code yX6_place cX6_place 3 (some (.int))
theorem kX6_place_in : kX6_place ∈ wT := inT2 (i := 193) rfl rfl
theorem hX6_place : yX6_place.cls ≠ "java/lang/invoke/MethodHandle" ∧ yX6_place.cls ≠ "java/lang/invoke/VarHandle" ∧ (parseMethodDescriptor yX6_place.desc).map (fun d => d.parameters.length) = some 1 := by decide +kernel
abbrev yX6_mail : MethodName := ⟨"MailYard", "mail", "(I)I"⟩
abbrev cX6_mail : ByteArray := prog_1_method_11_code
abbrev kX6_mail : Cond := .code yX6_mail cX6_mail 3 (some (.int))
theorem kX6_mail_in : kX6_mail ∈ wT := inT2 (i := 197) rfl rfl
theorem hX6_mail : yX6_mail.cls ≠ "java/lang/invoke/MethodHandle" ∧ yX6_mail.cls ≠ "java/lang/invoke/VarHandle" ∧ (parseMethodDescriptor yX6_mail.desc).map (fun d => d.parameters.length) = some 1 := by decide +kernel
abbrev yX6_message : MethodName := ⟨"MailYard", "message", "(II)I"⟩
abbrev cX6_message : ByteArray := prog_1_method_12_code
abbrev kX6_message : Cond := .code yX6_message cX6_message 4 (some (.int))
theorem kX6_message_in : kX6_message ∈ wT := inT2 (i := 201) rfl rfl
theorem hX6_message : yX6_message.cls ≠ "java/lang/invoke/MethodHandle" ∧ yX6_message.cls ≠ "java/lang/invoke/VarHandle" ∧ (parseMethodDescriptor yX6_message.desc).map (fun d => d.parameters.length) = some 2 := by decide +kernel
abbrev yX6_linked : MethodName := ⟨"MailYard", "linked", "(II)Z"⟩
abbrev cX6_linked : ByteArray := prog_1_method_13_code
abbrev kX6_linked : Cond := .code yX6_linked cX6_linked 5 (some (.boolean))
theorem kX6_linked_in : kX6_linked ∈ wT := inT2 (i := 205) rfl rfl
theorem hX6_linked : yX6_linked.cls ≠ "java/lang/invoke/MethodHandle" ∧ yX6_linked.cls ≠ "java/lang/invoke/VarHandle" ∧ (parseMethodDescriptor yX6_linked.desc).map (fun d => d.parameters.length) = some 2 := by decide +kernel
abbrev yX6_supervisor : MethodName := ⟨"MailYard", "supervisor", "(I)I"⟩
abbrev cX6_supervisor : ByteArray := prog_1_method_14_code
abbrev kX6_supervisor : Cond := .code yX6_supervisor cX6_supervisor 3 (some (.int))
theorem kX6_supervisor_in : kX6_supervisor ∈ wT := inT2 (i := 209) rfl rfl
theorem hX6_supervisor : yX6_supervisor.cls ≠ "java/lang/invoke/MethodHandle" ∧ yX6_supervisor.cls ≠ "java/lang/invoke/VarHandle" ∧ (parseMethodDescriptor yX6_supervisor.desc).map (fun d => d.parameters.length) = some 1 := by decide +kernel
abbrev yX6_restarts : MethodName := ⟨"MailYard", "restarts", "(I)I"⟩
abbrev cX6_restarts : ByteArray := prog_1_method_15_code
abbrev kX6_restarts : Cond := .code yX6_restarts cX6_restarts 3 (some (.int))
theorem kX6_restarts_in : kX6_restarts ∈ wT := inT2 (i := 213) rfl rfl
theorem hX6_restarts : yX6_restarts.cls ≠ "java/lang/invoke/MethodHandle" ∧ yX6_restarts.cls ≠ "java/lang/invoke/VarHandle" ∧ (parseMethodDescriptor yX6_restarts.desc).map (fun d => d.parameters.length) = some 1 := by decide +kernel
abbrev yX6_queue : MethodName := ⟨"MailYard", "queue", "(I)I"⟩
abbrev cX6_queue : ByteArray := prog_1_method_16_code
abbrev kX6_queue : Cond := .code yX6_queue cX6_queue 3 (some (.int))
theorem kX6_queue_in : kX6_queue ∈ wT := inT2 (i := 217) rfl rfl
theorem hX6_queue : yX6_queue.cls ≠ "java/lang/invoke/MethodHandle" ∧ yX6_queue.cls ≠ "java/lang/invoke/VarHandle" ∧ (parseMethodDescriptor yX6_queue.desc).map (fun d => d.parameters.length) = some 1 := by decide +kernel
abbrev yX6_room : MethodName := ⟨"MailYard", "room", "()I"⟩
abbrev cX6_room : ByteArray := prog_1_method_17_code
abbrev kX6_room : Cond := .code yX6_room cX6_room 1 (some (.int))
theorem kX6_room_in : kX6_room ∈ wT := inT2 (i := 221) rfl rfl
theorem hX6_room : yX6_room.cls ≠ "java/lang/invoke/MethodHandle" ∧ yX6_room.cls ≠ "java/lang/invoke/VarHandle" ∧ (parseMethodDescriptor yX6_room.desc).map (fun d => d.parameters.length) = some 0 := by decide +kernel
abbrev yX6_lost : MethodName := ⟨"MailYard", "lost", "()I"⟩
abbrev cX6_lost : ByteArray := prog_1_method_18_code
abbrev kX6_lost : Cond := .code yX6_lost cX6_lost 1 (some (.int))
theorem kX6_lost_in : kX6_lost ∈ wT := inT2 (i := 225) rfl rfl
theorem hX6_lost : yX6_lost.cls ≠ "java/lang/invoke/MethodHandle" ∧ yX6_lost.cls ≠ "java/lang/invoke/VarHandle" ∧ (parseMethodDescriptor yX6_lost.desc).map (fun d => d.parameters.length) = some 0 := by decide +kernel
abbrev yX6_timers : MethodName := ⟨"MailYard", "timers", "()I"⟩
abbrev cX6_timers : ByteArray := prog_1_method_19_code
abbrev kX6_timers : Cond := .code yX6_timers cX6_timers 1 (some (.int))
theorem kX6_timers_in : kX6_timers ∈ wT := inT2 (i := 229) rfl rfl
theorem hX6_timers : yX6_timers.cls ≠ "java/lang/invoke/MethodHandle" ∧ yX6_timers.cls ≠ "java/lang/invoke/VarHandle" ∧ (parseMethodDescriptor yX6_timers.desc).map (fun d => d.parameters.length) = some 0 := by decide +kernel
abbrev yX6_output : MethodName := ⟨"MailYard", "output", "(I)I"⟩
abbrev cX6_output : ByteArray := prog_1_method_20_code
abbrev kX6_output : Cond := .code yX6_output cX6_output 2 (some (.int))
theorem kX6_output_in : kX6_output ∈ wT := inT2 (i := 233) rfl rfl
theorem hX6_output : yX6_output.cls ≠ "java/lang/invoke/MethodHandle" ∧ yX6_output.cls ≠ "java/lang/invoke/VarHandle" ∧ (parseMethodDescriptor yX6_output.desc).map (fun d => d.parameters.length) = some 1 := by decide +kernel
abbrev yX4_has : MethodName := ⟨"MailYard$Outputs", "has", "(I)Z"⟩
abbrev cX4_has : ByteArray := prog_6_method_2_code
abbrev kX4_has : Cond := .code yX4_has cX4_has 2 (some (.boolean))
theorem kX4_has_in : kX4_has ∈ wT := inT2 (i := 237) rfl rfl
theorem hX4_has : yX4_has.cls ≠ "java/lang/invoke/MethodHandle" ∧ yX4_has.cls ≠ "java/lang/invoke/VarHandle" ∧ (parseMethodDescriptor yX4_has.desc).map (fun d => d.parameters.length) = some 1 := by decide +kernel
abbrev yX6_author : MethodName := ⟨"MailYard", "author", "(I)I"⟩
abbrev cX6_author : ByteArray := prog_1_method_21_code
abbrev kX6_author : Cond := .code yX6_author cX6_author 2 (some (.int))
theorem kX6_author_in : kX6_author ∈ wT := inT3 (i := 1) rfl rfl
theorem hX6_author : yX6_author.cls ≠ "java/lang/invoke/MethodHandle" ∧ yX6_author.cls ≠ "java/lang/invoke/VarHandle" ∧ (parseMethodDescriptor yX6_author.desc).map (fun d => d.parameters.length) = some 1 := by decide +kernel
abbrev yX7_init : MethodName := ⟨"MailYardModel", "<init>", "()V"⟩
abbrev cX7_init : ByteArray := prog_9_method_1_code
abbrev kX7_init : Cond := .code yX7_init cX7_init 1 none
theorem kX7_init_in : kX7_init ∈ wT := inT3 (i := 6) rfl rfl
theorem hX7_init : yX7_init.cls ≠ "java/lang/invoke/MethodHandle" ∧ yX7_init.cls ≠ "java/lang/invoke/VarHandle" ∧ (parseMethodDescriptor yX7_init.desc).map (fun d => d.parameters.length) = some 0 := by decide +kernel
abbrev yX7_load : MethodName := ⟨"MailYardModel", "load", "(IIII)Z"⟩
abbrev cX7_load : ByteArray := prog_9_method_4_code
abbrev kX7_load : Cond := .code yX7_load cX7_load 5 (some (.boolean))
theorem kX7_load_in : kX7_load ∈ wT := inT3 (i := 123) rfl rfl
theorem hX7_load : yX7_load.cls ≠ "java/lang/invoke/MethodHandle" ∧ yX7_load.cls ≠ "java/lang/invoke/VarHandle" ∧ (parseMethodDescriptor yX7_load.desc).map (fun d => d.parameters.length) = some 4 := by decide +kernel
abbrev yX7_within : MethodName := ⟨"MailYardModel", "within", "(III)Z"⟩
abbrev cX7_within : ByteArray := prog_9_method_2_code
abbrev kX7_within : Cond := .code yX7_within cX7_within 3 (some (.boolean))
theorem kX7_within_in : kX7_within ∈ wT := inT3 (i := 126) rfl rfl
theorem hX7_within : yX7_within.cls ≠ "java/lang/invoke/MethodHandle" ∧ yX7_within.cls ≠ "java/lang/invoke/VarHandle" ∧ (parseMethodDescriptor yX7_within.desc).map (fun d => d.parameters.length) = some 3 := by decide +kernel
abbrev yX7_spawn : MethodName := ⟨"MailYardModel", "spawn", "(II)I"⟩
abbrev cX7_spawn : ByteArray := prog_9_method_8_code
abbrev kX7_spawn : Cond := .code yX7_spawn cX7_spawn 4 (some (.int))
theorem kX7_spawn_in : kX7_spawn ∈ wT := inT3 (i := 130) rfl rfl
theorem hX7_spawn : yX7_spawn.cls ≠ "java/lang/invoke/MethodHandle" ∧ yX7_spawn.cls ≠ "java/lang/invoke/VarHandle" ∧ (parseMethodDescriptor yX7_spawn.desc).map (fun d => d.parameters.length) = some 2 := by decide +kernel
abbrev yX7_begin : MethodName := ⟨"MailYardModel", "begin", "(III)I"⟩
abbrev cX7_begin : ByteArray := prog_9_method_7_code
abbrev kX7_begin : Cond := .code yX7_begin cX7_begin 6 (some (.int))
theorem kX7_begin_in : kX7_begin ∈ wT := inT3 (i := 134) rfl rfl
theorem hX7_begin : yX7_begin.cls ≠ "java/lang/invoke/MethodHandle" ∧ yX7_begin.cls ≠ "java/lang/invoke/VarHandle" ∧ (parseMethodDescriptor yX7_begin.desc).map (fun d => d.parameters.length) = some 3 := by decide +kernel
abbrev yX7_enqueue : MethodName := ⟨"MailYardModel", "enqueue", "(I)V"⟩
abbrev cX7_enqueue : ByteArray := prog_9_method_5_code
abbrev kX7_enqueue : Cond := .code yX7_enqueue cX7_enqueue 2 none
theorem kX7_enqueue_in : kX7_enqueue ∈ wT := inT3 (i := 138) rfl rfl
theorem hX7_enqueue : yX7_enqueue.cls ≠ "java/lang/invoke/MethodHandle" ∧ yX7_enqueue.cls ≠ "java/lang/invoke/VarHandle" ∧ (parseMethodDescriptor yX7_enqueue.desc).map (fun d => d.parameters.length) = some 1 := by decide +kernel
abbrev yX7_inject : MethodName := ⟨"MailYardModel", "inject", "(II)I"⟩
abbrev cX7_inject : ByteArray := prog_9_method_16_code
abbrev kX7_inject : Cond := .code yX7_inject cX7_inject 3 (some (.int))
theorem kX7_inject_in : kX7_inject ∈ wT := inT3 (i := 142) rfl rfl
theorem hX7_inject : yX7_inject.cls ≠ "java/lang/invoke/MethodHandle" ∧ yX7_inject.cls ≠ "java/lang/invoke/VarHandle" ∧ (parseMethodDescriptor yX7_inject.desc).map (fun d => d.parameters.length) = some 2 := by decide +kernel
abbrev yX7_find : MethodName := ⟨"MailYardModel", "find", "(I)I"⟩
abbrev cX7_find : ByteArray := prog_9_method_3_code
abbrev kX7_find : Cond := .code yX7_find cX7_find 4 (some (.int))
theorem kX7_find_in : kX7_find ∈ wT := inT3 (i := 146) rfl rfl
theorem hX7_find : yX7_find.cls ≠ "java/lang/invoke/MethodHandle" ∧ yX7_find.cls ≠ "java/lang/invoke/VarHandle" ∧ (parseMethodDescriptor yX7_find.desc).map (fun d => d.parameters.length) = some 1 := by decide +kernel
abbrev yX7_freeCells : MethodName := ⟨"MailYardModel", "freeCells", "()I"⟩
abbrev cX7_freeCells : ByteArray := prog_9_method_9_code
abbrev kX7_freeCells : Cond := .code yX7_freeCells cX7_freeCells 1 (some (.int))
theorem kX7_freeCells_in : kX7_freeCells ∈ wT := inT3 (i := 150) rfl rfl
theorem hX7_freeCells : yX7_freeCells.cls ≠ "java/lang/invoke/MethodHandle" ∧ yX7_freeCells.cls ≠ "java/lang/invoke/VarHandle" ∧ (parseMethodDescriptor yX7_freeCells.desc).map (fun d => d.parameters.length) = some 0 := by decide +kernel
abbrev yX7_post : MethodName := ⟨"MailYardModel", "post", "(III)V"⟩
abbrev cX7_post : ByteArray := prog_9_method_13_code
abbrev kX7_post : Cond := .code yX7_post cX7_post 5 none
theorem kX7_post_in : kX7_post ∈ wT := inT3 (i := 154) rfl rfl
theorem hX7_post : yX7_post.cls ≠ "java/lang/invoke/MethodHandle" ∧ yX7_post.cls ≠ "java/lang/invoke/VarHandle" ∧ (parseMethodDescriptor yX7_post.desc).map (fun d => d.parameters.length) = some 3 := by decide +kernel
abbrev yX7_come : MethodName := ⟨"MailYardModel", "come", "(III)V"⟩
abbrev cX7_come : ByteArray := prog_9_method_12_code
abbrev kX7_come : Cond := .code yX7_come cX7_come 4 none
theorem kX7_come_in : kX7_come ∈ wT := inT3 (i := 158) rfl rfl
theorem hX7_come : yX7_come.cls ≠ "java/lang/invoke/MethodHandle" ∧ yX7_come.cls ≠ "java/lang/invoke/VarHandle" ∧ (parseMethodDescriptor yX7_come.desc).map (fun d => d.parameters.length) = some 3 := by decide +kernel
abbrev yX7_stopClocks : MethodName := ⟨"MailYardModel", "stopClocks", "(IZ)V"⟩
abbrev cX7_stopClocks : ByteArray := prog_9_method_11_code
abbrev kX7_stopClocks : Cond := .code yX7_stopClocks cX7_stopClocks 4 none
theorem kX7_stopClocks_in : kX7_stopClocks ∈ wT := inT3 (i := 162) rfl rfl
theorem hX7_stopClocks : yX7_stopClocks.cls ≠ "java/lang/invoke/MethodHandle" ∧ yX7_stopClocks.cls ≠ "java/lang/invoke/VarHandle" ∧ (parseMethodDescriptor yX7_stopClocks.desc).map (fun d => d.parameters.length) = some 2 := by decide +kernel
abbrev yX7_dropClock : MethodName := ⟨"MailYardModel", "dropClock", "(I)V"⟩
abbrev cX7_dropClock : ByteArray := prog_9_method_10_code
abbrev kX7_dropClock : Cond := .code yX7_dropClock cX7_dropClock 3 none
theorem kX7_dropClock_in : kX7_dropClock ∈ wT := inT3 (i := 166) rfl rfl
theorem hX7_dropClock : yX7_dropClock.cls ≠ "java/lang/invoke/MethodHandle" ∧ yX7_dropClock.cls ≠ "java/lang/invoke/VarHandle" ∧ (parseMethodDescriptor yX7_dropClock.desc).map (fun d => d.parameters.length) = some 1 := by decide +kernel
abbrev yX7_step : MethodName := ⟨"MailYardModel", "step", "()I"⟩
abbrev cX7_step : ByteArray := prog_9_method_30_code
abbrev kX7_step : Cond := .code yX7_step cX7_step 4 (some (.int))
theorem kX7_step_in : kX7_step ∈ wT := inT3 (i := 170) rfl rfl
theorem hX7_step : yX7_step.cls ≠ "java/lang/invoke/MethodHandle" ∧ yX7_step.cls ≠ "java/lang/invoke/VarHandle" ∧ (parseMethodDescriptor yX7_step.desc).map (fun d => d.parameters.length) = some 0 := by decide +kernel
abbrev yX7_act : MethodName := ⟨"MailYardModel", "act", "(IIII)V"⟩
abbrev cX7_act : ByteArray := prog_9_method_29_code
abbrev kX7_act : Cond := .code yX7_act cX7_act 7 none
theorem kX7_act_in : kX7_act ∈ wT := inT3 (i := 174) rfl rfl
theorem hX7_act : yX7_act.cls ≠ "java/lang/invoke/MethodHandle" ∧ yX7_act.cls ≠ "java/lang/invoke/VarHandle" ∧ (parseMethodDescriptor yX7_act.desc).map (fun d => d.parameters.length) = some 4 := by decide +kernel
abbrev yX7_take : MethodName := ⟨"MailYardModel", "take", "(III)V"⟩
abbrev cX7_take : ByteArray := prog_9_method_25_code
abbrev kX7_take : Cond := .code yX7_take cX7_take 5 none
theorem kX7_take_in : kX7_take ∈ wT := inT3 (i := 178) rfl rfl
theorem hX7_take : yX7_take.cls ≠ "java/lang/invoke/MethodHandle" ∧ yX7_take.cls ≠ "java/lang/invoke/VarHandle" ∧ (parseMethodDescriptor yX7_take.desc).map (fun d => d.parameters.length) = some 3 := by decide +kernel
abbrev yX7_mailAt : MethodName := ⟨"MailYardModel", "mailAt", "(II)I"⟩
abbrev cX7_mailAt : ByteArray := prog_9_method_15_code
abbrev kX7_mailAt : Cond := .code yX7_mailAt cX7_mailAt 5 (some (.int))
theorem kX7_mailAt_in : kX7_mailAt ∈ wT := inT3 (i := 182) rfl rfl
theorem hX7_mailAt : yX7_mailAt.cls ≠ "java/lang/invoke/MethodHandle" ∧ yX7_mailAt.cls ≠ "java/lang/invoke/VarHandle" ∧ (parseMethodDescriptor yX7_mailAt.desc).map (fun d => d.parameters.length) = some 2 := by decide +kernel
abbrev yX7_takeMail : MethodName := ⟨"MailYardModel", "takeMail", "(I)V"⟩
abbrev cX7_takeMail : ByteArray := prog_9_method_14_code
abbrev kX7_takeMail : Cond := .code yX7_takeMail cX7_takeMail 3 none
theorem kX7_takeMail_in : kX7_takeMail ∈ wT := inT3 (i := 186) rfl rfl
theorem hX7_takeMail : yX7_takeMail.cls ≠ "java/lang/invoke/MethodHandle" ∧ yX7_takeMail.cls ≠ "java/lang/invoke/VarHandle" ∧ (parseMethodDescriptor yX7_takeMail.desc).map (fun d => d.parameters.length) = some 1 := by decide +kernel
abbrev yX7_leave : MethodName := ⟨"MailYardModel", "leave", "(I)V"⟩
abbrev cX7_leave : ByteArray := prog_9_method_6_code
abbrev kX7_leave : Cond := .code yX7_leave cX7_leave 4 none
theorem kX7_leave_in : kX7_leave ∈ wT := inT3 (i := 190) rfl rfl
theorem hX7_leave : yX7_leave.cls ≠ "java/lang/invoke/MethodHandle" ∧ yX7_leave.cls ≠ "java/lang/invoke/VarHandle" ∧ (parseMethodDescriptor yX7_leave.desc).map (fun d => d.parameters.length) = some 1 := by decide +kernel
abbrev yX7_clock : MethodName := ⟨"MailYardModel", "clock", "(IIIZ)V"⟩
abbrev cX7_clock : ByteArray := prog_9_method_26_code
abbrev kX7_clock : Cond := .code yX7_clock cX7_clock 5 none
theorem kX7_clock_in : kX7_clock ∈ wT := inT3 (i := 194) rfl rfl
theorem hX7_clock : yX7_clock.cls ≠ "java/lang/invoke/MethodHandle" ∧ yX7_clock.cls ≠ "java/lang/invoke/VarHandle" ∧ (parseMethodDescriptor yX7_clock.desc).map (fun d => d.parameters.length) = some 4 := by decide +kernel
abbrev yX7_link : MethodName := ⟨"MailYardModel", "link", "(II)V"⟩
abbrev cX7_link : ByteArray := prog_9_method_27_code
abbrev kX7_link : Cond := .code yX7_link cX7_link 4 none
theorem kX7_link_in : kX7_link ∈ wT := inT3 (i := 198) rfl rfl
theorem hX7_link : yX7_link.cls ≠ "java/lang/invoke/MethodHandle" ∧ yX7_link.cls ≠ "java/lang/invoke/VarHandle" ∧ (parseMethodDescriptor yX7_link.desc).map (fun d => d.parameters.length) = some 2 := by decide +kernel
abbrev yX7_linkAt : MethodName := ⟨"MailYardModel", "linkAt", "(II)I"⟩
abbrev cX7_linkAt : ByteArray := prog_9_method_18_code
abbrev kX7_linkAt : Cond := .code yX7_linkAt cX7_linkAt 6 (some (.int))
theorem kX7_linkAt_in : kX7_linkAt ∈ wT := inT3 (i := 202) rfl rfl
theorem hX7_linkAt : yX7_linkAt.cls ≠ "java/lang/invoke/MethodHandle" ∧ yX7_linkAt.cls ≠ "java/lang/invoke/VarHandle" ∧ (parseMethodDescriptor yX7_linkAt.desc).map (fun d => d.parameters.length) = some 2 := by decide +kernel
abbrev yX7_exitReaches : MethodName := ⟨"MailYardModel", "exitReaches", "(III)V"⟩
abbrev cX7_exitReaches : ByteArray := prog_9_method_20_code
abbrev kX7_exitReaches : Cond := .code yX7_exitReaches cX7_exitReaches 4 none
theorem kX7_exitReaches_in : kX7_exitReaches ∈ wT := inT3 (i := 206) rfl rfl
theorem hX7_exitReaches : yX7_exitReaches.cls ≠ "java/lang/invoke/MethodHandle" ∧ yX7_exitReaches.cls ≠ "java/lang/invoke/VarHandle" ∧ (parseMethodDescriptor yX7_exitReaches.desc).map (fun d => d.parameters.length) = some 3 := by decide +kernel
abbrev yX7_ends : MethodName := ⟨"MailYardModel", "ends", "(II)V"⟩
abbrev cX7_ends : ByteArray := prog_9_method_17_code
abbrev kX7_ends : Cond := .code yX7_ends cX7_ends 3 none
theorem kX7_ends_in : kX7_ends ∈ wT := inT3 (i := 210) rfl rfl
theorem hX7_ends : yX7_ends.cls ≠ "java/lang/invoke/MethodHandle" ∧ yX7_ends.cls ≠ "java/lang/invoke/VarHandle" ∧ (parseMethodDescriptor yX7_ends.desc).map (fun d => d.parameters.length) = some 2 := by decide +kernel
abbrev yX7_put : MethodName := ⟨"MailYardModel", "put", "(II)V"⟩
abbrev cX7_put : ByteArray := prog_9_method_28_code
abbrev kX7_put : Cond := .code yX7_put cX7_put 3 none
theorem kX7_put_in : kX7_put ∈ wT := inT3 (i := 214) rfl rfl
theorem hX7_put : yX7_put.cls ≠ "java/lang/invoke/MethodHandle" ∧ yX7_put.cls ≠ "java/lang/invoke/VarHandle" ∧ (parseMethodDescriptor yX7_put.desc).map (fun d => d.parameters.length) = some 2 := by decide +kernel
abbrev yX7_settle : MethodName := ⟨"MailYardModel", "settle", "()V"⟩
abbrev cX7_settle : ByteArray := prog_9_method_24_code
abbrev kX7_settle : Cond := .code yX7_settle cX7_settle 2 none
theorem kX7_settle_in : kX7_settle ∈ wT := inT3 (i := 218) rfl rfl
theorem hX7_settle : yX7_settle.cls ≠ "java/lang/invoke/MethodHandle" ∧ yX7_settle.cls ≠ "java/lang/invoke/VarHandle" ∧ (parseMethodDescriptor yX7_settle.desc).map (fun d => d.parameters.length) = some 0 := by decide +kernel
abbrev yX7_end : MethodName := ⟨"MailYardModel", "end", "(II)V"⟩
abbrev cX7_end : ByteArray := prog_9_method_23_code
abbrev kX7_end : Cond := .code yX7_end cX7_end 9 none
theorem kX7_end_in : kX7_end ∈ wT := inT3 (i := 222) rfl rfl
theorem hX7_end : yX7_end.cls ≠ "java/lang/invoke/MethodHandle" ∧ yX7_end.cls ≠ "java/lang/invoke/VarHandle" ∧ (parseMethodDescriptor yX7_end.desc).map (fun d => d.parameters.length) = some 2 := by decide +kernel
abbrev yX7_nextAfter : MethodName := ⟨"MailYardModel", "nextAfter", "(IIZ)I"⟩
abbrev cX7_nextAfter : ByteArray := prog_9_method_21_code
abbrev kX7_nextAfter : Cond := .code yX7_nextAfter cX7_nextAfter 7 (some (.int))
theorem kX7_nextAfter_in : kX7_nextAfter ∈ wT := inT3 (i := 226) rfl rfl
theorem hX7_nextAfter : yX7_nextAfter.cls ≠ "java/lang/invoke/MethodHandle" ∧ yX7_nextAfter.cls ≠ "java/lang/invoke/VarHandle" ∧ (parseMethodDescriptor yX7_nextAfter.desc).map (fun d => d.parameters.length) = some 3 := by decide +kernel
abbrev yX7_unlink : MethodName := ⟨"MailYardModel", "unlink", "(I)V"⟩
abbrev cX7_unlink : ByteArray := prog_9_method_19_code
abbrev kX7_unlink : Cond := .code yX7_unlink cX7_unlink 2 none
theorem kX7_unlink_in : kX7_unlink ∈ wT := inT3 (i := 230) rfl rfl
theorem hX7_unlink : yX7_unlink.cls ≠ "java/lang/invoke/MethodHandle" ∧ yX7_unlink.cls ≠ "java/lang/invoke/VarHandle" ∧ (parseMethodDescriptor yX7_unlink.desc).map (fun d => d.parameters.length) = some 1 := by decide +kernel
abbrev yX7_mayBegin : MethodName := ⟨"MailYardModel", "mayBegin", "(I)Z"⟩
abbrev cX7_mayBegin : ByteArray := prog_9_method_22_code
abbrev kX7_mayBegin : Cond := .code yX7_mayBegin cX7_mayBegin 2 (some (.boolean))
theorem kX7_mayBegin_in : kX7_mayBegin ∈ wT := inT3 (i := 234) rfl rfl
theorem hX7_mayBegin : yX7_mayBegin.cls ≠ "java/lang/invoke/MethodHandle" ∧ yX7_mayBegin.cls ≠ "java/lang/invoke/VarHandle" ∧ (parseMethodDescriptor yX7_mayBegin.desc).map (fun d => d.parameters.length) = some 1 := by decide +kernel
abbrev yX7_run : MethodName := ⟨"MailYardModel", "run", "(I)I"⟩
abbrev cX7_run : ByteArray := prog_9_method_31_code
abbrev kX7_run : Cond := .code yX7_run cX7_run 3 (some (.int))
theorem kX7_run_in : kX7_run ∈ wT := inT3 (i := 238) rfl rfl
theorem hX7_run : yX7_run.cls ≠ "java/lang/invoke/MethodHandle" ∧ yX7_run.cls ≠ "java/lang/invoke/VarHandle" ∧ (parseMethodDescriptor yX7_run.desc).map (fun d => d.parameters.length) = some 1 := by decide +kernel
abbrev yX7_tick : MethodName := ⟨"MailYardModel", "tick", "()I"⟩
abbrev cX7_tick : ByteArray := prog_9_method_33_code
abbrev kX7_tick : Cond := .code yX7_tick cX7_tick 7 (some (.int))
theorem kX7_tick_in : kX7_tick ∈ wT := inT4 (i := 3) rfl rfl
theorem hX7_tick : yX7_tick.cls ≠ "java/lang/invoke/MethodHandle" ∧ yX7_tick.cls ≠ "java/lang/invoke/VarHandle" ∧ (parseMethodDescriptor yX7_tick.desc).map (fun d => d.parameters.length) = some 0 := by decide +kernel
abbrev yX7_due : MethodName := ⟨"MailYardModel", "due", "()I"⟩
abbrev cX7_due : ByteArray := prog_9_method_32_code
abbrev kX7_due : Cond := .code yX7_due cX7_due 3 (some (.int))
theorem kX7_due_in : kX7_due ∈ wT := inT4 (i := 7) rfl rfl
theorem hX7_due : yX7_due.cls ≠ "java/lang/invoke/MethodHandle" ∧ yX7_due.cls ≠ "java/lang/invoke/VarHandle" ∧ (parseMethodDescriptor yX7_due.desc).map (fun d => d.parameters.length) = some 0 := by decide +kernel
abbrev yX7_status : MethodName := ⟨"MailYardModel", "status", "(I)I"⟩
abbrev cX7_status : ByteArray := prog_9_method_34_code
abbrev kX7_status : Cond := .code yX7_status cX7_status 3 (some (.int))
theorem kX7_status_in : kX7_status ∈ wT := inT4 (i := 11) rfl rfl
theorem hX7_status : yX7_status.cls ≠ "java/lang/invoke/MethodHandle" ∧ yX7_status.cls ≠ "java/lang/invoke/VarHandle" ∧ (parseMethodDescriptor yX7_status.desc).map (fun d => d.parameters.length) = some 1 := by decide +kernel
abbrev yX7_register : MethodName := ⟨"MailYardModel", "register", "(II)I"⟩
abbrev cX7_register : ByteArray := prog_9_method_35_code
abbrev kX7_register : Cond := .code yX7_register cX7_register 4 (some (.int))
theorem kX7_register_in : kX7_register ∈ wT := inT4 (i := 15) rfl rfl
theorem hX7_register : yX7_register.cls ≠ "java/lang/invoke/MethodHandle" ∧ yX7_register.cls ≠ "java/lang/invoke/VarHandle" ∧ (parseMethodDescriptor yX7_register.desc).map (fun d => d.parameters.length) = some 2 := by decide +kernel
abbrev yX7_place : MethodName := ⟨"MailYardModel", "place", "(I)I"⟩
abbrev cX7_place : ByteArray := prog_9_method_36_code
abbrev kX7_place : Cond := .code yX7_place cX7_place 3 (some (.int))
theorem kX7_place_in : kX7_place ∈ wT := inT4 (i := 19) rfl rfl
theorem hX7_place : yX7_place.cls ≠ "java/lang/invoke/MethodHandle" ∧ yX7_place.cls ≠ "java/lang/invoke/VarHandle" ∧ (parseMethodDescriptor yX7_place.desc).map (fun d => d.parameters.length) = some 1 := by decide +kernel
abbrev yX7_mail : MethodName := ⟨"MailYardModel", "mail", "(I)I"⟩
abbrev cX7_mail : ByteArray := prog_9_method_37_code
abbrev kX7_mail : Cond := .code yX7_mail cX7_mail 4 (some (.int))
theorem kX7_mail_in : kX7_mail ∈ wT := inT4 (i := 23) rfl rfl
theorem hX7_mail : yX7_mail.cls ≠ "java/lang/invoke/MethodHandle" ∧ yX7_mail.cls ≠ "java/lang/invoke/VarHandle" ∧ (parseMethodDescriptor yX7_mail.desc).map (fun d => d.parameters.length) = some 1 := by decide +kernel
abbrev yX7_message : MethodName := ⟨"MailYardModel", "message", "(II)I"⟩
abbrev cX7_message : ByteArray := prog_9_method_38_code
abbrev kX7_message : Cond := .code yX7_message cX7_message 4 (some (.int))
theorem kX7_message_in : kX7_message ∈ wT := inT4 (i := 27) rfl rfl
theorem hX7_message : yX7_message.cls ≠ "java/lang/invoke/MethodHandle" ∧ yX7_message.cls ≠ "java/lang/invoke/VarHandle" ∧ (parseMethodDescriptor yX7_message.desc).map (fun d => d.parameters.length) = some 2 := by decide +kernel
abbrev yX7_linked : MethodName := ⟨"MailYardModel", "linked", "(II)Z"⟩
abbrev cX7_linked : ByteArray := prog_9_method_39_code
abbrev kX7_linked : Cond := .code yX7_linked cX7_linked 3 (some (.boolean))
theorem kX7_linked_in : kX7_linked ∈ wT := inT4 (i := 31) rfl rfl
theorem hX7_linked : yX7_linked.cls ≠ "java/lang/invoke/MethodHandle" ∧ yX7_linked.cls ≠ "java/lang/invoke/VarHandle" ∧ (parseMethodDescriptor yX7_linked.desc).map (fun d => d.parameters.length) = some 2 := by decide +kernel
abbrev yX7_supervisor : MethodName := ⟨"MailYardModel", "supervisor", "(I)I"⟩
abbrev cX7_supervisor : ByteArray := prog_9_method_40_code
abbrev kX7_supervisor : Cond := .code yX7_supervisor cX7_supervisor 3 (some (.int))
theorem kX7_supervisor_in : kX7_supervisor ∈ wT := inT4 (i := 35) rfl rfl
theorem hX7_supervisor : yX7_supervisor.cls ≠ "java/lang/invoke/MethodHandle" ∧ yX7_supervisor.cls ≠ "java/lang/invoke/VarHandle" ∧ (parseMethodDescriptor yX7_supervisor.desc).map (fun d => d.parameters.length) = some 1 := by decide +kernel
abbrev yX7_restarts : MethodName := ⟨"MailYardModel", "restarts", "(I)I"⟩
abbrev cX7_restarts : ByteArray := prog_9_method_41_code
abbrev kX7_restarts : Cond := .code yX7_restarts cX7_restarts 3 (some (.int))
theorem kX7_restarts_in : kX7_restarts ∈ wT := inT4 (i := 39) rfl rfl
theorem hX7_restarts : yX7_restarts.cls ≠ "java/lang/invoke/MethodHandle" ∧ yX7_restarts.cls ≠ "java/lang/invoke/VarHandle" ∧ (parseMethodDescriptor yX7_restarts.desc).map (fun d => d.parameters.length) = some 1 := by decide +kernel
abbrev yX7_queue : MethodName := ⟨"MailYardModel", "queue", "(I)I"⟩
abbrev cX7_queue : ByteArray := prog_9_method_42_code
abbrev kX7_queue : Cond := .code yX7_queue cX7_queue 2 (some (.int))
theorem kX7_queue_in : kX7_queue ∈ wT := inT4 (i := 43) rfl rfl
theorem hX7_queue : yX7_queue.cls ≠ "java/lang/invoke/MethodHandle" ∧ yX7_queue.cls ≠ "java/lang/invoke/VarHandle" ∧ (parseMethodDescriptor yX7_queue.desc).map (fun d => d.parameters.length) = some 1 := by decide +kernel
abbrev yX7_room : MethodName := ⟨"MailYardModel", "room", "()I"⟩
abbrev cX7_room : ByteArray := prog_9_method_43_code
abbrev kX7_room : Cond := .code yX7_room cX7_room 1 (some (.int))
theorem kX7_room_in : kX7_room ∈ wT := inT4 (i := 47) rfl rfl
theorem hX7_room : yX7_room.cls ≠ "java/lang/invoke/MethodHandle" ∧ yX7_room.cls ≠ "java/lang/invoke/VarHandle" ∧ (parseMethodDescriptor yX7_room.desc).map (fun d => d.parameters.length) = some 0 := by decide +kernel
abbrev yX7_lost : MethodName := ⟨"MailYardModel", "lost", "()I"⟩
abbrev cX7_lost : ByteArray := prog_9_method_44_code
abbrev kX7_lost : Cond := .code yX7_lost cX7_lost 1 (some (.int))
theorem kX7_lost_in : kX7_lost ∈ wT := inT4 (i := 51) rfl rfl
theorem hX7_lost : yX7_lost.cls ≠ "java/lang/invoke/MethodHandle" ∧ yX7_lost.cls ≠ "java/lang/invoke/VarHandle" ∧ (parseMethodDescriptor yX7_lost.desc).map (fun d => d.parameters.length) = some 0 := by decide +kernel
abbrev yX7_timers : MethodName := ⟨"MailYardModel", "timers", "()I"⟩
abbrev cX7_timers : ByteArray := prog_9_method_45_code
abbrev kX7_timers : Cond := .code yX7_timers cX7_timers 1 (some (.int))
theorem kX7_timers_in : kX7_timers ∈ wT := inT4 (i := 55) rfl rfl
theorem hX7_timers : yX7_timers.cls ≠ "java/lang/invoke/MethodHandle" ∧ yX7_timers.cls ≠ "java/lang/invoke/VarHandle" ∧ (parseMethodDescriptor yX7_timers.desc).map (fun d => d.parameters.length) = some 0 := by decide +kernel
abbrev yX7_output : MethodName := ⟨"MailYardModel", "output", "(I)I"⟩
abbrev cX7_output : ByteArray := prog_9_method_46_code
abbrev kX7_output : Cond := .code yX7_output cX7_output 2 (some (.int))
theorem kX7_output_in : kX7_output ∈ wT := inT4 (i := 59) rfl rfl
theorem hX7_output : yX7_output.cls ≠ "java/lang/invoke/MethodHandle" ∧ yX7_output.cls ≠ "java/lang/invoke/VarHandle" ∧ (parseMethodDescriptor yX7_output.desc).map (fun d => d.parameters.length) = some 1 := by decide +kernel
abbrev yX7_author : MethodName := ⟨"MailYardModel", "author", "(I)I"⟩
abbrev cX7_author : ByteArray := prog_9_method_47_code
abbrev kX7_author : Cond := .code yX7_author cX7_author 2 (some (.int))
theorem kX7_author_in : kX7_author ∈ wT := inT4 (i := 63) rfl rfl
theorem hX7_author : yX7_author.cls ≠ "java/lang/invoke/MethodHandle" ∧ yX7_author.cls ≠ "java/lang/invoke/VarHandle" ∧ (parseMethodDescriptor yX7_author.desc).map (fun d => d.parameters.length) = some 1 := by decide +kernel
abbrev rX6_init : Room := { frames := 2, cells := 0, slots := 0, locals := 53 }
abbrev rX1_init : Room := { frames := 1, cells := 0, slots := 0, locals := 32 }
abbrev rJ_fillI : Room := { frames := 0, cells := 0, slots := 0, locals := 0 }
abbrev rX2_init : Room := { frames := 1, cells := 0, slots := 0, locals := 32 }
abbrev rX5_init : Room := { frames := 1, cells := 0, slots := 0, locals := 32 }
abbrev rX4_init : Room := { frames := 1, cells := 0, slots := 0, locals := 32 }
abbrev rX0_init : Room := { frames := 1, cells := 0, slots := 0, locals := 32 }
abbrev rX3_init : Room := { frames := 1, cells := 0, slots := 0, locals := 32 }
abbrev rX2_add : Room := { frames := 0, cells := 0, slots := 0, locals := 0 }
abbrev rX6_load : Room := { frames := 2, cells := 0, slots := 0, locals := 42 }
abbrev rX1_isCell : Room := { frames := 0, cells := 0, slots := 0, locals := 0 }
abbrev rX1_isInstruction : Room := { frames := 1, cells := 0, slots := 0, locals := 20 }
abbrev rX1_isRegister : Room := { frames := 0, cells := 0, slots := 0, locals := 0 }
abbrev rX1_put : Room := { frames := 0, cells := 0, slots := 0, locals := 0 }
abbrev rX6_spawn : Room := { frames := 3, cells := 0, slots := 0, locals := 72 }
abbrev rX6_beginActor : Room := { frames := 2, cells := 0, slots := 0, locals := 48 }
abbrev rX2_at : Room := { frames := 0, cells := 0, slots := 0, locals := 0 }
abbrev rX0_reset : Room := { frames := 1, cells := 0, slots := 0, locals := 24 }
abbrev rJ_fillJ : Room := { frames := 0, cells := 0, slots := 0, locals := 0 }
abbrev rX2_remove : Room := { frames := 0, cells := 0, slots := 0, locals := 0 }
abbrev rX6_makeReady : Room := { frames := 1, cells := 0, slots := 0, locals := 21 }
abbrev rX6_inject : Room := { frames := 3, cells := 0, slots := 0, locals := 65 }
abbrev rX2_find : Room := { frames := 0, cells := 0, slots := 0, locals := 0 }
abbrev rX6_deliver : Room := { frames := 2, cells := 0, slots := 0, locals := 42 }
abbrev rX3_add : Room := { frames := 0, cells := 0, slots := 0, locals := 0 }
abbrev rX5_limitOf : Room := { frames := 0, cells := 0, slots := 0, locals := 0 }
abbrev rX5_removeAt : Room := { frames := 0, cells := 0, slots := 0, locals := 0 }
abbrev rX6_step : Room := { frames := 7, cells := 0, slots := 0, locals := 160 }
abbrev rX6_advance : Room := { frames := 6, cells := 0, slots := 0, locals := 137 }
abbrev rX6_perform : Room := { frames := 5, cells := 0, slots := 0, locals := 112 }
abbrev rX1_isFilled : Room := { frames := 1, cells := 0, slots := 0, locals := 20 }
abbrev rX6_comeToEnd : Room := { frames := 1, cells := 0, slots := 0, locals := 22 }
abbrev rX2_contains : Room := { frames := 0, cells := 0, slots := 0, locals := 0 }
abbrev rX6_sendTo : Room := { frames := 3, cells := 0, slots := 0, locals := 65 }
abbrev rX6_takeMessage : Room := { frames := 1, cells := 0, slots := 0, locals := 25 }
abbrev rX3_firstSender : Room := { frames := 0, cells := 0, slots := 0, locals := 0 }
abbrev rX3_valueAt : Room := { frames := 0, cells := 0, slots := 0, locals := 0 }
abbrev rX3_removeFirst : Room := { frames := 0, cells := 0, slots := 0, locals := 0 }
abbrev rX5_add : Room := { frames := 0, cells := 0, slots := 0, locals := 0 }
abbrev rX6_makeLink : Room := { frames := 4, cells := 0, slots := 0, locals := 88 }
abbrev rX6_exitReaches : Room := { frames := 3, cells := 0, slots := 0, locals := 65 }
abbrev rX0_isLinkedWith : Room := { frames := 0, cells := 0, slots := 0, locals := 0 }
abbrev rX0_setLink : Room := { frames := 0, cells := 0, slots := 0, locals := 0 }
abbrev rX4_add : Room := { frames := 0, cells := 0, slots := 0, locals := 0 }
abbrev rX6_settle : Room := { frames := 4, cells := 0, slots := 0, locals := 104 }
abbrev rX6_bury : Room := { frames := 2, cells := 0, slots := 0, locals := 44 }
abbrev rX5_removeAllOf : Room := { frames := 1, cells := 0, slots := 0, locals := 22 }
abbrev rX3_clear : Room := { frames := 0, cells := 0, slots := 0, locals := 0 }
abbrev rX6_dropLink : Room := { frames := 1, cells := 0, slots := 0, locals := 23 }
abbrev rX6_tellOverseer : Room := { frames := 3, cells := 0, slots := 0, locals := 82 }
abbrev rX0_mayBeginAnew : Room := { frames := 0, cells := 0, slots := 0, locals := 0 }
abbrev rX0_noteBegunAnew : Room := { frames := 1, cells := 0, slots := 0, locals := 60 }
abbrev rX6_run : Room := { frames := 7, cells := 0, slots := 0, locals := 160 }
abbrev rX6_tick : Room := { frames := 4, cells := 0, slots := 0, locals := 89 }
abbrev rX5_firstEnding : Room := { frames := 0, cells := 0, slots := 0, locals := 0 }
abbrev rX6_ring : Room := { frames := 3, cells := 0, slots := 0, locals := 65 }
abbrev rX6_status : Room := { frames := 1, cells := 0, slots := 0, locals := 22 }
abbrev rX6_register : Room := { frames := 1, cells := 0, slots := 0, locals := 22 }
abbrev rX6_place : Room := { frames := 1, cells := 0, slots := 0, locals := 22 }
abbrev rX6_mail : Room := { frames := 1, cells := 0, slots := 0, locals := 22 }
abbrev rX6_message : Room := { frames := 1, cells := 0, slots := 0, locals := 22 }
abbrev rX6_linked : Room := { frames := 1, cells := 0, slots := 0, locals := 22 }
abbrev rX6_supervisor : Room := { frames := 1, cells := 0, slots := 0, locals := 22 }
abbrev rX6_restarts : Room := { frames := 1, cells := 0, slots := 0, locals := 22 }
abbrev rX6_queue : Room := { frames := 1, cells := 0, slots := 0, locals := 21 }
abbrev rX6_room : Room := { frames := 0, cells := 0, slots := 0, locals := 0 }
abbrev rX6_lost : Room := { frames := 0, cells := 0, slots := 0, locals := 0 }
abbrev rX6_timers : Room := { frames := 0, cells := 0, slots := 0, locals := 0 }
abbrev rX6_output : Room := { frames := 1, cells := 0, slots := 0, locals := 21 }
abbrev rX4_has : Room := { frames := 0, cells := 0, slots := 0, locals := 0 }
abbrev rX6_author : Room := { frames := 1, cells := 0, slots := 0, locals := 21 }
abbrev rX7_init : Room := { frames := 1, cells := 0, slots := 0, locals := 32 }
abbrev rX7_load : Room := { frames := 1, cells := 0, slots := 0, locals := 22 }
abbrev rX7_within : Room := { frames := 0, cells := 0, slots := 0, locals := 0 }
abbrev rX7_spawn : Room := { frames := 2, cells := 0, slots := 0, locals := 46 }
abbrev rX7_begin : Room := { frames := 1, cells := 0, slots := 0, locals := 21 }
abbrev rX7_enqueue : Room := { frames := 0, cells := 0, slots := 0, locals := 0 }
abbrev rX7_inject : Room := { frames := 4, cells := 0, slots := 0, locals := 92 }
abbrev rX7_find : Room := { frames := 0, cells := 0, slots := 0, locals := 0 }
abbrev rX7_freeCells : Room := { frames := 0, cells := 0, slots := 0, locals := 0 }
abbrev rX7_post : Room := { frames := 3, cells := 0, slots := 0, locals := 68 }
abbrev rX7_come : Room := { frames := 2, cells := 0, slots := 0, locals := 45 }
abbrev rX7_stopClocks : Room := { frames := 1, cells := 0, slots := 0, locals := 22 }
abbrev rX7_dropClock : Room := { frames := 0, cells := 0, slots := 0, locals := 0 }
abbrev rX7_step : Room := { frames := 7, cells := 0, slots := 0, locals := 164 }
abbrev rX7_act : Room := { frames := 6, cells := 0, slots := 0, locals := 138 }
abbrev rX7_take : Room := { frames := 1, cells := 0, slots := 0, locals := 24 }
abbrev rX7_mailAt : Room := { frames := 0, cells := 0, slots := 0, locals := 0 }
abbrev rX7_takeMail : Room := { frames := 0, cells := 0, slots := 0, locals := 0 }
abbrev rX7_leave : Room := { frames := 0, cells := 0, slots := 0, locals := 0 }
abbrev rX7_clock : Room := { frames := 0, cells := 0, slots := 0, locals := 0 }
abbrev rX7_link : Room := { frames := 5, cells := 0, slots := 0, locals := 115 }
abbrev rX7_linkAt : Room := { frames := 0, cells := 0, slots := 0, locals := 0 }
abbrev rX7_exitReaches : Room := { frames := 4, cells := 0, slots := 0, locals := 92 }
abbrev rX7_ends : Room := { frames := 0, cells := 0, slots := 0, locals := 0 }
abbrev rX7_put : Room := { frames := 0, cells := 0, slots := 0, locals := 0 }
abbrev rX7_settle : Room := { frames := 6, cells := 0, slots := 0, locals := 143 }
abbrev rX7_end : Room := { frames := 5, cells := 0, slots := 0, locals := 115 }
abbrev rX7_nextAfter : Room := { frames := 1, cells := 0, slots := 0, locals := 25 }
abbrev rX7_unlink : Room := { frames := 0, cells := 0, slots := 0, locals := 0 }
abbrev rX7_mayBegin : Room := { frames := 0, cells := 0, slots := 0, locals := 0 }
abbrev rX7_run : Room := { frames := 8, cells := 0, slots := 0, locals := 187 }
abbrev rX7_tick : Room := { frames := 4, cells := 0, slots := 0, locals := 92 }
abbrev rX7_due : Room := { frames := 0, cells := 0, slots := 0, locals := 0 }
abbrev rX7_status : Room := { frames := 1, cells := 0, slots := 0, locals := 23 }
abbrev rX7_register : Room := { frames := 1, cells := 0, slots := 0, locals := 23 }
abbrev rX7_place : Room := { frames := 1, cells := 0, slots := 0, locals := 23 }
abbrev rX7_mail : Room := { frames := 1, cells := 0, slots := 0, locals := 23 }
abbrev rX7_message : Room := { frames := 1, cells := 0, slots := 0, locals := 24 }
abbrev rX7_linked : Room := { frames := 1, cells := 0, slots := 0, locals := 25 }
abbrev rX7_supervisor : Room := { frames := 1, cells := 0, slots := 0, locals := 23 }
abbrev rX7_restarts : Room := { frames := 1, cells := 0, slots := 0, locals := 23 }
abbrev rX7_queue : Room := { frames := 1, cells := 0, slots := 0, locals := 22 }
abbrev rX7_room : Room := { frames := 1, cells := 0, slots := 0, locals := 20 }
abbrev rX7_lost : Room := { frames := 0, cells := 0, slots := 0, locals := 0 }
abbrev rX7_timers : Room := { frames := 0, cells := 0, slots := 0, locals := 0 }
abbrev rX7_output : Room := { frames := 1, cells := 0, slots := 0, locals := 22 }
abbrev rX7_author : Room := { frames := 1, cells := 0, slots := 0, locals := 22 }
theorem s_X6_beginActor : Cond.selects yX6_beginActor.cls yX6_beginActor yX6_beginActor ∈ wT := inP (q := (yX6_beginActor, 11)) (by decide +kernel) rfl
theorem s_X6_makeReady : Cond.selects yX6_makeReady.cls yX6_makeReady yX6_makeReady ∈ wT := inP (q := (yX6_makeReady, 11)) (by decide +kernel) rfl
theorem s_X6_deliver : Cond.selects yX6_deliver.cls yX6_deliver yX6_deliver ∈ wT := inP (q := (yX6_deliver, 11)) (by decide +kernel) rfl
theorem s_X6_advance : Cond.selects yX6_advance.cls yX6_advance yX6_advance ∈ wT := inP (q := (yX6_advance, 11)) (by decide +kernel) rfl
theorem s_X6_perform : Cond.selects yX6_perform.cls yX6_perform yX6_perform ∈ wT := inP (q := (yX6_perform, 11)) (by decide +kernel) rfl
theorem s_X6_settle : Cond.selects yX6_settle.cls yX6_settle yX6_settle ∈ wT := inP (q := (yX6_settle, 11)) (by decide +kernel) rfl
theorem s_X6_comeToEnd : Cond.selects yX6_comeToEnd.cls yX6_comeToEnd yX6_comeToEnd ∈ wT := inP (q := (yX6_comeToEnd, 11)) (by decide +kernel) rfl
theorem s_X6_sendTo : Cond.selects yX6_sendTo.cls yX6_sendTo yX6_sendTo ∈ wT := inP (q := (yX6_sendTo, 11)) (by decide +kernel) rfl
theorem s_X6_takeMessage : Cond.selects yX6_takeMessage.cls yX6_takeMessage yX6_takeMessage ∈ wT := inP (q := (yX6_takeMessage, 11)) (by decide +kernel) rfl
theorem s_X6_makeLink : Cond.selects yX6_makeLink.cls yX6_makeLink yX6_makeLink ∈ wT := inP (q := (yX6_makeLink, 11)) (by decide +kernel) rfl
theorem s_X6_exitReaches : Cond.selects yX6_exitReaches.cls yX6_exitReaches yX6_exitReaches ∈ wT := inP (q := (yX6_exitReaches, 11)) (by decide +kernel) rfl
theorem s_X6_bury : Cond.selects yX6_bury.cls yX6_bury yX6_bury ∈ wT := inP (q := (yX6_bury, 11)) (by decide +kernel) rfl
theorem s_X6_dropLink : Cond.selects yX6_dropLink.cls yX6_dropLink yX6_dropLink ∈ wT := inP (q := (yX6_dropLink, 11)) (by decide +kernel) rfl
theorem s_X6_tellOverseer : Cond.selects yX6_tellOverseer.cls yX6_tellOverseer yX6_tellOverseer ∈ wT := inP (q := (yX6_tellOverseer, 11)) (by decide +kernel) rfl
theorem s_X6_ring : Cond.selects yX6_ring.cls yX6_ring yX6_ring ∈ wT := inP (q := (yX6_ring, 11)) (by decide +kernel) rfl
theorem s_X7_begin : Cond.selects yX7_begin.cls yX7_begin yX7_begin ∈ wT := inP (q := (yX7_begin, 37)) (by decide +kernel) rfl
theorem s_X7_enqueue : Cond.selects yX7_enqueue.cls yX7_enqueue yX7_enqueue ∈ wT := inP (q := (yX7_enqueue, 37)) (by decide +kernel) rfl
theorem s_X7_find : Cond.selects yX7_find.cls yX7_find yX7_find ∈ wT := inP (q := (yX7_find, 37)) (by decide +kernel) rfl
theorem s_X7_freeCells : Cond.selects yX7_freeCells.cls yX7_freeCells yX7_freeCells ∈ wT := inP (q := (yX7_freeCells, 37)) (by decide +kernel) rfl
theorem s_X7_post : Cond.selects yX7_post.cls yX7_post yX7_post ∈ wT := inP (q := (yX7_post, 37)) (by decide +kernel) rfl
theorem s_X7_come : Cond.selects yX7_come.cls yX7_come yX7_come ∈ wT := inP (q := (yX7_come, 37)) (by decide +kernel) rfl
theorem s_X7_stopClocks : Cond.selects yX7_stopClocks.cls yX7_stopClocks yX7_stopClocks ∈ wT := inP (q := (yX7_stopClocks, 37)) (by decide +kernel) rfl
theorem s_X7_dropClock : Cond.selects yX7_dropClock.cls yX7_dropClock yX7_dropClock ∈ wT := inP (q := (yX7_dropClock, 37)) (by decide +kernel) rfl
theorem s_X7_act : Cond.selects yX7_act.cls yX7_act yX7_act ∈ wT := inP (q := (yX7_act, 37)) (by decide +kernel) rfl
theorem s_X7_ends : Cond.selects yX7_ends.cls yX7_ends yX7_ends ∈ wT := inP (q := (yX7_ends, 37)) (by decide +kernel) rfl
theorem s_X7_settle : Cond.selects yX7_settle.cls yX7_settle yX7_settle ∈ wT := inP (q := (yX7_settle, 37)) (by decide +kernel) rfl
theorem s_X7_leave : Cond.selects yX7_leave.cls yX7_leave yX7_leave ∈ wT := inP (q := (yX7_leave, 37)) (by decide +kernel) rfl
theorem s_X7_take : Cond.selects yX7_take.cls yX7_take yX7_take ∈ wT := inP (q := (yX7_take, 37)) (by decide +kernel) rfl
theorem s_X7_link : Cond.selects yX7_link.cls yX7_link yX7_link ∈ wT := inP (q := (yX7_link, 37)) (by decide +kernel) rfl
theorem s_X7_put : Cond.selects yX7_put.cls yX7_put yX7_put ∈ wT := inP (q := (yX7_put, 37)) (by decide +kernel) rfl
theorem s_X7_clock : Cond.selects yX7_clock.cls yX7_clock yX7_clock ∈ wT := inP (q := (yX7_clock, 37)) (by decide +kernel) rfl
theorem s_X7_mailAt : Cond.selects yX7_mailAt.cls yX7_mailAt yX7_mailAt ∈ wT := inP (q := (yX7_mailAt, 37)) (by decide +kernel) rfl
theorem s_X7_takeMail : Cond.selects yX7_takeMail.cls yX7_takeMail yX7_takeMail ∈ wT := inP (q := (yX7_takeMail, 37)) (by decide +kernel) rfl
theorem s_X7_linkAt : Cond.selects yX7_linkAt.cls yX7_linkAt yX7_linkAt ∈ wT := inP (q := (yX7_linkAt, 37)) (by decide +kernel) rfl
theorem s_X7_exitReaches : Cond.selects yX7_exitReaches.cls yX7_exitReaches yX7_exitReaches ∈ wT := inP (q := (yX7_exitReaches, 37)) (by decide +kernel) rfl
theorem s_X7_end : Cond.selects yX7_end.cls yX7_end yX7_end ∈ wT := inP (q := (yX7_end, 37)) (by decide +kernel) rfl
theorem s_X7_nextAfter : Cond.selects yX7_nextAfter.cls yX7_nextAfter yX7_nextAfter ∈ wT := inP (q := (yX7_nextAfter, 37)) (by decide +kernel) rfl
theorem s_X7_unlink : Cond.selects yX7_unlink.cls yX7_unlink yX7_unlink ∈ wT := inP (q := (yX7_unlink, 37)) (by decide +kernel) rfl
theorem s_X7_mayBegin : Cond.selects yX7_mayBegin.cls yX7_mayBegin yX7_mayBegin ∈ wT := inP (q := (yX7_mayBegin, 37)) (by decide +kernel) rfl
theorem s_X7_due : Cond.selects yX7_due.cls yX7_due yX7_due ∈ wT := inP (q := (yX7_due, 37)) (by decide +kernel) rfl
