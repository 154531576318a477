/-! String.length and String.charAt of a text constant -/
def ty_S : String := "java/lang/String"
def yt_cod : MethodName := ⟨"java/lang/String", "coder", "()B"⟩
def yt_lat : MethodName := ⟨"java/lang/String", "isLatin1", "()Z"⟩
def yt_chk : MethodName := ⟨"java/lang/String", "checkIndex", "(II)V"⟩
def yt_pre : MethodName := ⟨"jdk/internal/util/Preconditions", "checkIndex", "(IILjava/util/function/BiFunction;)I"⟩
def yt_l1c : MethodName := ⟨"java/lang/StringLatin1", "charAt", "([BI)C"⟩
abbrev ct_cod : ByteArray := prog_17_method_152_code
abbrev ct_lat : ByteArray := prog_17_method_154_code
abbrev ct_chk : ByteArray := prog_17_method_155_code
abbrev ct_pre : ByteArray := prog_21_method_11_code
abbrev ct_l1c : ByteArray := prog_18_method_2_code
abbrev ct_len : ByteArray := prog_17_method_54_code
abbrev ct_chr : ByteArray := prog_17_method_56_code
set_option maxRecDepth 100000 in
theorem wt_all : ([.code yt_cod ct_cod 1 (some .byte), .code yt_lat ct_lat 1 (some .boolean), .code yt_chk ct_chk 2 none, .code yt_pre ct_pre 3 (some .int), .code yt_l1c ct_l1c 2 (some .char),
    .instanceMethod yt_cod, .instanceMethod yt_lat, .static yt_chk, .static yt_pre, .static yt_l1c, .selects ty_S yt_cod yt_cod, .selects ty_S yt_lat yt_lat, .initialized ty_S, .initialized "java/lang/StringLatin1", .initialized "jdk/internal/util/Preconditions",
    .fieldLink ty_S 38 ty_S "COMPACT_STRINGS" "Z", .fieldLink ty_S 15 ty_S "coder" "B", .fieldLink ty_S 9 ty_S "value" "[B", .fieldLink ty_S 1053 "jdk/internal/util/Preconditions" "SIOOBE_FORMATTER" "Ljava/util/function/BiFunction;",
    .methodLink ty_S 335 yt_cod, .methodLink ty_S 492 yt_lat, .methodLink ty_S 495 yt_l1c, .methodLink "java/lang/StringLatin1" 9 yt_chk, .methodLink ty_S 1059 yt_pre] : List Cond).all (fun w => decide (w ∈ gtbl)) = true := by decide +kernel
theorem wt_in {w : Cond} (h : w ∈ ([.code yt_cod ct_cod 1 (some .byte), .code yt_lat ct_lat 1 (some .boolean), .code yt_chk ct_chk 2 none, .code yt_pre ct_pre 3 (some .int), .code yt_l1c ct_l1c 2 (some .char),
    .instanceMethod yt_cod, .instanceMethod yt_lat, .static yt_chk, .static yt_pre, .static yt_l1c, .selects ty_S yt_cod yt_cod, .selects ty_S yt_lat yt_lat, .initialized ty_S, .initialized "java/lang/StringLatin1", .initialized "jdk/internal/util/Preconditions",
    .fieldLink ty_S 38 ty_S "COMPACT_STRINGS" "Z", .fieldLink ty_S 15 ty_S "coder" "B", .fieldLink ty_S 9 ty_S "value" "[B", .fieldLink ty_S 1053 "jdk/internal/util/Preconditions" "SIOOBE_FORMATTER" "Ljava/util/function/BiFunction;",
    .methodLink ty_S 335 yt_cod, .methodLink ty_S 492 yt_lat, .methodLink ty_S 495 yt_l1c, .methodLink "java/lang/StringLatin1" 9 yt_chk, .methodLink ty_S 1059 yt_pre] : List Cond)) : w ∈ gtbl := of_decide_eq_true (List.all_eq_true.mp wt_all w h)
def PJ (ad av : Nat → Nat) (A : Nat → Prop) (avs : List Value) : Array Value → State → Prop := fun a U => a = avs.toArray ∧ EV ad av A U U.heap
theorem EV_same {ad av : Nat → Nat} {A : Nat → Prop} {U V : State} {H : Heap} (hv : U.vm = V.vm) (h : EV ad av A U H) : EV ad av A V H := by
  obtain ⟨h7, h8, h9, h10, h11, h12⟩ := h
  have ha : U.vm.Alike V.vm := by rw [hv]; exact Vm.Alike.refl V.vm
  refine ⟨h7.moved ha, h8.moved ha, fun q hq => ?_, nest_same hv h10, h11.moved ha, h12.moved ha⟩
  obtain ⟨tx, g1⟩ := h9 q hq
  exact ⟨tx, g1.same hv.symm⟩
theorem PJ_blind {ad av : Nat → Nat} {A : Nat → Prop} {avs : List Value} : FrameBlind (PJ ad av A avs) := by
  intro a U g mk ⟨h1, h2⟩
  exact ⟨h1, EV_same (U := U) (V := U.calling g mk a) rfl h2⟩
theorem PJ_in {ad av : Nat → Nat} {A : Nat → Prop} {s : State} (hE : EV ad av A s s.heap) (avs : List Value) : ∀ U : State, U.heap = s.heap → s.WarmedH U.vm → PJ ad av A avs avs.toArray U := by
  intro U hU hW
  obtain ⟨h1, h2, h3, h4, h5, h6⟩ := hE
  refine ⟨rfl, ?_⟩
  rw [hU]
  refine ⟨h1.moved hW.alike, h2.moved hW.alike, fun q hq => ?_, nest_warm hW h4, h5.moved hW.alike, h6.moved hW.alike⟩
  obtain ⟨tx, g⟩ := h3 q hq
  exact ⟨tx, g.warm hW⟩
section TXT
variable {l : Launch} {ad av : Nat → Nat} {A : Nat → Prop}
theorem ct_pre_ok {k n : Int32} {o : Option Nat} (h1 : ¬ k < 0) (h2 : k < n) : Met l yt_pre (.code yt_pre ct_pre 3 (some .int) :: gtbl) { frames := 0, cells := 0, slots := 0, locals := 0 } (PJ ad av A [.int k, .int n, va_rf o]) (QcRead k) 0 0 (fun _ => False) := by
  refine Met.ofW (cc := ct_pre) (maxL := 3) (ret := some .int) (by decide) rfl ?_
  intro p e s m args below meth c s₁ B hml hv
  obtain ⟨rfl, hE⟩ := hv
  have hx := B.exec
  have hb := B.bytes
  have hl := lv_entry ([.int k, .int n, va_rf o]) (n := 3) (by cases o <;> exact Nat.le_of_ble_eq_true rfl)
  rw [lg_entry_eq]
  generalize (lg_sl ([.int k, .int n, va_rf o]) ++ List.replicate (3 - (lg_sl ([.int k, .int n, va_rf o])).length) Slot.unset).toArray = ls at hl ⊢
  have g0 : ls[0]? = some (.val (.int k)) := lv_at hl 0 rfl
  have g1 : ls[1]? = some (.val (.int n)) := lv_at hl 1 rfl
  refine lv_iload_n hx hb (show decode ct_pre 0 = .ok (.iload_n 0, 1) by decide +kernel) rfl g0 ?_
  refine lv_if_lt (tgt := 9) hx hb (show decode ct_pre 1 = .ok (.ifCond .lt 8, 3) by decide +kernel) (by decide) (fun q => absurd q h1) (fun _ => ?_)
  refine lv_iload_n hx hb (show decode ct_pre 4 = .ok (.iload_n 0, 1) by decide +kernel) rfl g0 ?_
  refine lv_iload_n hx hb (show decode ct_pre 5 = .ok (.iload_n 1, 1) by decide +kernel) rfl g1 ?_
  refine lv_icmp_lt (tgt := 16) hx hb (show decode ct_pre 6 = .ok (.if_icmp .lt 10, 3) by decide +kernel) (by decide) (fun _ => ?_) (fun q => absurd h2 q)
  refine lv_iload_n hx hb (show decode ct_pre 16 = .ok (.iload_n 0, 1) by decide +kernel) rfl g0 ?_
  exact W.iret hx hb B.returns (fun t ht _ => ⟨rfl, ht⟩) (fun _ h => by cases h) (show decode ct_pre 17 = .ok (.ireturn, 1) by decide +kernel) B.notSynchronized
theorem ct_chk_ok {k n : Int32} (h1 : ¬ k < 0) (h2 : k < n) : Met l yt_chk (.code yt_chk ct_chk 2 none :: gtbl) { frames := 1, cells := 0, slots := 0, locals := 64 } (PJ ad av A [.int k, .int n]) (va_Sv fun _ => True) 0 0 (fun _ => False) := by
  refine Met.ofW (cc := ct_chk) (maxL := 2) (ret := none) (by decide) rfl ?_
  intro p e s m args below meth c s₁ B hml hv
  obtain ⟨rfl, hE⟩ := hv
  have hx := B.exec
  have hb := B.bytes
  have hts : ∀ w ∈ gtbl, w.before [Value.int k, .int n].toArray s = true := fun w hw => atoms_spec (ws := .code yt_chk ct_chk 2 none :: gtbl) B.pre w (List.mem_cons_of_mem _ hw)
  have hown : s.vm.findClass ty_S = some m.cls := findClass_of_methodNamed B.named
  have hl := lv_entry ([.int k, .int n]) (n := 2) (Nat.le_of_ble_eq_true rfl)
  rw [lg_entry_eq]
  generalize (lg_sl ([.int k, .int n]) ++ List.replicate (2 - (lg_sl ([.int k, .int n])).length) Slot.unset).toArray = ls at hl ⊢
  have g0 : ls[0]? = some (.val (.int k)) := lv_at hl 0 rfl
  have g1 : ls[1]? = some (.val (.int n)) := lv_at hl 1 rfl
  refine lv_iload_n hx hb (show decode ct_chk 0 = .ok (.iload_n 0, 1) by decide +kernel) rfl g0 ?_
  refine lv_iload_n hx hb (show decode ct_chk 1 = .ok (.iload_n 1, 1) by decide +kernel) rfl g1 ?_
  have go : ∀ o : Option Nat, va_Z "jdk/internal/util/Preconditions" "SIOOBE_FORMATTER" "Ljava/util/function/BiFunction;" (va_rf o) A s s.heap → W p l e (headSpec (.code yt_chk ct_chk 2 none :: gtbl) { frames := 1, cells := 0, slots := 0, locals := 64 }).room s m [Value.int k, .int n].toArray below meth c s.heap [] 0 0 (MQ below (va_Sv fun _ => True) [Value.int k, .int n].toArray s 0 0 (fun _ => False)) (F0 m 2 ls [.int n, .int k]) := by
    intro o hZ
    refine va_gets hx hb hZ va_S.rf hown (hts _ (wt_in (by decide))) (fun _ h => h) (show decode ct_chk 2 = .ok (.getstatic 1053, 3) by decide +kernel) ?_
    have hT : GoodIn gtbl (va_wsS ty_S 1059 yt_pre (.code yt_pre ct_pre 3 (some .int) :: gtbl)) := goodT fun w hw => by
      simp only [va_wsS, List.mem_append, List.mem_cons, List.not_mem_nil, or_false] at hw
      rcases hw with (rfl | rfl | rfl) | rfl | hw
      · exact wt_in (by decide)
      · exact wt_in (by decide)
      · exact wt_in (by decide)
      · exact wt_in (by decide)
      · exact hw
    refine W.callR (W.runS (As := [.int k, .int n, va_rf o]) (rest := []) (g := F0 m 5 ls [va_rf o, .int n, .int k]) ⟨hx, hb, hml, hown, hts⟩ (ct_pre_ok (ad := ad) (av := av) (A := A) (o := o) h1 h2) (va_cwS 3 hts hT rfl rfl rfl (by decide +kernel) ⟨Nat.le_refl _, Nat.le_of_ble_eq_true rfl⟩) ⟨PJ_blind, PJ_in hE _⟩ rfl rfl hl.1 rfl (lv_room (Nat.le_of_ble_eq_true rfl)) (show decode ct_chk 5 = .ok (.invokestatic 1059, 3) by decide +kernel) ⟨Nat.le_refl _, Nat.le_refl _⟩) ?_
    refine lv_pop hx hb (show decode ct_chk 8 = .ok (.pop, 1) by decide +kernel) rfl ?_
    exact W.vret hx hb B.returns (fun t ht _ => ⟨rfl, trivial, ht⟩) (fun _ h => by cases h) (show decode ct_chk 9 = .ok (.return_, 1) by decide +kernel) B.notSynchronized
  rcases hE.2.2.2.2.2 with hZ | ⟨t, hZ⟩
  · exact go none hZ
  · exact go (some t) hZ
theorem tx_len : ∀ i, i < 9 → LEN.getD i 0 = (TX.getD i []).length ∧ (TX.getD i []).length < 100 := by decide
theorem tx_chr : ∀ i, i < 9 → ∀ k, k < LEN.getD i 0 → ((((BYT.getD i []).getD k 0) &&& 255).toUInt32 % 65536).toInt32 = nI ((TX.getD i []).getD k 0) ∧ narrow .char (.int (nI ((TX.getD i []).getD k 0))) = .int (nI ((TX.getD i []).getD k 0)) := by decide
theorem ct_l1c_ok {i : Nat} {k : Int32} (hi : i < 9) (hk : vp_in k (LEN.getD i 0)) : Met l yt_l1c (.code yt_l1c ct_l1c 2 (some .char) :: gtbl) { frames := 2, cells := 0, slots := 0, locals := 128 } (PJ ad av A [.ref (av i), .int k]) (QcRead (nI ((TX.getD i []).getD k.toNatClampNeg 0))) 0 0 (fun _ => False) := by
  refine Met.ofW (cc := ct_l1c) (maxL := 2) (ret := some .char) (by decide) rfl ?_
  intro p e s m args below meth c s₁ B hml hv
  obtain ⟨rfl, hE⟩ := hv
  have hx := B.exec
  have hb := B.bytes
  have hts : ∀ w ∈ gtbl, w.before [Value.ref (av i), .int k].toArray s = true := fun w hw => atoms_spec (ws := .code yt_l1c ct_l1c 2 (some .char) :: gtbl) B.pre w (List.mem_cons_of_mem _ hw)
  have hown : s.vm.findClass "java/lang/StringLatin1" = some m.cls := findClass_of_methodNamed B.named
  have hl := lv_entry ([.ref (av i), .int k]) (n := 2) (Nat.le_of_ble_eq_true rfl)
  rw [lg_entry_eq]
  generalize (lg_sl ([.ref (av i), .int k]) ++ List.replicate (2 - (lg_sl ([.ref (av i), .int k])).length) Slot.unset).toArray = ls at hl ⊢
  have g0 : ls[0]? = some (.val (.ref (av i))) := lv_at hl 0 rfl
  have g1 : ls[1]? = some (.val (.int k)) := lv_at hl 1 rfl
  obtain ⟨-, -, -, hTv⟩ := hE.1.1 i hi
  obtain ⟨b1, b2⟩ := tx_len i hi
  have hk0 : ¬ k < 0 := fun z => hk (Or.inl z)
  have hk1 : k.toNatClampNeg < LEN.getD i 0 := Nat.not_le.mp fun z => hk (Or.inr z)
  obtain ⟨j, hj, rfl⟩ := vp_in_of hk (by omega)
  have hkn : nI j < nI (LEN.getD i 0) := nI_lt hj (by omega)
  refine lv_iload_n hx hb (show decode ct_l1c 0 = .ok (.iload_n 1, 1) by decide +kernel) rfl g1 ?_
  refine lv_aload_n hx hb (show decode ct_l1c 1 = .ok (.aload_n 0, 1) by decide +kernel) rfl g0 ?_
  refine va_tlen hx hb hTv va_S.rf rfl (show decode ct_l1c 2 = .ok (.arraylength, 1) by decide +kernel) ?_
  have hT : GoodIn gtbl (va_wsS "java/lang/StringLatin1" 9 yt_chk (.code yt_chk ct_chk 2 none :: gtbl)) := goodT fun w hw => by
    simp only [va_wsS, List.mem_append, List.mem_cons, List.not_mem_nil, or_false] at hw
    rcases hw with (rfl | rfl | rfl) | rfl | hw
    · exact wt_in (by decide)
    · exact wt_in (by decide)
    · exact wt_in (by decide)
    · exact wt_in (by decide)
    · exact hw
  refine va_csv (W.runS (As := [.int (nI j), .int (Int32.ofNat (LEN.getD i 0))]) (rest := []) (g := F0 m 3 ls [.int (Int32.ofNat (LEN.getD i 0)), .int (nI j)]) ⟨hx, hb, hml, hown, hts⟩ (ct_chk_ok (ad := ad) (av := av) (A := A) hk0 hkn) (va_cwS 2 hts hT rfl rfl rfl (by decide +kernel) ⟨Nat.le_refl _, Nat.le_of_ble_eq_true rfl⟩) ⟨PJ_blind, PJ_in hE _⟩ rfl rfl hl.1 rfl (lv_room (Nat.le_of_ble_eq_true rfl)) (show decode ct_l1c 3 = .ok (.invokestatic 9, 3) by decide +kernel) ⟨Nat.le_refl _, Nat.le_refl _⟩) (fun _ => ?_)
  refine lv_aload_n hx hb (show decode ct_l1c 6 = .ok (.aload_n 0, 1) by decide +kernel) rfl g0 ?_
  refine lv_iload_n hx hb (show decode ct_l1c 7 = .ok (.iload_n 1, 1) by decide +kernel) rfl g1 ?_
  refine va_tb hx hb hTv va_S.rf hk rfl (show decode ct_l1c 8 = .ok (.baload, 1) by decide +kernel) ?_
  refine lv_sipush hx hb (v := 255) (show decode ct_l1c 9 = .ok (.sipush 255, 3) by decide +kernel) (by decide) ?_
  refine lv_iand hx hb (show decode ct_l1c 12 = .ok (.iand, 1) by decide +kernel) ?_
  obtain ⟨c1, c2⟩ := tx_chr i hi (nI j).toNatClampNeg hk1
  refine lv_i2c hx hb (show decode ct_l1c 13 = .ok (.i2c, 1) by decide +kernel) c1 ?_
  exact W.zret hx hb B.returns c2 (fun t ht _ => ⟨rfl, ht⟩) (fun _ h => by cases h) (show decode ct_l1c 14 = .ok (.ireturn, 1) by decide +kernel) B.notSynchronized
theorem ct_cod_ok {i : Nat} (hi : i < 9) : Met l yt_cod (.code yt_cod ct_cod 1 (some .byte) :: gtbl) { frames := 0, cells := 0, slots := 0, locals := 0 } (PJ ad av A [.ref (ad i)]) (QcRead 0) 0 0 (fun _ => False) := by
  refine Met.ofW (cc := ct_cod) (maxL := 1) (ret := some .byte) (by decide) rfl ?_
  intro p e s m args below meth c s₁ B hml hv
  obtain ⟨rfl, hE⟩ := hv
  have hx := B.exec
  have hb := B.bytes
  have hts : ∀ w ∈ gtbl, w.before [Value.ref (ad i)].toArray s = true := fun w hw => atoms_spec (ws := .code yt_cod ct_cod 1 (some .byte) :: gtbl) B.pre w (List.mem_cons_of_mem _ hw)
  have hown : s.vm.findClass ty_S = some m.cls := findClass_of_methodNamed B.named
  have hl := lv_entry ([.ref (ad i)]) (n := 1) (Nat.le_of_ble_eq_true rfl)
  rw [lg_entry_eq]
  generalize (lg_sl ([.ref (ad i)]) ++ List.replicate (1 - (lg_sl ([.ref (ad i)])).length) Slot.unset).toArray = ls at hl ⊢
  have g0 : ls[0]? = some (.val (.ref (ad i))) := lv_at hl 0 rfl
  obtain ⟨-, hco, -, -⟩ := hE.1.1 i hi
  refine va_gets hx hb hE.2.1 va_S.rf hown (hts _ (wt_in (by decide))) (fun _ h => h) (show decode ct_cod 0 = .ok (.getstatic 38, 3) by decide +kernel) ?_
  refine lv_if_eq (tgt := 13) hx hb (show decode ct_cod 3 = .ok (.ifCond .eq 10, 3) by decide +kernel) (by decide) (fun q => absurd q (by decide)) (fun _ => ?_)
  refine lv_aload_n hx hb (show decode ct_cod 6 = .ok (.aload_n 0, 1) by decide +kernel) rfl g0 ?_
  refine vk_getf hx hb hco va_S.rf hown (hts _ (wt_in (by decide))) (fun _ h => h) (show decode ct_cod 7 = .ok (.getfield 15, 3) by decide +kernel) ?_
  refine lv_goto (tgt := 14) hx hb (show decode ct_cod 10 = .ok (.goto 4, 3) by decide +kernel) (by decide) ?_
  exact W.zret hx hb B.returns rfl (fun t ht _ => ⟨rfl, ht⟩) (fun _ h => by cases h) (show decode ct_cod 14 = .ok (.ireturn, 1) by decide +kernel) B.notSynchronized
theorem ct_lat_ok {i : Nat} (hi : i < 9) : Met l yt_lat (.code yt_lat ct_lat 1 (some .boolean) :: gtbl) { frames := 0, cells := 0, slots := 0, locals := 0 } (PJ ad av A [.ref (ad i)]) (QcRead 1) 0 0 (fun _ => False) := by
  refine Met.ofW (cc := ct_lat) (maxL := 1) (ret := some .boolean) (by decide) rfl ?_
  intro p e s m args below meth c s₁ B hml hv
  obtain ⟨rfl, hE⟩ := hv
  have hx := B.exec
  have hb := B.bytes
  have hts : ∀ w ∈ gtbl, w.before [Value.ref (ad i)].toArray s = true := fun w hw => atoms_spec (ws := .code yt_lat ct_lat 1 (some .boolean) :: gtbl) B.pre w (List.mem_cons_of_mem _ hw)
  have hown : s.vm.findClass ty_S = some m.cls := findClass_of_methodNamed B.named
  have hl := lv_entry ([.ref (ad i)]) (n := 1) (Nat.le_of_ble_eq_true rfl)
  rw [lg_entry_eq]
  generalize (lg_sl ([.ref (ad i)]) ++ List.replicate (1 - (lg_sl ([.ref (ad i)])).length) Slot.unset).toArray = ls at hl ⊢
  have g0 : ls[0]? = some (.val (.ref (ad i))) := lv_at hl 0 rfl
  obtain ⟨-, hco, -, -⟩ := hE.1.1 i hi
  refine va_gets hx hb hE.2.1 va_S.rf hown (hts _ (wt_in (by decide))) (fun _ h => h) (show decode ct_lat 0 = .ok (.getstatic 38, 3) by decide +kernel) ?_
  refine lv_if_eq (tgt := 17) hx hb (show decode ct_lat 3 = .ok (.ifCond .eq 14, 3) by decide +kernel) (by decide) (fun q => absurd q (by decide)) (fun _ => ?_)
  refine lv_aload_n hx hb (show decode ct_lat 6 = .ok (.aload_n 0, 1) by decide +kernel) rfl g0 ?_
  refine vk_getf hx hb hco va_S.rf hown (hts _ (wt_in (by decide))) (fun _ h => h) (show decode ct_lat 7 = .ok (.getfield 15, 3) by decide +kernel) ?_
  refine lv_if_ne (tgt := 17) hx hb (show decode ct_lat 10 = .ok (.ifCond .ne 7, 3) by decide +kernel) (by decide) (fun q => absurd rfl q) (fun _ => ?_)
  refine lv_iconst (v := 1) hx hb (show decode ct_lat 13 = .ok (.iconst 1, 1) by decide +kernel) (by decide) ?_
  refine lv_goto (tgt := 18) hx hb (show decode ct_lat 14 = .ok (.goto 4, 3) by decide +kernel) (by decide) ?_
  exact W.zret hx hb B.returns rfl (fun t ht _ => ⟨rfl, ht⟩) (fun _ h => by cases h) (show decode ct_lat 18 = .ok (.ireturn, 1) by decide +kernel) B.notSynchronized
end TXT
theorem tx_sh : ∀ i, i < 9 → Int32.ofNat (LEN.getD i 0) >>> ((0 : Int32) &&& 31) = nI (TX.getD i []).length := by decide
theorem tx_get {q : Nat} {t : List Nat} (h : TX[q]? = some t) : q < 9 ∧ TX.getD q [] = t := by
  have h1 : q < TX.length := (List.getElem?_eq_some_iff.mp h).1
  exact ⟨h1, by rw [List.getD_eq_getElem?_getD, h]; rfl⟩
theorem con_len (l : Launch) (d : Nat) (as : List AV) (h : AH) (r : AR) (e : prm 2 as h = some r) (hd : 4 ≤ d) : CON l (d + 1) K_J_len as h r := by
  unfold prm at e
  split at e
  case h_1 z => exact absurd z (by decide)
  case h_3 z => exact absurd z (by decide)
  case h_4 z => exact absurd z (by decide)
  case h_5 z => exact absurd z (by decide)
  case h_6 z => exact absurd z (by decide)
  case h_7 => cases e
  rename_i q z
  split at e
  case h_2 => cases e
  rename_i t ht
  cases e
  obtain ⟨hq, ht2⟩ := tx_get ht
  intro D ad av ws avs sz has
  obtain ⟨w, sv', rfl, -, ⟨-, rfl⟩, hs'⟩ := srlV has
  rw [srlN hs']
  refine Met.ofW (cc := ct_len) (maxL := 1) (ret := some .int) (by decide) rfl ?_
  intro p e s m args below meth c s₁ B hml hv
  obtain ⟨rfl, rfl, hP, hKK, hD0, hw, hE⟩ := hv
  have hx := B.exec
  have hb := B.bytes
  have hts : ∀ w ∈ gtbl, w.before [Value.ref (ad q)].toArray s = true := fun w hw => atoms_spec (ws := .code K_J_len.1 K_J_len.2.1 K_J_len.2.2.1 K_J_len.2.2.2.1 :: gtbl) B.pre w (List.mem_cons_of_mem _ hw)
  have hown : s.vm.findClass ty_S = some m.cls := findClass_of_methodNamed B.named
  have hl := lv_entry ([.ref (ad q)]) (n := 1) (Nat.le_of_ble_eq_true rfl)
  rw [lg_entry_eq]
  generalize (lg_sl ([.ref (ad q)]) ++ List.replicate (1 - (lg_sl ([.ref (ad q)])).length) Slot.unset).toArray = ls at hl ⊢
  have g0 : ls[0]? = some (.val (.ref (ad q))) := lv_at hl 0 rfl
  obtain ⟨-, -, hva, hTv⟩ := hE.1.1 q hq
  refine W.cs (by omega) (by omega) (cells' := h.1.length - h.1.length) (slots' := tsz h.1 - tsz h.1) ?_
  refine lv_aload_n hx hb (show decode ct_len 0 = .ok (.aload_n 0, 1) by decide +kernel) rfl g0 ?_
  refine vk_getf hx hb hva va_S.rf hown (hts _ (wt_in (by decide))) (fun _ h => h) (show decode ct_len 1 = .ok (.getfield 9, 3) by decide +kernel) ?_
  refine va_tlen hx hb hTv va_S.rf rfl (show decode ct_len 4 = .ok (.arraylength, 1) by decide +kernel) ?_
  refine lv_aload_n hx hb (show decode ct_len 5 = .ok (.aload_n 0, 1) by decide +kernel) rfl g0 ?_
  have hT : GoodIn gtbl (wsV ty_S 335 ty_S yt_cod (.code yt_cod ct_cod 1 (some .byte) :: gtbl)) := goodT fun w hw => by
    simp only [wsV, List.mem_append, List.mem_cons, List.not_mem_nil, or_false] at hw
    rcases hw with (rfl | rfl | rfl | rfl) | rfl | hw
    · exact wt_in (by decide)
    · exact wt_in (by decide)
    · exact wt_in (by decide)
    · exact wt_in (by decide)
    · exact wt_in (by decide)
    · exact hw
  refine W.callR (W.runV (As := []) (rest := [.int (Int32.ofNat (LEN.getD q 0))]) (b := ad q) (g := F0 m 6 ls [.ref (ad q), .int (Int32.ofNat (LEN.getD q 0))]) ⟨hx, hb, hml, hown, hts⟩ (ct_cod_ok (ad := ad) (av := av) (A := va_A ws s.heap.size) hq) (cwV 0 hts hT rfl rfl rfl (by decide +kernel) ⟨by show 0 + 1 ≤ d + 1; omega, by show 8 + (1 + 11) + 0 ≤ 64 * (d + 1); omega⟩) ⟨PJ_blind, vk_recv hE.1 hq va_S.rf, PJ_in hE _⟩ rfl rfl hl.1 rfl (lv_room (Nat.le_of_ble_eq_true rfl)) (show decode ct_len 6 = .ok (.invokevirtual 335, 3) by decide +kernel) ⟨by show _ ≤ h.1.length - h.1.length; omega, by show _ ≤ tsz h.1 - tsz h.1; omega⟩) ?_
  refine lv_ishr hx hb (show decode ct_len 9 = .ok (.ishr, 1) by decide +kernel) ?_
  rw [tx_sh q hq, ht2]
  exact W.iret hx hb B.returns (fun t ht hW => ⟨_, ws, rfl, ⟨_, rfl, nofun, rfl⟩, by rw [ht]; exact hP, hKK.moved hW.alike, hD0.self, hw.moved hW.alike, xt.rf, va_S.F va_S.rf ht⟩) (fun _ h => by cases h) (show decode ct_len 10 = .ok (.ireturn, 1) by decide +kernel) B.notSynchronized
theorem con_chr (l : Launch) (d : Nat) (as : List AV) (h : AH) (r : AR) (e : prm 3 as h = some r) (hd : 4 ≤ d) : CON l (d + 1) K_J_chr as h r := by
  unfold prm at e
  split at e
  case h_1 z => exact absurd z (by decide)
  case h_2 z => exact absurd z (by decide)
  case h_4 z => exact absurd z (by decide)
  case h_5 z => exact absurd z (by decide)
  case h_6 z => exact absurd z (by decide)
  case h_7 => cases e
  rename_i q k z
  split at e
  case h_2 => cases e
  rename_i t ht
  split at e
  case isFalse => cases e
  rename_i hk
  cases e
  obtain ⟨hq, ht2⟩ := tx_get ht
  obtain ⟨b1, b2⟩ := tx_len q hq
  have hk2 : vp_in k (LEN.getD q 0) := by rw [b1, ht2]; exact hk
  intro D ad av ws avs sz has
  obtain ⟨w, sv', rfl, -, ⟨-, rfl⟩, hs'⟩ := srlV has
  obtain ⟨sv2, rfl, hs2⟩ := srlI hs'
  rw [srlN hs2]
  refine Met.ofW (cc := ct_chr) (maxL := 2) (ret := some .char) (by decide) rfl ?_
  intro p e s m args below meth c s₁ B hml hv
  obtain ⟨rfl, rfl, hP, hKK, hD0, hw, hE⟩ := hv
  have hx := B.exec
  have hb := B.bytes
  have hts : ∀ w ∈ gtbl, w.before [Value.ref (ad q), .int k].toArray s = true := fun w hw => atoms_spec (ws := .code K_J_chr.1 K_J_chr.2.1 K_J_chr.2.2.1 K_J_chr.2.2.2.1 :: gtbl) B.pre w (List.mem_cons_of_mem _ hw)
  have hown : s.vm.findClass ty_S = some m.cls := findClass_of_methodNamed B.named
  have hl := lv_entry ([.ref (ad q), .int k]) (n := 2) (Nat.le_of_ble_eq_true rfl)
  rw [lg_entry_eq]
  generalize (lg_sl ([.ref (ad q), .int k]) ++ List.replicate (2 - (lg_sl ([.ref (ad q), .int k])).length) Slot.unset).toArray = ls at hl ⊢
  have g0 : ls[0]? = some (.val (.ref (ad q))) := lv_at hl 0 rfl
  have g1 : ls[1]? = some (.val (.int k)) := lv_at hl 1 rfl
  obtain ⟨-, -, hva, hTv⟩ := hE.1.1 q hq
  refine W.cs (by omega) (by omega) (cells' := h.1.length - h.1.length) (slots' := tsz h.1 - tsz h.1) ?_
  refine lv_aload_n hx hb (show decode ct_chr 0 = .ok (.aload_n 0, 1) by decide +kernel) rfl g0 ?_
  have hT : GoodIn gtbl (wsV ty_S 492 ty_S yt_lat (.code yt_lat ct_lat 1 (some .boolean) :: gtbl)) := goodT fun w hw => by
    simp only [wsV, List.mem_append, List.mem_cons, List.not_mem_nil, or_false] at hw
    rcases hw with (rfl | rfl | rfl | rfl) | rfl | hw
    · exact wt_in (by decide)
    · exact wt_in (by decide)
    · exact wt_in (by decide)
    · exact wt_in (by decide)
    · exact wt_in (by decide)
    · exact hw
  refine W.callR (W.runV (As := []) (rest := []) (b := ad q) (g := F0 m 1 ls [.ref (ad q)]) ⟨hx, hb, hml, hown, hts⟩ (ct_lat_ok (ad := ad) (av := av) (A := va_A ws s.heap.size) hq) (cwV 0 hts hT rfl rfl rfl (by decide +kernel) ⟨by show 0 + 1 ≤ d + 1; omega, by show 8 + (1 + 11) + 0 ≤ 64 * (d + 1); omega⟩) ⟨PJ_blind, vk_recv hE.1 hq va_S.rf, PJ_in hE _⟩ rfl rfl hl.1 rfl (lv_room (Nat.le_of_ble_eq_true rfl)) (show decode ct_chr 1 = .ok (.invokevirtual 492, 3) by decide +kernel) ⟨by show _ ≤ h.1.length - h.1.length; omega, by show _ ≤ tsz h.1 - tsz h.1; omega⟩) ?_
  refine lv_if_eq (tgt := 16) hx hb (show decode ct_chr 4 = .ok (.ifCond .eq 12, 3) by decide +kernel) rfl (fun q => absurd q (by decide)) (fun _ => ?_)
  refine lv_aload_n hx hb (show decode ct_chr 7 = .ok (.aload_n 0, 1) by decide +kernel) rfl g0 ?_
  refine vk_getf hx hb hva va_S.rf hown (hts _ (wt_in (by decide))) (fun _ h => h) (show decode ct_chr 8 = .ok (.getfield 9, 3) by decide +kernel) ?_
  refine lv_iload_n hx hb (show decode ct_chr 11 = .ok (.iload_n 1, 1) by decide +kernel) rfl g1 ?_
  have hT2 : GoodIn gtbl (va_wsS ty_S 495 yt_l1c (.code yt_l1c ct_l1c 2 (some .char) :: gtbl)) := goodT fun w hw => by
    simp only [va_wsS, List.mem_append, List.mem_cons, List.not_mem_nil, or_false] at hw
    rcases hw with (rfl | rfl | rfl) | rfl | hw
    · exact wt_in (by decide)
    · exact wt_in (by decide)
    · exact wt_in (by decide)
    · exact wt_in (by decide)
    · exact hw
  refine W.callR (W.runS (As := [.ref (av q), .int k]) (rest := []) (g := F0 m 12 ls [.int k, .ref (av q)]) ⟨hx, hb, hml, hown, hts⟩ (ct_l1c_ok (ad := ad) (av := av) (A := va_A ws s.heap.size) hq hk2) (va_cwS 2 hts hT2 rfl rfl rfl (by decide +kernel) ⟨by show 2 + 1 ≤ d + 1; omega, by show 8 + (2 + 11) + 128 ≤ 64 * (d + 1); omega⟩) ⟨PJ_blind, PJ_in hE _⟩ rfl rfl hl.1 rfl (lv_room (Nat.le_of_ble_eq_true rfl)) (show decode ct_chr 12 = .ok (.invokestatic 495, 3) by decide +kernel) ⟨by show _ ≤ h.1.length - h.1.length; omega, by show _ ≤ tsz h.1 - tsz h.1; omega⟩) ?_
  have hc2 := (tx_chr q hq k.toNatClampNeg (Nat.not_le.mp fun z => hk2 (Or.inr z))).2
  rw [ht2] at hc2 ⊢
  exact W.zret hx hb B.returns hc2 (fun t ht hW => ⟨_, ws, rfl, ⟨_, rfl, nofun, rfl⟩, by rw [ht]; exact hP, hKK.moved hW.alike, hD0.self, hw.moved hW.alike, xt.rf, va_S.F va_S.rf ht⟩) (fun _ h => by cases h) (show decode ct_chr 15 = .ok (.ireturn, 1) by decide +kernel) B.notSynchronized
theorem hPr (l : Launch) : ∀ (d c : Nat) (K : KE) (as : List AV) (h : AH) (r : AR), prm c as h = some r → c = 2 ∨ c = 3 → 4 ≤ d → KT[c]? = some K → CON l (d + 1) K as h r := by
  intro d c K as h r e hc hd hK
  rcases hc with rfl | rfl
  · cases hK; exact con_len l d as h r e hd
  · cases hK; exact con_chr l d as h r e hd
/-- THE ABSTRACT MACHINE's ANSWERS ARE THE MACHINE's -/
theorem sound_all (l : Launch) (d c : Nat) (K : KE) (as : List AV) (h : AH) (r : AR) (e : Cc d c as h = some r) (h6 : 6 ≤ c) (hK : KT[c]? = some K) : CON l d K as h r := sound l hKT hKM (hPr l) d c K as h r e (by omega) (by omega) (by omega) hK
