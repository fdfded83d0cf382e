/-! WHAT THE TABLES SAY, read off once by place: links, codes, layouts. -/
def sMetP : List (Nat × Nat × Nat × Nat) := [
  (1026, 1025, 0, 1001), (1034, 1033, 0, 1002), (1040, 1039, 0, 1003), (1118, 1117, 0, 1004), (1124, 1123, 0, 1005), (1129, 1128, 0, 1005), (1132, 1131, 0, 1006), (1231, 1230, 0, 1007), (2083, 2082, 0, 1008), (2097, 2096, 0, 1009),
  (2131, 2130, 0, 1010), (2160, 2159, 0, 1011), (2170, 2169, 0, 1012), (2225, 2223, 2224, 1001), (2229, 2228, 1, 1003), (2233, 2232, 2, 1003), (2238, 2236, 2237, 1001), (3002, 3000, 3001, 1001), (3006, 3005, 3, 1003), (3010, 3009, 4, 1003),
  (3015, 3014, 5, 1003), (3019, 3018, 6, 1003), (3023, 3022, 7, 1003), (3028, 3027, 8, 1003), (3081, 3080, 9, 1003), (3085, 3084, 10, 1003), (3089, 3088, 11, 1003), (3093, 3092, 12, 1003), (3098, 3097, 13, 1003), (3104, 3103, 14, 1003),
  (3107, 3106, 0, 1003), (3111, 3110, 15, 1005), (3115, 3114, 16, 1003), (3119, 3118, 17, 1005), (3123, 3122, 18, 1005), (3131, 3129, 3130, 1001), (3135, 3134, 19, 1002), (3142, 3141, 20, 1002), (3148, 3147, 21, 1002), (3157, 3156, 22, 1002),
  (3161, 3160, 23, 1002), (3165, 3164, 24, 1002), (3172, 3171, 25, 1002), (3187, 3186, 26, 1002), (3192, 3191, 27, 1002), (3196, 3195, 28, 1002), (3200, 3199, 29, 1002), (3204, 3203, 30, 1002), (3208, 3207, 31, 1003), (3212, 3211, 32, 1002),
  (3218, 3217, 33, 1002), (3222, 3221, 34, 1002), (3227, 3226, 0, 1019), (3231, 3230, 0, 1006), (4027, 4025, 4026, 1001), (4031, 4030, 35, 1005), (4035, 4034, 36, 1005), (4039, 4038, 37, 1005), (4043, 4041, 4042, 1001), (4047, 4046, 38, 1005),
  (4051, 4049, 4050, 1001), (4054, 4053, 0, 1001), (4058, 4057, 39, 1005), (4065, 4064, 40, 1005), (4069, 4067, 4068, 1001), (4073, 4072, 41, 1005), (4077, 4076, 42, 1005), (4081, 4080, 43, 1005), (4085, 4083, 4084, 1001), (4089, 4088, 44, 1005),
  (4093, 4092, 45, 1005), (4098, 4097, 46, 1005), (4102, 4100, 4101, 1001), (4106, 4105, 47, 1005), (4110, 4109, 48, 1005), (4114, 4113, 49, 1005), (4119, 4117, 4118, 1001), (4123, 4122, 50, 1001), (4127, 4126, 51, 1008), (4131, 4130, 52, 1008),
  (4135, 4134, 53, 1005), (4140, 4139, 54, 1008), (4144, 4143, 55, 1008), (4148, 4147, 56, 1019), (4151, 4150, 0, 1008), (4161, 4160, 0, 1008), (4166, 4165, 57, 1008), (4170, 4169, 58, 1019), (4175, 4174, 59, 1008), (4179, 4178, 60, 1005),
  (4183, 4182, 0, 1008), (4187, 4185, 4186, 1001), (4191, 4190, 61, 1005), (4195, 4193, 4194, 1001), (4199, 4197, 4198, 1001), (4202, 4201, 0, 1001), (4210, 4208, 4209, 1001), (4214, 4212, 4213, 1001), (4217, 4216, 0, 1001), (4220, 4219, 0, 1009),
  (4223, 4222, 0, 1009), (4227, 4225, 4226, 1001), (4231, 4230, 62, 1005), (4234, 4233, 0, 1009), (4239, 4237, 4238, 1001), (5003, 5002, 63, 1009), (5007, 5006, 64, 1009), (5010, 5009, 0, 1009), (5016, 5015, 65, 1009), (5020, 5019, 0, 1009),
  (5023, 5022, 0, 1009), (5027, 5026, 0, 1009), (5032, 5030, 5031, 1001), (5035, 5034, 0, 1021), (5042, 5041, 66, 1009), (5046, 5045, 67, 1009), (5050, 5049, 68, 1009), (5053, 5052, 0, 1009), (5056, 5055, 0, 1009), (5061, 5059, 5060, 1001),
  (5064, 5063, 0, 1001), (5068, 5067, 69, 1007), (5072, 5070, 5071, 1001), (5076, 5075, 70, 1010), (5082, 5081, 71, 1010), (5085, 5084, 0, 1010), (5088, 5087, 0, 1010), (5092, 5091, 72, 1010), (5096, 5095, 0, 1010), (5102, 5101, 73, 1010),
  (5106, 5105, 74, 1010), (5110, 5109, 75, 1010), (5114, 5113, 76, 1010), (5117, 5116, 0, 1010), (5121, 5120, 77, 1010), (5125, 5123, 5124, 1001), (5129, 5127, 5128, 1001), (5133, 5132, 78, 1011), (5137, 5136, 0, 1011), (5143, 5142, 79, 1011),
  (5147, 5146, 80, 1011), (5151, 5150, 81, 1011), (5155, 5154, 82, 1011), (5159, 5158, 83, 1011), (5165, 5163, 5164, 1001), (5169, 5167, 5168, 1001), (5173, 5171, 5172, 1001), (5177, 5176, 84, 1007), (5181, 5179, 5180, 1001), (5185, 5183, 5184, 1001),
  (5189, 5188, 85, 1012), (5195, 5194, 86, 1012), (5199, 5198, 87, 1012), (5203, 5202, 88, 1012), (5207, 5206, 89, 1012), (5211, 5209, 5210, 1001), (5215, 5213, 5214, 1001), (5218, 5217, 0, 1012), (5222, 5221, 0, 1012), (5226, 5225, 0, 1012),
  (5230, 5228, 5229, 1001), (5234, 5233, 90, 1012), (5239, 5238, 91, 1012), (6003, 6002, 92, 1012), (6009, 6007, 6008, 1001), (6013, 6012, 93, 1004), (6018, 6017, 94, 1007), (6023, 6021, 6022, 1001), (6028, 6027, 0, 1013), (6148, 6146, 6147, 1013),
  (6152, 6151, 95, 1013), (6156, 6154, 6155, 1013), (6160, 6158, 6159, 1013), (6164, 6163, 96, 1013), (6168, 6167, 97, 1013), (6172, 6171, 98, 1013), (6177, 6176, 99, 1013), (6181, 6180, 100, 1013), (6189, 6188, 101, 1013), (6193, 6192, 102, 1013),
  (6197, 6196, 103, 1013), (6204, 6203, 104, 1013), (6208, 6207, 105, 1013), (6211, 6210, 0, 1013), (6215, 6214, 106, 1013), (6219, 6218, 107, 1013), (6223, 6222, 108, 1013), (6227, 6226, 109, 1013), (6232, 6231, 110, 1013), (6236, 6235, 111, 1013),
  (7000, 6239, 112, 1013), (7004, 7003, 113, 1013), (7008, 7007, 114, 1013), (7013, 7012, 115, 1013), (7017, 7016, 116, 1013), (7021, 7020, 117, 1013), (7034, 7033, 118, 1013), (7038, 7037, 119, 1013), (7041, 7040, 0, 1013), (7045, 7044, 120, 1013),
  (7051, 7049, 7050, 1013), (7055, 7054, 121, 1013), (7059, 7057, 7058, 1013), (7063, 7062, 122, 1013), (7068, 7067, 123, 1013), (7072, 7071, 124, 1013), (7076, 7075, 125, 1013), (7080, 7078, 7079, 1013), (7084, 7083, 126, 1013), (7088, 7087, 127, 1013),
  (7092, 7090, 7091, 1013), (7095, 7094, 0, 1013), (7099, 7098, 128, 1013), (7103, 7102, 129, 1013), (7107, 7105, 7106, 1013), (7111, 7110, 130, 1013), (7115, 7113, 7114, 1013), (7119, 7117, 7118, 1013), (7123, 7122, 131, 1013), (7128, 7127, 132, 1013),
  (7132, 7131, 133, 1013), (7136, 7135, 134, 1013), (7140, 7139, 135, 1013), (7144, 7143, 136, 1013), (7148, 7147, 137, 1013), (7152, 7151, 138, 1013), (7156, 7155, 139, 1013), (7160, 7159, 140, 1013), (7163, 7162, 0, 1013), (7167, 7166, 141, 1013),
  (7171, 7170, 142, 1013), (7175, 7173, 7174, 1013), (7180, 7179, 143, 1013), (7184, 7183, 144, 1013), (7188, 7187, 145, 1013), (7192, 7191, 146, 1013), (7196, 7194, 7195, 1013), (7200, 7198, 7199, 1013), (7205, 7204, 147, 1013), (7208, 7207, 0, 1013),
  (7212, 7210, 7211, 1013), (7216, 7215, 148, 1013), (7220, 7219, 149, 1013), (7224, 7223, 150, 1013), (7227, 7226, 0, 1013), (7230, 7229, 0, 1013), (7234, 7232, 7233, 1013), (7238, 7236, 7237, 1013), (8003, 8002, 151, 1013), (8007, 8006, 152, 1013),
  (8011, 8009, 8010, 1013), (8016, 8014, 8015, 1013), (8021, 8020, 153, 1013), (8026, 8025, 154, 1013), (8030, 8029, 155, 1013), (8034, 8032, 8033, 1013), (8038, 8036, 8037, 1013), (8042, 8041, 156, 1013), (8046, 8045, 157, 1013), (8050, 8049, 158, 1013),
  (8054, 8053, 159, 1013), (8058, 8056, 8057, 1013), (8063, 8061, 8062, 1013), (8067, 8065, 8066, 1013), (8071, 8070, 160, 1013), (8075, 8073, 8074, 1013), (8079, 8077, 8078, 1013), (8084, 8083, 161, 1013), (8088, 8087, 162, 1013), (8092, 8091, 163, 1013),
  (8096, 8094, 8095, 1013), (8100, 8098, 8099, 1013), (8104, 8103, 164, 1013), (8108, 8106, 8107, 1013), (8113, 8111, 8112, 1013), (8117, 8115, 8116, 1013), (8127, 8125, 8126, 1013), (8131, 8129, 8130, 1013), (8135, 8133, 8134, 1013)]
def sLayP : List (List Nat × Nat × Nat) := [
  ([2087, 2089], 2080, 1008),
  ([2108, 2110, 2112, 2114, 2116, 2118, 2120, 2122, 2124], 2094, 1009),
  ([2176, 2178, 2180, 2182], 2167, 1012),
  ([2140, 2142, 2144, 2146, 2148, 2150, 2152], 2128, 1010),
  ([1049, 1051, 1053, 1055], 1037, 1003),
  ([2163], 2157, 1011),
  ([4013, 4015, 4017, 4019, 4021], 3224, 1019),
  ([1081, 1083, 1085, 1087, 1089, 1091, 1093, 1095, 1097, 1099, 1101, 1103, 1105, 1107, 1109], 1031, 1002),
  ([2071, 2073], 1115, 1004),
  ([2034, 2036, 2038, 2040, 2042, 2044, 2046, 2048, 2050, 2052, 2054, 2056, 2058, 2060, 2062, 2064], 1228, 1007),
  ([1190, 1192, 1194, 1196, 1198, 1200, 1202, 1204, 1206, 1208, 1210, 1212, 1214, 1216, 1218, 1220, 1222, 1224], 1121, 1005),
  ([2197, 2199, 2201, 2203, 2205, 2207, 2209, 2211, 2213, 2215, 2217, 2219], 1023, 1001),
  ([6068, 6070, 6072, 6074, 6076, 6078, 6080, 6082, 6084, 6086, 6088, 6090, 6092, 6094, 6096, 6098, 6100, 6102, 6104, 6106, 6108, 6110, 6112, 6114, 6116, 6118, 6120, 6122, 6124, 6126, 6128, 6130, 6132, 6134, 6136, 6138, 6140, 6142], 6025, 1013)]
/-- a word by its place: 0 the selected private methods, then the eight tables -/
def sWd (p : Nat) : Option Cond := match p / 1000 with
  | 0 => (k2_sels lw_privs)[p % 1000]?
  | 1 => tables_1_1[p % 1000]?
  | 2 => tables_1_2[p % 1000]?
  | 3 => tables_1_3[p % 1000]?
  | 4 => tables_1_4[p % 1000]?
  | 5 => tables_1_5[p % 1000]?
  | 6 => tables_1_6[p % 1000]?
  | 7 => tables_1_7[p % 1000]?
  | 8 => tables_1_8[p % 1000]?
  | _ => none
theorem sWd_mem {p : Nat} {w : Cond} (h : sWd p = some w) : w ∈ lw_tbl := by
  have h1 : w ∈ k2_sels lw_privs ∨ w ∈ tables_1_1 ∨ w ∈ tables_1_2 ∨ w ∈ tables_1_3 ∨ w ∈ tables_1_4 ∨ w ∈ tables_1_5 ∨ w ∈ tables_1_6 ∨ w ∈ tables_1_7 ∨ w ∈ tables_1_8 := by
    unfold sWd at h
    split at h
    · exact Or.inl (List.mem_of_getElem? h)
    · exact Or.inr (Or.inl (List.mem_of_getElem? h))
    · exact Or.inr (Or.inr (Or.inl (List.mem_of_getElem? h)))
    · exact Or.inr (Or.inr (Or.inr (Or.inl (List.mem_of_getElem? h))))
    · exact Or.inr (Or.inr (Or.inr (Or.inr (Or.inl (List.mem_of_getElem? h)))))
    · exact Or.inr (Or.inr (Or.inr (Or.inr (Or.inr (Or.inl (List.mem_of_getElem? h))))))
    · exact Or.inr (Or.inr (Or.inr (Or.inr (Or.inr (Or.inr (Or.inl (List.mem_of_getElem? h)))))))
    · exact Or.inr (Or.inr (Or.inr (Or.inr (Or.inr (Or.inr (Or.inr (Or.inl (List.mem_of_getElem? h))))))))
    · exact Or.inr (Or.inr (Or.inr (Or.inr (Or.inr (Or.inr (Or.inr (Or.inr (List.mem_of_getElem? h))))))))
    · cases h
  unfold lw_tbl tables_1
  simp only [List.mem_append]
  exact h1
theorem sZip {α β : Type} : ∀ {l : List α} {l' : List β}, l.length = l'.length → ∀ {e : α}, e ∈ l → ∃ p, (e, p) ∈ l.zip l'
  | [], _, _, _, h => absurd h List.not_mem_nil
  | a :: l, [], h, _, _ => by simp at h
  | a :: l, b :: l', h, e, he => by
    rcases List.mem_cons.mp he with rfl | he
    · exact ⟨b, List.mem_cons_self⟩
    · obtain ⟨p, hp⟩ := sZip (l := l) (l' := l') (by simpa using h) he
      exact ⟨p, List.mem_cons_of_mem _ hp⟩
theorem sFind {α : Type} {l : List (Nat × Nat × α)} {o i : Nat} {r : α} (h : (l.find? (fun e => e.1 == o && e.2.1 == i)).map (fun e => e.2.2) = some r) : (o, i, r) ∈ l := by
  obtain ⟨e, he, rfl⟩ := Option.map_eq_some_iff.mp h
  have h1 := List.find?_some he
  simp only [Bool.and_eq_true, beq_iff_eq] at h1
  have h2 := List.mem_of_find?_eq_some he
  obtain ⟨e1, e2, e3⟩ := e
  simp only at h1
  obtain ⟨rfl, rfl⟩ := h1
  exact h2
def ckF (q : (Nat × Nat × Nat × Nat) × (Nat × Nat)) : Bool := match sOwn[q.1.1]?, sCl[q.1.2.2.1]? with
  | some O, some r => decide (q.1.1 = q.1.2.2.1 → q.2.1 = 0) && decide (q.1.2.2.2 < r.2.2) && decide ((r.2.1 q.1.2.2.2).1 = r.1) && decide (sWd q.2.2 = some (if q.2.1 = 1 then Cond.fieldLinkNest O q.1.2.1 (r.2.1 q.1.2.2.2).1 (r.2.1 q.1.2.2.2).2.1 (r.2.1 q.1.2.2.2).2.2.1 "AfterTheLast" else Cond.fieldLink O q.1.2.1 (r.2.1 q.1.2.2.2).1 (r.2.1 q.1.2.2.2).2.1 (r.2.1 q.1.2.2.2).2.2.1))
  | _, _ => false
set_option maxRecDepth 100000 in
theorem ckF_all : ∀ q ∈ sFldL.zip sFldP, ckF q = true := by decide +kernel
def ckM (q : (Nat × Nat × Nat) × (Nat × Nat)) : Bool := match sOwn[q.1.1]? with
  | some O => match (if q.1.2.2 = 1000 then some Lib.objectInit else if q.1.2.2 = 1001 then some Lib.Math.max.name else if q.1.2.2 = 1002 then some (⟨"java/lang/Math", "min", "(II)I"⟩ : MethodName) else if q.1.2.2 = 1003 then some arraycopyName else if q.1.2.2 = 1004 then some ⟨"java/lang/String", "length", "()I"⟩ else if q.1.2.2 = 1005 then some ⟨"java/lang/String", "charAt", "(I)C"⟩ else if q.1.2.2 = 1006 then some ⟨"[I", "clone", "()Ljava/lang/Object;"⟩ else (sYL[q.1.2.2]?).map (·.1)) with
    | some y => decide (sWd q.2.2 = some (if q.2.1 = 1 then Cond.methodLinkNest O q.1.2.1 y "AfterTheLast" else Cond.methodLink O q.1.2.1 y)) && decide (q.1.2.2 < 279 ∨ 1000 ≤ q.1.2.2) && decide (1000 ≤ q.1.2.2 → q.2.1 = 0)
    | none => false
  | none => false
set_option maxRecDepth 100000 in
theorem ckM_all : ∀ q ∈ sMthL.zip sMthP, ckM q = true := by decide +kernel
def ckC (q : (Nat × Nat × Nat) × Nat) : Bool := match sOwn[q.1.1]?, sCl[q.1.2.2]? with
  | some O, some r => decide (sWd q.2 = some (Cond.classLink O q.1.2.1 r.1))
  | _, _ => false
set_option maxRecDepth 100000 in
theorem ckC_all : ∀ q ∈ sClkL.zip sClkP, ckC q = true := by decide +kernel
def ckI (q : (Nat × Nat × Int) × Nat) : Bool := match sOwn[q.1.1]? with
  | some O => decide (sWd q.2 = some (Cond.constant O q.1.2.1 (Int32.ofInt q.1.2.2)))
  | _ => false
set_option maxRecDepth 100000 in
theorem ckI_all : ∀ q ∈ sCiL.zip sCiP, ckI q = true := by decide +kernel
def ckJ (q : (Nat × Nat × Int) × Nat) : Bool := match sOwn[q.1.1]? with
  | some O => decide (sWd q.2 = some (Cond.constantLong O q.1.2.1 (Int64.ofInt q.1.2.2)))
  | _ => false
set_option maxRecDepth 100000 in
theorem ckJ_all : ∀ q ∈ sClgL.zip sClgP, ckJ q = true := by decide +kernel
def ckS (q : (Nat × Nat × Nat) × Nat) : Bool := match sOwn[q.1.1]?, sTxt[q.1.2.2]? with
  | some O, some t => decide (sWd q.2 = some (Cond.stringRef O q.1.2.1 t)) && decide (q.1.2.2 < 21)
  | _, _ => false
set_option maxRecDepth 100000 in
theorem ckS_all : ∀ q ∈ sStrL.zip sStrP, ckS q = true := by decide +kernel
/-- a method's own words: its code, static or not, selected, its class ready -/
def ckY (q : (MethodName × ByteArray × Nat × Option FieldType × Bool) × (Nat × Nat × Nat × Nat)) : Bool :=
  decide (sWd q.2.2.1 = some (if q.1.2.2.2.2 = true then Cond.static q.1.1 else Cond.instanceMethod q.1.1)) && (q.1.2.2.2.2 || (q.1.1.name == "<init>") || decide (sWd q.2.2.2.1 = some (Cond.selects q.1.1.cls q.1.1 q.1.1))) && decide (sWd q.2.2.2.2 = some (Cond.initialized q.1.1.cls)) && plainName q.1.1.cls && decide (q.1.2.2.1 ≤ 40)
set_option maxRecDepth 100000 in
theorem ckY_all : ∀ q ∈ sYA.zip sMetP, ckY q = true := by decide +kernel
/-- the class of each method, its arguments, its answer -/
def ckK (q : (MethodName × ByteArray × Nat × Option FieldType × Bool) × (Nat × Nat × Nat × Nat × Nat)) : Bool :=
  decide (sOwn[q.2.1]? = some q.1.1.cls) && decide ((parseMethodDescriptor q.1.1.desc).map (fun d => d.parameters.length) = some q.2.2.1) && (decide (q.2.2.2.1 = 0 ∧ q.1.2.2.2.1 = none) || decide (q.2.2.2.1 = 1 ∧ q.1.2.2.2.1 = some .int) || decide (q.2.2.2.1 = 2 ∧ q.1.2.2.2.1 = some .boolean) || decide (q.2.2.2.1 = 3 ∧ q.1.2.2.2.1 = some .long) || decide (q.2.2.2.1 = 4 ∧ (q.1.2.2.2.1 = some (.array .int) ∨ q.1.2.2.2.1 = some (.object RX6)))) && decide (q.1.1.cls ≠ "java/lang/invoke/MethodHandle") && decide (q.1.1.cls ≠ "java/lang/invoke/VarHandle") && ((q.1.2.2.2.2) || decide (q.2.1 < 13))
set_option maxRecDepth 100000 in
theorem ckK_all : ∀ q ∈ sYL.zip sKL, ckK q = true := by decide +kernel
/-- the layouts of the classes -/
def ckL (q : vw_C × (List Nat × Nat × Nat)) : Bool := ((List.range q.1.2.2).all fun k => decide (((q.2.1)[k]?.bind fun p => sWd p) = some (u_lay q.1.1 q.1.2.1 k))) && decide (sWd q.2.2.1 = some (Cond.instantiable q.1.1 q.1.2.2)) && decide (sWd q.2.2.2 = some (Cond.initialized q.1.1))
set_option maxRecDepth 100000 in
theorem ckL_all : ∀ q ∈ sCl.zip sLayP, ckL q = true := by decide +kernel
def sTyOf (c k : Nat) : FieldType := ((sCl[c]?).bind (fun r => parseFieldDescriptor (r.2.1 k).2.2.1)).getD .int
def ckT (q : vw_C × Nat) : Bool := ((List.range q.1.2.2).all fun k => decide ((sTyOf q.2 k = .int ∧ (sFI q.2 k).2.2.1 = 0 ∨ sTyOf q.2 k ≠ .int ∧ (sFI q.2 k).2.2.1 ≠ 0 ∧ (q.1.2.1 k).2.2.2 = true ∧ (sFI q.2 k).1 < sFul q.2 ∧ refKind (sTyOf q.2 k) = true ∧ ((sFI q.2 k).2.2.1 < 60 ∨ 100 ≤ (sFI q.2 k).2.2.1) ∧ 3 < (sFI q.2 k).2.2.1 ∧ ((sFI q.2 k).2.2.1 < 40 ∨ 60 ≤ (sFI q.2 k).2.2.1))) && decide (parseFieldDescriptor (q.1.2.1 k).2.2.1 = some (sTyOf q.2 k)) && decide ((q.1.2.1 k).1 = q.1.1) && ((List.range q.1.2.2).all fun j => decide (j = k) || decide ((q.1.2.1 j).2.1 ≠ (q.1.2.1 k).2.1)))
set_option maxRecDepth 100000 in
theorem ckT_all : ∀ q ∈ sCl.zip (List.range 13), ckT q = true := by decide +kernel
set_option maxRecDepth 100000 in
theorem sLens : sFldL.length = sFldP.length ∧ sMthL.length = sMthP.length ∧ sClkL.length = sClkP.length ∧ sCiL.length = sCiP.length ∧ sClgL.length = sClgP.length ∧ sStrL.length = sStrP.length ∧ sYA.length = sMetP.length ∧ sYL.length = sKL.length ∧ sCl.length = sLayP.length ∧ sCl.length = (List.range 13).length ∧ sYL.length = 280 := by decide +kernel
theorem cw0 : Cond.code ⟨"AfterTheLast", "<init>", "()V"⟩ prog_1_method_1_code 1 (Option.none : Option Jvm.ClassFile.FieldType) ∈ tables_1_1 := List.mem_of_getElem? (i := 26) rfl
theorem cw1 : Cond.code ⟨"AfterTheLast$RuleReader", "<init>", "()V"⟩ prog_9_method_1_code 1 (Option.none : Option Jvm.ClassFile.FieldType) ∈ tables_1_1 := List.mem_of_getElem? (i := 34) rfl
theorem cw2 : Cond.code ⟨"AfterTheLast$Reader", "<init>", "()V"⟩ prog_6_method_1_code 1 (Option.none : Option Jvm.ClassFile.FieldType) ∈ tables_1_1 := List.mem_of_getElem? (i := 40) rfl
theorem cw3 : Cond.code ⟨"AfterTheLast$Scene", "<init>", "()V"⟩ prog_10_method_1_code 1 (Option.none : Option Jvm.ClassFile.FieldType) ∈ tables_1_1 := List.mem_of_getElem? (i := 118) rfl
theorem cw4 : Cond.code ⟨"AfterTheLast$Town", "<init>", "()V"⟩ prog_12_method_1_code 1 (Option.none : Option Jvm.ClassFile.FieldType) ∈ tables_1_1 := List.mem_of_getElem? (i := 124) rfl
theorem cw5 : Cond.code ⟨"AfterTheLast$Town", "clear", "()V"⟩ prog_12_method_2_code 1 (Option.none : Option Jvm.ClassFile.FieldType) ∈ tables_1_1 := List.mem_of_getElem? (i := 129) rfl
theorem cw6 : Cond.code ⟨"java/util/Arrays", "fill", "([II)V"⟩ prog_22_method_103_code 4 (Option.none : Option Jvm.ClassFile.FieldType) ∈ tables_1_1 := List.mem_of_getElem? (i := 132) rfl
theorem cw7 : Cond.code ⟨"AfterTheLast$Told", "<init>", "()V"⟩ prog_11_method_1_code 1 (Option.none : Option Jvm.ClassFile.FieldType) ∈ tables_1_1 := List.mem_of_getElem? (i := 231) rfl
theorem cw8 : Cond.code ⟨"AfterTheLast$Clock", "<init>", "()V"⟩ prog_2_method_1_code 1 (Option.none : Option Jvm.ClassFile.FieldType) ∈ tables_1_2 := List.mem_of_getElem? (i := 83) rfl
theorem cw9 : Cond.code ⟨"AfterTheLast$Crossings", "<init>", "()V"⟩ prog_3_method_1_code 1 (Option.none : Option Jvm.ClassFile.FieldType) ∈ tables_1_2 := List.mem_of_getElem? (i := 97) rfl
theorem cw10 : Cond.code ⟨"AfterTheLast$Planner", "<init>", "()V"⟩ prog_5_method_1_code 1 (Option.none : Option Jvm.ClassFile.FieldType) ∈ tables_1_2 := List.mem_of_getElem? (i := 131) rfl
theorem cw11 : Cond.code ⟨"AfterTheLast$Rings", "<init>", "()V"⟩ prog_7_method_1_code 1 (Option.none : Option Jvm.ClassFile.FieldType) ∈ tables_1_2 := List.mem_of_getElem? (i := 160) rfl
theorem cw12 : Cond.code ⟨"AfterTheLast$Guesses", "<init>", "()V"⟩ prog_4_method_1_code 1 (Option.none : Option Jvm.ClassFile.FieldType) ∈ tables_1_2 := List.mem_of_getElem? (i := 170) rfl
theorem cw13 : Cond.code ⟨"AfterTheLast", "feed", "(IIIII)I"⟩ prog_1_method_2_code 6 (Option.some Jvm.ClassFile.FieldType.int) ∈ tables_1_2 := List.mem_of_getElem? (i := 225) rfl
theorem cw14 : Cond.code ⟨"AfterTheLast$Reader", "hasPlaceFor", "(I)Z"⟩ prog_6_method_2_code 2 (Option.some Jvm.ClassFile.FieldType.boolean) ∈ tables_1_2 := List.mem_of_getElem? (i := 229) rfl
theorem cw15 : Cond.code ⟨"AfterTheLast$Reader", "append", "(I)V"⟩ prog_6_method_3_code 3 (Option.none : Option Jvm.ClassFile.FieldType) ∈ tables_1_2 := List.mem_of_getElem? (i := 233) rfl
theorem cw16 : Cond.code ⟨"AfterTheLast", "end", "(I)I"⟩ prog_1_method_3_code 2 (Option.some Jvm.ClassFile.FieldType.int) ∈ tables_1_2 := List.mem_of_getElem? (i := 238) rfl
theorem cw17 : Cond.code ⟨"AfterTheLast", "street", "()I"⟩ prog_1_method_4_code 2 (Option.some Jvm.ClassFile.FieldType.int) ∈ tables_1_3 := List.mem_of_getElem? (i := 2) rfl
theorem cw18 : Cond.code ⟨"AfterTheLast$Reader", "readStreet", "(LAfterTheLast$Town;)I"⟩ prog_6_method_15_code 5 (Option.some Jvm.ClassFile.FieldType.int) ∈ tables_1_3 := List.mem_of_getElem? (i := 6) rfl
theorem cw19 : Cond.code ⟨"AfterTheLast$Reader", "rewind", "()V"⟩ prog_6_method_4_code 1 (Option.none : Option Jvm.ClassFile.FieldType) ∈ tables_1_3 := List.mem_of_getElem? (i := 10) rfl
theorem cw20 : Cond.code ⟨"AfterTheLast$Reader", "fine", "()Z"⟩ prog_6_method_5_code 1 (Option.some Jvm.ClassFile.FieldType.boolean) ∈ tables_1_3 := List.mem_of_getElem? (i := 15) rfl
theorem cw21 : Cond.code ⟨"AfterTheLast$Reader", "readClause", "(LAfterTheLast$Town;Z)V"⟩ prog_6_method_16_code 4 (Option.none : Option Jvm.ClassFile.FieldType) ∈ tables_1_3 := List.mem_of_getElem? (i := 19) rfl
theorem cw22 : Cond.code ⟨"AfterTheLast$Reader", "next", "()I"⟩ prog_6_method_8_code 1 (Option.some Jvm.ClassFile.FieldType.int) ∈ tables_1_3 := List.mem_of_getElem? (i := 23) rfl
theorem cw23 : Cond.code ⟨"AfterTheLast$Reader", "isAt", "(Ljava/lang/String;)Z"⟩ prog_6_method_10_code 4 (Option.some Jvm.ClassFile.FieldType.boolean) ∈ tables_1_3 := List.mem_of_getElem? (i := 28) rfl
theorem cw24 : Cond.code ⟨"AfterTheLast$Reader", "fail", "(I)V"⟩ prog_6_method_6_code 2 (Option.none : Option Jvm.ClassFile.FieldType) ∈ tables_1_3 := List.mem_of_getElem? (i := 81) rfl
theorem cw25 : Cond.code ⟨"AfterTheLast$Reader", "failAt", "(II)V"⟩ prog_6_method_7_code 3 (Option.none : Option Jvm.ClassFile.FieldType) ∈ tables_1_3 := List.mem_of_getElem? (i := 85) rfl
theorem cw26 : Cond.code ⟨"AfterTheLast$Reader", "skip", "(I)V"⟩ prog_6_method_9_code 2 (Option.none : Option Jvm.ClassFile.FieldType) ∈ tables_1_3 := List.mem_of_getElem? (i := 89) rfl
theorem cw27 : Cond.code ⟨"AfterTheLast$Reader", "readHouse", "(LAfterTheLast$Town;)V"⟩ prog_6_method_17_code 5 (Option.none : Option Jvm.ClassFile.FieldType) ∈ tables_1_3 := List.mem_of_getElem? (i := 93) rfl
theorem cw28 : Cond.code ⟨"AfterTheLast$Reader", "take", "(Ljava/lang/String;)Z"⟩ prog_6_method_12_code 2 (Option.some Jvm.ClassFile.FieldType.boolean) ∈ tables_1_3 := List.mem_of_getElem? (i := 98) rfl
theorem cw29 : Cond.code ⟨"AfterTheLast$Reader", "number", "(II)I"⟩ prog_6_method_13_code 5 (Option.some Jvm.ClassFile.FieldType.int) ∈ tables_1_3 := List.mem_of_getElem? (i := 104) rfl
theorem cw30 : Cond.code ⟨"AfterTheLast$Reader", "isDigit", "(I)Z"⟩ prog_6_method_14_code 1 (Option.some Jvm.ClassFile.FieldType.boolean) ∈ tables_1_3 := List.mem_of_getElem? (i := 107) rfl
theorem cw31 : Cond.code ⟨"AfterTheLast$Town", "addHouse", "(III)V"⟩ prog_12_method_4_code 4 (Option.none : Option Jvm.ClassFile.FieldType) ∈ tables_1_3 := List.mem_of_getElem? (i := 111) rfl
theorem cw32 : Cond.code ⟨"AfterTheLast$Reader", "readStay", "(LAfterTheLast$Town;)V"⟩ prog_6_method_18_code 7 (Option.none : Option Jvm.ClassFile.FieldType) ∈ tables_1_3 := List.mem_of_getElem? (i := 115) rfl
theorem cw33 : Cond.code ⟨"AfterTheLast$Town", "addStay", "(IIIII)V"⟩ prog_12_method_5_code 6 (Option.none : Option Jvm.ClassFile.FieldType) ∈ tables_1_3 := List.mem_of_getElem? (i := 119) rfl
theorem cw34 : Cond.code ⟨"AfterTheLast$Town", "copyFrom", "(LAfterTheLast$Town;)V"⟩ prog_12_method_3_code 2 (Option.none : Option Jvm.ClassFile.FieldType) ∈ tables_1_3 := List.mem_of_getElem? (i := 123) rfl
theorem cw35 : Cond.code ⟨"AfterTheLast", "rule", "()I"⟩ prog_1_method_5_code 2 (Option.some Jvm.ClassFile.FieldType.int) ∈ tables_1_3 := List.mem_of_getElem? (i := 131) rfl
theorem cw36 : Cond.code ⟨"AfterTheLast$RuleReader", "read", "()LAfterTheLast$Rule;"⟩ prog_9_method_2_code 2 (Option.some (Jvm.ClassFile.FieldType.object "AfterTheLast$Rule")) ∈ tables_1_3 := List.mem_of_getElem? (i := 135) rfl
theorem cw37 : Cond.code ⟨"AfterTheLast$RuleReader", "readNext", "(I)V"⟩ prog_9_method_3_code 4 (Option.none : Option Jvm.ClassFile.FieldType) ∈ tables_1_3 := List.mem_of_getElem? (i := 142) rfl
theorem cw38 : Cond.code ⟨"AfterTheLast$RuleReader", "readClauseWord", "()V"⟩ prog_9_method_4_code 2 (Option.none : Option Jvm.ClassFile.FieldType) ∈ tables_1_3 := List.mem_of_getElem? (i := 148) rfl
theorem cw39 : Cond.code ⟨"AfterTheLast$RuleReader", "readOpening", "(Z)V"⟩ prog_9_method_5_code 2 (Option.none : Option Jvm.ClassFile.FieldType) ∈ tables_1_3 := List.mem_of_getElem? (i := 157) rfl
theorem cw40 : Cond.code ⟨"AfterTheLast$RuleReader", "keepWaiting", "(III)V"⟩ prog_9_method_14_code 4 (Option.none : Option Jvm.ClassFile.FieldType) ∈ tables_1_3 := List.mem_of_getElem? (i := 161) rfl
theorem cw41 : Cond.code ⟨"AfterTheLast$RuleReader", "readValue", "(I)V"⟩ prog_9_method_6_code 5 (Option.none : Option Jvm.ClassFile.FieldType) ∈ tables_1_3 := List.mem_of_getElem? (i := 165) rfl
theorem cw42 : Cond.code ⟨"AfterTheLast$RuleReader", "takeWord", "()I"⟩ prog_9_method_7_code 1 (Option.some Jvm.ClassFile.FieldType.int) ∈ tables_1_3 := List.mem_of_getElem? (i := 172) rfl
theorem cw43 : Cond.code ⟨"AfterTheLast$RuleReader", "countPart", "(I)V"⟩ prog_9_method_13_code 2 (Option.none : Option Jvm.ClassFile.FieldType) ∈ tables_1_3 := List.mem_of_getElem? (i := 187) rfl
theorem cw44 : Cond.code ⟨"AfterTheLast$RuleReader", "add", "(II)I"⟩ prog_9_method_16_code 3 (Option.some Jvm.ClassFile.FieldType.int) ∈ tables_1_3 := List.mem_of_getElem? (i := 192) rfl
theorem cw45 : Cond.code ⟨"AfterTheLast$RuleReader", "readJoining", "(I)V"⟩ prog_9_method_8_code 4 (Option.none : Option Jvm.ClassFile.FieldType) ∈ tables_1_3 := List.mem_of_getElem? (i := 196) rfl
theorem cw46 : Cond.code ⟨"AfterTheLast$RuleReader", "settle", "(I)V"⟩ prog_9_method_15_code 3 (Option.none : Option Jvm.ClassFile.FieldType) ∈ tables_1_3 := List.mem_of_getElem? (i := 200) rfl
theorem cw47 : Cond.code ⟨"AfterTheLast$RuleReader", "readSign", "(I)V"⟩ prog_9_method_9_code 3 (Option.none : Option Jvm.ClassFile.FieldType) ∈ tables_1_3 := List.mem_of_getElem? (i := 204) rfl
theorem cw48 : Cond.code ⟨"AfterTheLast$Reader", "takePair", "(CC)Z"⟩ prog_6_method_11_code 4 (Option.some Jvm.ClassFile.FieldType.boolean) ∈ tables_1_3 := List.mem_of_getElem? (i := 208) rfl
theorem cw49 : Cond.code ⟨"AfterTheLast$RuleReader", "readBehindFact", "(I)V"⟩ prog_9_method_10_code 2 (Option.none : Option Jvm.ClassFile.FieldType) ∈ tables_1_3 := List.mem_of_getElem? (i := 212) rfl
theorem cw50 : Cond.code ⟨"AfterTheLast$RuleReader", "closeBracket", "()V"⟩ prog_9_method_11_code 1 (Option.none : Option Jvm.ClassFile.FieldType) ∈ tables_1_3 := List.mem_of_getElem? (i := 218) rfl
theorem cw51 : Cond.code ⟨"AfterTheLast$RuleReader", "endClause", "()V"⟩ prog_9_method_12_code 1 (Option.none : Option Jvm.ClassFile.FieldType) ∈ tables_1_3 := List.mem_of_getElem? (i := 222) rfl
theorem cw52 : Cond.code ⟨"AfterTheLast$Rule", "<init>", "(LAfterTheLast$RuleReader;)V"⟩ prog_8_method_1_code 2 (Option.none : Option Jvm.ClassFile.FieldType) ∈ tables_1_3 := List.mem_of_getElem? (i := 227) rfl
theorem cw53 : Cond.code ⟨"java/util/Arrays", "copyOf", "([II)[I"⟩ prog_22_method_123_code 3 (Option.some (Jvm.ClassFile.FieldType.array Jvm.ClassFile.FieldType.int)) ∈ tables_1_3 := List.mem_of_getElem? (i := 231) rfl
theorem cw54 : Cond.code ⟨"AfterTheLast", "house", "(II)I"⟩ prog_1_method_6_code 4 (Option.some Jvm.ClassFile.FieldType.int) ∈ tables_1_4 := List.mem_of_getElem? (i := 27) rfl
theorem cw55 : Cond.code ⟨"AfterTheLast$Town", "isHouse", "(I)Z"⟩ prog_12_method_6_code 2 (Option.some Jvm.ClassFile.FieldType.boolean) ∈ tables_1_4 := List.mem_of_getElem? (i := 31) rfl
theorem cw56 : Cond.code ⟨"AfterTheLast$Town", "lastIn", "(I)I"⟩ prog_12_method_11_code 2 (Option.some Jvm.ClassFile.FieldType.int) ∈ tables_1_4 := List.mem_of_getElem? (i := 35) rfl
theorem cw57 : Cond.code ⟨"AfterTheLast$Town", "firstIn", "(I)I"⟩ prog_12_method_10_code 2 (Option.some Jvm.ClassFile.FieldType.int) ∈ tables_1_4 := List.mem_of_getElem? (i := 39) rfl
theorem cw58 : Cond.code ⟨"AfterTheLast", "stay", "(II)I"⟩ prog_1_method_7_code 4 (Option.some Jvm.ClassFile.FieldType.int) ∈ tables_1_4 := List.mem_of_getElem? (i := 43) rfl
theorem cw59 : Cond.code ⟨"AfterTheLast$Town", "isStay", "(I)Z"⟩ prog_12_method_7_code 2 (Option.some Jvm.ClassFile.FieldType.boolean) ∈ tables_1_4 := List.mem_of_getElem? (i := 47) rfl
theorem cw60 : Cond.code ⟨"AfterTheLast", "person", "(II)I"⟩ prog_1_method_8_code 4 (Option.some Jvm.ClassFile.FieldType.int) ∈ tables_1_4 := List.mem_of_getElem? (i := 51) rfl
theorem cw61 : Cond.code ⟨"AfterTheLast", "isPerson", "(I)Z"⟩ prog_1_method_35_code 1 (Option.some Jvm.ClassFile.FieldType.boolean) ∈ tables_1_4 := List.mem_of_getElem? (i := 54) rfl
theorem cw62 : Cond.code ⟨"AfterTheLast$Town", "mayLeave", "(I)Z"⟩ prog_12_method_14_code 3 (Option.some Jvm.ClassFile.FieldType.boolean) ∈ tables_1_4 := List.mem_of_getElem? (i := 58) rfl
theorem cw63 : Cond.code ⟨"AfterTheLast$Town", "after", "(I)I"⟩ prog_12_method_13_code 5 (Option.some Jvm.ClassFile.FieldType.int) ∈ tables_1_4 := List.mem_of_getElem? (i := 65) rfl
theorem cw64 : Cond.code ⟨"AfterTheLast", "count", "(I)I"⟩ prog_1_method_9_code 4 (Option.some Jvm.ClassFile.FieldType.int) ∈ tables_1_4 := List.mem_of_getElem? (i := 69) rfl
theorem cw65 : Cond.code ⟨"AfterTheLast$Town", "served", "()I"⟩ prog_12_method_21_code 3 (Option.some Jvm.ClassFile.FieldType.int) ∈ tables_1_4 := List.mem_of_getElem? (i := 73) rfl
theorem cw66 : Cond.code ⟨"AfterTheLast$Town", "missed", "()I"⟩ prog_12_method_22_code 3 (Option.some Jvm.ClassFile.FieldType.int) ∈ tables_1_4 := List.mem_of_getElem? (i := 77) rfl
theorem cw67 : Cond.code ⟨"AfterTheLast$Town", "allInside", "()I"⟩ prog_12_method_23_code 3 (Option.some Jvm.ClassFile.FieldType.int) ∈ tables_1_4 := List.mem_of_getElem? (i := 81) rfl
theorem cw68 : Cond.code ⟨"AfterTheLast", "come", "(II)Z"⟩ prog_1_method_10_code 4 (Option.some Jvm.ClassFile.FieldType.boolean) ∈ tables_1_4 := List.mem_of_getElem? (i := 85) rfl
theorem cw69 : Cond.code ⟨"AfterTheLast$Town", "roomLeft", "(I)I"⟩ prog_12_method_9_code 2 (Option.some Jvm.ClassFile.FieldType.int) ∈ tables_1_4 := List.mem_of_getElem? (i := 89) rfl
theorem cw70 : Cond.code ⟨"AfterTheLast$Town", "enter", "(III)V"⟩ prog_12_method_15_code 4 (Option.none : Option Jvm.ClassFile.FieldType) ∈ tables_1_4 := List.mem_of_getElem? (i := 93) rfl
theorem cw71 : Cond.code ⟨"AfterTheLast$Town", "endWaits", "(II)V"⟩ prog_12_method_16_code 4 (Option.none : Option Jvm.ClassFile.FieldType) ∈ tables_1_4 := List.mem_of_getElem? (i := 98) rfl
theorem cw72 : Cond.code ⟨"AfterTheLast", "go", "(IZ)Z"⟩ prog_1_method_11_code 4 (Option.some Jvm.ClassFile.FieldType.boolean) ∈ tables_1_4 := List.mem_of_getElem? (i := 102) rfl
theorem cw73 : Cond.code ⟨"AfterTheLast$Town", "leaveByWindow", "(I)Z"⟩ prog_12_method_18_code 3 (Option.some Jvm.ClassFile.FieldType.boolean) ∈ tables_1_4 := List.mem_of_getElem? (i := 106) rfl
theorem cw74 : Cond.code ⟨"AfterTheLast$Town", "leave", "(I)V"⟩ prog_12_method_17_code 5 (Option.none : Option Jvm.ClassFile.FieldType) ∈ tables_1_4 := List.mem_of_getElem? (i := 110) rfl
theorem cw75 : Cond.code ⟨"AfterTheLast$Town", "placeOf", "(I)I"⟩ prog_12_method_12_code 4 (Option.some Jvm.ClassFile.FieldType.int) ∈ tables_1_4 := List.mem_of_getElem? (i := 114) rfl
theorem cw76 : Cond.code ⟨"AfterTheLast", "tick", "(II)I"⟩ prog_1_method_12_code 5 (Option.some Jvm.ClassFile.FieldType.int) ∈ tables_1_4 := List.mem_of_getElem? (i := 119) rfl
theorem cw77 : Cond.code ⟨"AfterTheLast", "ruleAt", "(I)LAfterTheLast$Rule;"⟩ prog_1_method_38_code 2 (Option.some (Jvm.ClassFile.FieldType.object "AfterTheLast$Rule")) ∈ tables_1_4 := List.mem_of_getElem? (i := 123) rfl
theorem cw78 : Cond.code ⟨"AfterTheLast$Clock", "quarters", "(LAfterTheLast$Rule;LAfterTheLast$Town;I)V"⟩ prog_2_method_2_code 5 (Option.none : Option Jvm.ClassFile.FieldType) ∈ tables_1_4 := List.mem_of_getElem? (i := 127) rfl
theorem cw79 : Cond.code ⟨"AfterTheLast$Clock", "letGo", "(LAfterTheLast$Rule;LAfterTheLast$Town;)V"⟩ prog_2_method_3_code 6 (Option.none : Option Jvm.ClassFile.FieldType) ∈ tables_1_4 := List.mem_of_getElem? (i := 131) rfl
theorem cw80 : Cond.code ⟨"AfterTheLast$Town", "isDue", "(I)Z"⟩ prog_12_method_19_code 3 (Option.some Jvm.ClassFile.FieldType.boolean) ∈ tables_1_4 := List.mem_of_getElem? (i := 135) rfl
theorem cw81 : Cond.code ⟨"AfterTheLast$Clock", "someTestHolds", "(LAfterTheLast$Rule;ILAfterTheLast$Town;II)Z"⟩ prog_2_method_7_code 7 (Option.some Jvm.ClassFile.FieldType.boolean) ∈ tables_1_4 := List.mem_of_getElem? (i := 140) rfl
theorem cw82 : Cond.code ⟨"AfterTheLast$Clock", "testHolds", "(LAfterTheLast$Rule;ILAfterTheLast$Town;II)Z"⟩ prog_2_method_8_code 11 (Option.some Jvm.ClassFile.FieldType.boolean) ∈ tables_1_4 := List.mem_of_getElem? (i := 144) rfl
theorem cw83 : Cond.code ⟨"AfterTheLast$Rule", "start", "(I)I"⟩ prog_8_method_3_code 2 (Option.some Jvm.ClassFile.FieldType.int) ∈ tables_1_4 := List.mem_of_getElem? (i := 148) rfl
theorem cw84 : Cond.code ⟨"AfterTheLast$Clock", "wordValue", "(ILAfterTheLast$Town;II)J"⟩ prog_2_method_10_code 5 (Option.some Jvm.ClassFile.FieldType.long) ∈ tables_1_4 := List.mem_of_getElem? (i := 151) rfl
theorem cw85 : Cond.code ⟨"AfterTheLast$Clock", "joined", "(IJJ)J"⟩ prog_2_method_9_code 5 (Option.some Jvm.ClassFile.FieldType.long) ∈ tables_1_4 := List.mem_of_getElem? (i := 161) rfl
theorem cw86 : Cond.code ⟨"AfterTheLast$Clock", "letOutByWindow", "(LAfterTheLast$Rule;LAfterTheLast$Town;)V"⟩ prog_2_method_4_code 4 (Option.none : Option Jvm.ClassFile.FieldType) ∈ tables_1_4 := List.mem_of_getElem? (i := 166) rfl
theorem cw87 : Cond.code ⟨"AfterTheLast$Rule", "has", "(I)Z"⟩ prog_8_method_2_code 3 (Option.some Jvm.ClassFile.FieldType.boolean) ∈ tables_1_4 := List.mem_of_getElem? (i := 170) rfl
theorem cw88 : Cond.code ⟨"AfterTheLast$Clock", "letIn", "(LAfterTheLast$Rule;LAfterTheLast$Town;)V"⟩ prog_2_method_5_code 6 (Option.none : Option Jvm.ClassFile.FieldType) ∈ tables_1_4 := List.mem_of_getElem? (i := 175) rfl
theorem cw89 : Cond.code ⟨"AfterTheLast$Town", "findStaysToBegin", "([I)V"⟩ prog_12_method_20_code 3 (Option.none : Option Jvm.ClassFile.FieldType) ∈ tables_1_4 := List.mem_of_getElem? (i := 179) rfl
theorem cw90 : Cond.code ⟨"AfterTheLast$Clock", "countLate", "(LAfterTheLast$Town;)V"⟩ prog_2_method_6_code 2 (Option.none : Option Jvm.ClassFile.FieldType) ∈ tables_1_4 := List.mem_of_getElem? (i := 183) rfl
theorem cw91 : Cond.code ⟨"AfterTheLast", "ahead", "(III)I"⟩ prog_1_method_13_code 6 (Option.some Jvm.ClassFile.FieldType.int) ∈ tables_1_4 := List.mem_of_getElem? (i := 187) rfl
theorem cw92 : Cond.code ⟨"AfterTheLast$Town", "windowsLeft", "()I"⟩ prog_12_method_24_code 3 (Option.some Jvm.ClassFile.FieldType.int) ∈ tables_1_4 := List.mem_of_getElem? (i := 191) rfl
theorem cw93 : Cond.code ⟨"AfterTheLast", "bestRule", "()I"⟩ prog_1_method_14_code 7 (Option.some Jvm.ClassFile.FieldType.int) ∈ tables_1_4 := List.mem_of_getElem? (i := 195) rfl
theorem cw94 : Cond.code ⟨"AfterTheLast", "evenings", "(III)I"⟩ prog_1_method_15_code 9 (Option.some Jvm.ClassFile.FieldType.int) ∈ tables_1_4 := List.mem_of_getElem? (i := 199) rfl
theorem cw95 : Cond.code ⟨"AfterTheLast", "drawTills", "(LAfterTheLast$Town;I)I"⟩ prog_1_method_39_code 4 (Option.some Jvm.ClassFile.FieldType.int) ∈ tables_1_4 := List.mem_of_getElem? (i := 202) rfl
theorem cw96 : Cond.code ⟨"AfterTheLast", "seed", "(I)I"⟩ prog_1_method_16_code 3 (Option.some Jvm.ClassFile.FieldType.int) ∈ tables_1_4 := List.mem_of_getElem? (i := 210) rfl
theorem cw97 : Cond.code ⟨"AfterTheLast", "cross", "(III)I"⟩ prog_1_method_17_code 5 (Option.some Jvm.ClassFile.FieldType.int) ∈ tables_1_4 := List.mem_of_getElem? (i := 214) rfl
theorem cw98 : Cond.code ⟨"AfterTheLast", "isLaw", "(I)Z"⟩ prog_1_method_37_code 1 (Option.some Jvm.ClassFile.FieldType.boolean) ∈ tables_1_4 := List.mem_of_getElem? (i := 217) rfl
theorem cw99 : Cond.code ⟨"AfterTheLast$Crossings", "crosses", "(LAfterTheLast$Town;III)Z"⟩ prog_3_method_2_code 4 (Option.some Jvm.ClassFile.FieldType.boolean) ∈ tables_1_4 := List.mem_of_getElem? (i := 220) rfl
theorem cw100 : Cond.code ⟨"AfterTheLast$Crossings", "crossesBehind", "(LAfterTheLast$Town;III)Z"⟩ prog_3_method_3_code 4 (Option.some Jvm.ClassFile.FieldType.boolean) ∈ tables_1_4 := List.mem_of_getElem? (i := 223) rfl
theorem cw101 : Cond.code ⟨"AfterTheLast", "fits", "(III)I"⟩ prog_1_method_18_code 6 (Option.some Jvm.ClassFile.FieldType.int) ∈ tables_1_4 := List.mem_of_getElem? (i := 227) rfl
theorem cw102 : Cond.code ⟨"AfterTheLast$Town", "isSetOfStays", "(I)Z"⟩ prog_12_method_8_code 2 (Option.some Jvm.ClassFile.FieldType.boolean) ∈ tables_1_4 := List.mem_of_getElem? (i := 231) rfl
theorem cw103 : Cond.code ⟨"AfterTheLast$Crossings", "twosThatCross", "(LAfterTheLast$Town;II)I"⟩ prog_3_method_4_code 6 (Option.some Jvm.ClassFile.FieldType.int) ∈ tables_1_4 := List.mem_of_getElem? (i := 234) rfl
theorem cw104 : Cond.code ⟨"AfterTheLast", "most", "(II)I"⟩ prog_1_method_19_code 4 (Option.some Jvm.ClassFile.FieldType.int) ∈ tables_1_4 := List.mem_of_getElem? (i := 239) rfl
theorem cw105 : Cond.code ⟨"AfterTheLast$Crossings", "bestScore", "(LAfterTheLast$Town;I)I"⟩ prog_3_method_8_code 7 (Option.some Jvm.ClassFile.FieldType.int) ∈ tables_1_5 := List.mem_of_getElem? (i := 3) rfl
theorem cw106 : Cond.code ⟨"AfterTheLast$Crossings", "sortStays", "(LAfterTheLast$Town;I)I"⟩ prog_3_method_10_code 6 (Option.some Jvm.ClassFile.FieldType.int) ∈ tables_1_5 := List.mem_of_getElem? (i := 7) rfl
theorem cw107 : Cond.code ⟨"AfterTheLast$Crossings", "standsAhead", "(LAfterTheLast$Town;II)Z"⟩ prog_3_method_11_code 3 (Option.some Jvm.ClassFile.FieldType.boolean) ∈ tables_1_5 := List.mem_of_getElem? (i := 10) rfl
theorem cw108 : Cond.code ⟨"AfterTheLast$Crossings", "bestChain", "(LAfterTheLast$Town;[III)I"⟩ prog_3_method_9_code 6 (Option.some Jvm.ClassFile.FieldType.int) ∈ tables_1_5 := List.mem_of_getElem? (i := 16) rfl
theorem cw109 : Cond.code ⟨"AfterTheLast$Crossings", "score", "(LAfterTheLast$Town;I)I"⟩ prog_3_method_5_code 2 (Option.some Jvm.ClassFile.FieldType.int) ∈ tables_1_5 := List.mem_of_getElem? (i := 20) rfl
theorem cw110 : Cond.code ⟨"AfterTheLast$Crossings", "worthOf", "(I)I"⟩ prog_3_method_6_code 1 (Option.some Jvm.ClassFile.FieldType.int) ∈ tables_1_5 := List.mem_of_getElem? (i := 23) rfl
theorem cw111 : Cond.code ⟨"AfterTheLast$Crossings", "setOf", "(I)I"⟩ prog_3_method_7_code 1 (Option.some Jvm.ClassFile.FieldType.int) ∈ tables_1_5 := List.mem_of_getElem? (i := 27) rfl
theorem cw112 : Cond.code ⟨"AfterTheLast", "houses", "(III)I"⟩ prog_1_method_20_code 6 (Option.some Jvm.ClassFile.FieldType.int) ∈ tables_1_5 := List.mem_of_getElem? (i := 32) rfl
theorem cw113 : Cond.code ⟨"java/lang/Integer", "bitCount", "(I)I"⟩ prog_16_method_49_code 1 (Option.some Jvm.ClassFile.FieldType.int) ∈ tables_1_5 := List.mem_of_getElem? (i := 35) rfl
theorem cw114 : Cond.code ⟨"AfterTheLast$Crossings", "draw", "(LAfterTheLast$Town;II)V"⟩ prog_3_method_12_code 6 (Option.none : Option Jvm.ClassFile.FieldType) ∈ tables_1_5 := List.mem_of_getElem? (i := 42) rfl
theorem cw115 : Cond.code ⟨"AfterTheLast$Crossings", "fewestParts", "()I"⟩ prog_3_method_15_code 2 (Option.some Jvm.ClassFile.FieldType.int) ∈ tables_1_5 := List.mem_of_getElem? (i := 46) rfl
theorem cw116 : Cond.code ⟨"AfterTheLast$Crossings", "mostOfWhichAllCross", "()I"⟩ prog_3_method_13_code 1 (Option.some Jvm.ClassFile.FieldType.int) ∈ tables_1_5 := List.mem_of_getElem? (i := 50) rfl
theorem cw117 : Cond.code ⟨"AfterTheLast$Crossings", "mostFrom", "(LAfterTheLast$Crossings;II)I"⟩ prog_3_method_14_code 5 (Option.some Jvm.ClassFile.FieldType.int) ∈ tables_1_5 := List.mem_of_getElem? (i := 53) rfl
theorem cw118 : Cond.code ⟨"AfterTheLast$Crossings", "canBePutInto", "(LAfterTheLast$Crossings;III)Z"⟩ prog_3_method_16_code 6 (Option.some Jvm.ClassFile.FieldType.boolean) ∈ tables_1_5 := List.mem_of_getElem? (i := 56) rfl
theorem cw119 : Cond.code ⟨"AfterTheLast", "wishes", "(IIIII)I"⟩ prog_1_method_21_code 7 (Option.some Jvm.ClassFile.FieldType.int) ∈ tables_1_5 := List.mem_of_getElem? (i := 61) rfl
theorem cw120 : Cond.code ⟨"AfterTheLast", "isQuarter", "(I)Z"⟩ prog_1_method_36_code 1 (Option.some Jvm.ClassFile.FieldType.boolean) ∈ tables_1_5 := List.mem_of_getElem? (i := 64) rfl
theorem cw121 : Cond.code ⟨"AfterTheLast$Told", "addWish", "(IIIII)V"⟩ prog_11_method_3_code 6 (Option.none : Option Jvm.ClassFile.FieldType) ∈ tables_1_5 := List.mem_of_getElem? (i := 68) rfl
theorem cw122 : Cond.code ⟨"AfterTheLast", "plan", "(I)I"⟩ prog_1_method_22_code 3 (Option.some Jvm.ClassFile.FieldType.int) ∈ tables_1_5 := List.mem_of_getElem? (i := 72) rfl
theorem cw123 : Cond.code ⟨"AfterTheLast$Planner", "look", "(LAfterTheLast$Told;)V"⟩ prog_5_method_2_code 4 (Option.none : Option Jvm.ClassFile.FieldType) ∈ tables_1_5 := List.mem_of_getElem? (i := 76) rfl
theorem cw124 : Cond.code ⟨"AfterTheLast$Planner", "compare", "(LAfterTheLast$Told;II)V"⟩ prog_5_method_3_code 8 (Option.none : Option Jvm.ClassFile.FieldType) ∈ tables_1_5 := List.mem_of_getElem? (i := 82) rfl
theorem cw125 : Cond.code ⟨"AfterTheLast$Planner", "goTogether", "(LAfterTheLast$Told;IIII)Z"⟩ prog_5_method_5_code 12 (Option.some Jvm.ClassFile.FieldType.boolean) ∈ tables_1_5 := List.mem_of_getElem? (i := 85) rfl
theorem cw126 : Cond.code ⟨"AfterTheLast$Planner", "place", "(III)I"⟩ prog_5_method_4_code 3 (Option.some Jvm.ClassFile.FieldType.int) ∈ tables_1_5 := List.mem_of_getElem? (i := 88) rfl
theorem cw127 : Cond.code ⟨"AfterTheLast$Planner", "howMany", "()I"⟩ prog_5_method_11_code 1 (Option.some Jvm.ClassFile.FieldType.int) ∈ tables_1_5 := List.mem_of_getElem? (i := 92) rfl
theorem cw128 : Cond.code ⟨"AfterTheLast$Planner", "countFrom", "(LAfterTheLast$Planner;I)I"⟩ prog_5_method_12_code 4 (Option.some Jvm.ClassFile.FieldType.int) ∈ tables_1_5 := List.mem_of_getElem? (i := 96) rfl
theorem cw129 : Cond.code ⟨"AfterTheLast$Planner", "countLastTwo", "(I)I"⟩ prog_5_method_13_code 6 (Option.some Jvm.ClassFile.FieldType.int) ∈ tables_1_5 := List.mem_of_getElem? (i := 102) rfl
theorem cw130 : Cond.code ⟨"AfterTheLast$Planner", "isOpen", "(II)Z"⟩ prog_5_method_9_code 3 (Option.some Jvm.ClassFile.FieldType.boolean) ∈ tables_1_5 := List.mem_of_getElem? (i := 106) rfl
theorem cw131 : Cond.code ⟨"AfterTheLast$Planner", "choose", "(II)Z"⟩ prog_5_method_10_code 5 (Option.some Jvm.ClassFile.FieldType.boolean) ∈ tables_1_5 := List.mem_of_getElem? (i := 110) rfl
theorem cw132 : Cond.code ⟨"AfterTheLast$Planner", "findFirst", "()Z"⟩ prog_5_method_7_code 1 (Option.some Jvm.ClassFile.FieldType.boolean) ∈ tables_1_5 := List.mem_of_getElem? (i := 114) rfl
theorem cw133 : Cond.code ⟨"AfterTheLast$Planner", "findFrom", "(LAfterTheLast$Planner;I)Z"⟩ prog_5_method_8_code 3 (Option.some Jvm.ClassFile.FieldType.boolean) ∈ tables_1_5 := List.mem_of_getElem? (i := 117) rfl
theorem cw134 : Cond.code ⟨"AfterTheLast$Planner", "beginOf", "(I)I"⟩ prog_5_method_6_code 2 (Option.some Jvm.ClassFile.FieldType.int) ∈ tables_1_5 := List.mem_of_getElem? (i := 121) rfl
theorem cw135 : Cond.code ⟨"AfterTheLast", "waits", "(II)I"⟩ prog_1_method_23_code 4 (Option.some Jvm.ClassFile.FieldType.int) ∈ tables_1_5 := List.mem_of_getElem? (i := 125) rfl
theorem cw136 : Cond.code ⟨"AfterTheLast", "rings", "(I)I"⟩ prog_1_method_24_code 2 (Option.some Jvm.ClassFile.FieldType.int) ∈ tables_1_5 := List.mem_of_getElem? (i := 129) rfl
theorem cw137 : Cond.code ⟨"AfterTheLast$Rings", "look", "(LAfterTheLast$Town;)V"⟩ prog_7_method_2_code 5 (Option.none : Option Jvm.ClassFile.FieldType) ∈ tables_1_5 := List.mem_of_getElem? (i := 133) rfl
theorem cw138 : Cond.code ⟨"AfterTheLast$Rings", "aheadOf", "(LAfterTheLast$Town;II)I"⟩ prog_7_method_3_code 9 (Option.some Jvm.ClassFile.FieldType.int) ∈ tables_1_5 := List.mem_of_getElem? (i := 137) rfl
theorem cw139 : Cond.code ⟨"AfterTheLast$Rings", "shortest", "()I"⟩ prog_7_method_4_code 4 (Option.some Jvm.ClassFile.FieldType.int) ∈ tables_1_5 := List.mem_of_getElem? (i := 143) rfl
theorem cw140 : Cond.code ⟨"AfterTheLast$Rings", "ringThrough", "(I)I"⟩ prog_7_method_5_code 6 (Option.some Jvm.ClassFile.FieldType.int) ∈ tables_1_5 := List.mem_of_getElem? (i := 147) rfl
theorem cw141 : Cond.code ⟨"AfterTheLast$Rings", "stuck", "()I"⟩ prog_7_method_6_code 1 (Option.some Jvm.ClassFile.FieldType.int) ∈ tables_1_5 := List.mem_of_getElem? (i := 151) rfl
theorem cw142 : Cond.code ⟨"AfterTheLast$Rings", "stuckAmong", "(I)I"⟩ prog_7_method_7_code 6 (Option.some Jvm.ClassFile.FieldType.int) ∈ tables_1_5 := List.mem_of_getElem? (i := 155) rfl
theorem cw143 : Cond.code ⟨"AfterTheLast$Rings", "undone", "()I"⟩ prog_7_method_8_code 5 (Option.some Jvm.ClassFile.FieldType.int) ∈ tables_1_5 := List.mem_of_getElem? (i := 159) rfl
theorem cw144 : Cond.code ⟨"AfterTheLast", "worth", "(II)I"⟩ prog_1_method_25_code 4 (Option.some Jvm.ClassFile.FieldType.int) ∈ tables_1_5 := List.mem_of_getElem? (i := 165) rfl
theorem cw145 : Cond.code ⟨"AfterTheLast", "asks", "(I)I"⟩ prog_1_method_26_code 6 (Option.some Jvm.ClassFile.FieldType.int) ∈ tables_1_5 := List.mem_of_getElem? (i := 169) rfl
theorem cw146 : Cond.code ⟨"AfterTheLast", "went", "(I)I"⟩ prog_1_method_27_code 3 (Option.some Jvm.ClassFile.FieldType.int) ∈ tables_1_5 := List.mem_of_getElem? (i := 173) rfl
theorem cw147 : Cond.code ⟨"AfterTheLast$Told", "placeInRow", "(I)I"⟩ prog_11_method_4_code 3 (Option.some Jvm.ClassFile.FieldType.int) ∈ tables_1_5 := List.mem_of_getElem? (i := 177) rfl
theorem cw148 : Cond.code ⟨"AfterTheLast", "before", "(II)I"⟩ prog_1_method_28_code 4 (Option.some Jvm.ClassFile.FieldType.int) ∈ tables_1_5 := List.mem_of_getElem? (i := 181) rfl
theorem cw149 : Cond.code ⟨"AfterTheLast", "orders", "(I)I"⟩ prog_1_method_29_code 3 (Option.some Jvm.ClassFile.FieldType.int) ∈ tables_1_5 := List.mem_of_getElem? (i := 185) rfl
theorem cw150 : Cond.code ⟨"AfterTheLast$Guesses", "countOrders", "(LAfterTheLast$Told;)V"⟩ prog_4_method_2_code 5 (Option.none : Option Jvm.ClassFile.FieldType) ∈ tables_1_5 := List.mem_of_getElem? (i := 189) rfl
theorem cw151 : Cond.code ⟨"AfterTheLast$Guesses", "mayComeNext", "(II)Z"⟩ prog_4_method_4_code 6 (Option.some Jvm.ClassFile.FieldType.boolean) ∈ tables_1_5 := List.mem_of_getElem? (i := 195) rfl
theorem cw152 : Cond.code ⟨"AfterTheLast$Guesses", "howManyOrders", "()I"⟩ prog_4_method_3_code 1 (Option.some Jvm.ClassFile.FieldType.int) ∈ tables_1_5 := List.mem_of_getElem? (i := 199) rfl
theorem cw153 : Cond.code ⟨"AfterTheLast$Guesses", "inFirstOrder", "(LAfterTheLast$Told;I)I"⟩ prog_4_method_5_code 7 (Option.some Jvm.ClassFile.FieldType.int) ∈ tables_1_5 := List.mem_of_getElem? (i := 203) rfl
theorem cw154 : Cond.code ⟨"AfterTheLast$Guesses", "firstToCome", "(LAfterTheLast$Told;I)I"⟩ prog_4_method_6_code 5 (Option.some Jvm.ClassFile.FieldType.int) ∈ tables_1_5 := List.mem_of_getElem? (i := 207) rfl
theorem cw155 : Cond.code ⟨"AfterTheLast", "guest", "(II)I"⟩ prog_1_method_30_code 4 (Option.some Jvm.ClassFile.FieldType.int) ∈ tables_1_5 := List.mem_of_getElem? (i := 211) rfl
theorem cw156 : Cond.code ⟨"AfterTheLast", "kept", "(III)I"⟩ prog_1_method_31_code 6 (Option.some Jvm.ClassFile.FieldType.int) ∈ tables_1_5 := List.mem_of_getElem? (i := 215) rfl
theorem cw157 : Cond.code ⟨"AfterTheLast$Guesses", "fewestGuests", "(LAfterTheLast$Told;II)I"⟩ prog_4_method_7_code 8 (Option.some Jvm.ClassFile.FieldType.int) ∈ tables_1_5 := List.mem_of_getElem? (i := 218) rfl
theorem cw158 : Cond.code ⟨"AfterTheLast$Guesses", "leastSetOfGuests", "(LAfterTheLast$Told;III)I"⟩ prog_4_method_8_code 5 (Option.some Jvm.ClassFile.FieldType.int) ∈ tables_1_5 := List.mem_of_getElem? (i := 222) rfl
theorem cw159 : Cond.code ⟨"AfterTheLast$Guesses", "thereTill", "(LAfterTheLast$Told;II)I"⟩ prog_4_method_9_code 7 (Option.some Jvm.ClassFile.FieldType.int) ∈ tables_1_5 := List.mem_of_getElem? (i := 226) rfl
theorem cw160 : Cond.code ⟨"AfterTheLast", "knocks", "(IIIIII)I"⟩ prog_1_method_32_code 7 (Option.some Jvm.ClassFile.FieldType.int) ∈ tables_1_5 := List.mem_of_getElem? (i := 230) rfl
theorem cw161 : Cond.code ⟨"AfterTheLast$Guesses", "valueKnocks", "(IIII)V"⟩ prog_4_method_10_code 8 (Option.none : Option Jvm.ClassFile.FieldType) ∈ tables_1_5 := List.mem_of_getElem? (i := 234) rfl
theorem cw162 : Cond.code ⟨"AfterTheLast$Guesses", "lettingIn", "(IIII)I"⟩ prog_4_method_11_code 5 (Option.some Jvm.ClassFile.FieldType.int) ∈ tables_1_5 := List.mem_of_getElem? (i := 239) rfl
theorem cw163 : Cond.code ⟨"AfterTheLast$Guesses", "valueAt", "(I)I"⟩ prog_4_method_12_code 2 (Option.some Jvm.ClassFile.FieldType.int) ∈ tables_1_6 := List.mem_of_getElem? (i := 3) rfl
theorem cw164 : Cond.code ⟨"AfterTheLast", "image", "(I)I"⟩ prog_1_method_33_code 3 (Option.some Jvm.ClassFile.FieldType.int) ∈ tables_1_6 := List.mem_of_getElem? (i := 9) rfl
theorem cw165 : Cond.code ⟨"AfterTheLast$Scene", "copyFrom", "(LAfterTheLast$Scene;)V"⟩ prog_10_method_2_code 2 (Option.none : Option Jvm.ClassFile.FieldType) ∈ tables_1_6 := List.mem_of_getElem? (i := 13) rfl
theorem cw166 : Cond.code ⟨"AfterTheLast$Told", "copyFrom", "(LAfterTheLast$Told;)V"⟩ prog_11_method_2_code 2 (Option.none : Option Jvm.ClassFile.FieldType) ∈ tables_1_6 := List.mem_of_getElem? (i := 18) rfl
theorem cw167 : Cond.code ⟨"AfterTheLast", "back", "(I)I"⟩ prog_1_method_34_code 3 (Option.some Jvm.ClassFile.FieldType.int) ∈ tables_1_6 := List.mem_of_getElem? (i := 23) rfl
theorem cw168 : Cond.code ⟨"AfterTheLastModel", "<init>", "()V"⟩ prog_14_method_1_code 2 (Option.none : Option Jvm.ClassFile.FieldType) ∈ tables_1_6 := List.mem_of_getElem? (i := 28) rfl
theorem cw169 : Cond.code ⟨"AfterTheLastModel", "feed", "(IIIII)I"⟩ prog_14_method_6_code 6 (Option.some Jvm.ClassFile.FieldType.int) ∈ tables_1_6 := List.mem_of_getElem? (i := 148) rfl
theorem cw170 : Cond.code ⟨"AfterTheLastModel", "four", "(I)V"⟩ prog_14_method_5_code 3 (Option.none : Option Jvm.ClassFile.FieldType) ∈ tables_1_6 := List.mem_of_getElem? (i := 152) rfl
theorem cw171 : Cond.code ⟨"AfterTheLastModel", "end", "(I)I"⟩ prog_14_method_7_code 2 (Option.some Jvm.ClassFile.FieldType.int) ∈ tables_1_6 := List.mem_of_getElem? (i := 156) rfl
theorem cw172 : Cond.code ⟨"AfterTheLastModel", "rule", "()I"⟩ prog_14_method_35_code 1 (Option.some Jvm.ClassFile.FieldType.int) ∈ tables_1_6 := List.mem_of_getElem? (i := 160) rfl
theorem cw173 : Cond.code ⟨"AfterTheLastModel", "readsAll", "()Z"⟩ prog_14_method_34_code 2 (Option.some Jvm.ClassFile.FieldType.boolean) ∈ tables_1_6 := List.mem_of_getElem? (i := 164) rfl
theorem cw174 : Cond.code ⟨"AfterTheLastModel", "clauseHere", "()Z"⟩ prog_14_method_33_code 4 (Option.some Jvm.ClassFile.FieldType.boolean) ∈ tables_1_6 := List.mem_of_getElem? (i := 168) rfl
theorem cw175 : Cond.code ⟨"AfterTheLastModel", "see", "()I"⟩ prog_14_method_9_code 1 (Option.some Jvm.ClassFile.FieldType.int) ∈ tables_1_6 := List.mem_of_getElem? (i := 172) rfl
theorem cw176 : Cond.code ⟨"AfterTheLastModel", "isWord", "(J)Z"⟩ prog_14_method_12_code 6 (Option.some Jvm.ClassFile.FieldType.boolean) ∈ tables_1_6 := List.mem_of_getElem? (i := 177) rfl
theorem cw177 : Cond.code ⟨"AfterTheLastModel", "isLetter", "(I)Z"⟩ prog_14_method_11_code 2 (Option.some Jvm.ClassFile.FieldType.boolean) ∈ tables_1_6 := List.mem_of_getElem? (i := 181) rfl
theorem cw178 : Cond.code ⟨"AfterTheLastModel", "fails", "(II)Z"⟩ prog_14_method_8_code 3 (Option.some Jvm.ClassFile.FieldType.boolean) ∈ tables_1_6 := List.mem_of_getElem? (i := 189) rfl
theorem cw179 : Cond.code ⟨"AfterTheLastModel", "isHouseHere", "(I)Z"⟩ prog_14_method_31_code 3 (Option.some Jvm.ClassFile.FieldType.boolean) ∈ tables_1_6 := List.mem_of_getElem? (i := 193) rfl
theorem cw180 : Cond.code ⟨"AfterTheLastModel", "passWord", "()V"⟩ prog_14_method_13_code 1 (Option.none : Option Jvm.ClassFile.FieldType) ∈ tables_1_6 := List.mem_of_getElem? (i := 197) rfl
theorem cw181 : Cond.code ⟨"AfterTheLastModel", "numberHere", "(II)Z"⟩ prog_14_method_15_code 5 (Option.some Jvm.ClassFile.FieldType.boolean) ∈ tables_1_6 := List.mem_of_getElem? (i := 204) rfl
theorem cw182 : Cond.code ⟨"AfterTheLastModel", "isDigit", "(I)Z"⟩ prog_14_method_10_code 2 (Option.some Jvm.ClassFile.FieldType.boolean) ∈ tables_1_6 := List.mem_of_getElem? (i := 208) rfl
theorem cw183 : Cond.code ⟨"AfterTheLastModel", "in", "(JJJ)Z"⟩ prog_14_method_2_code 6 (Option.some Jvm.ClassFile.FieldType.boolean) ∈ tables_1_6 := List.mem_of_getElem? (i := 211) rfl
theorem cw184 : Cond.code ⟨"AfterTheLastModel", "isStayHere", "(I)Z"⟩ prog_14_method_32_code 3 (Option.some Jvm.ClassFile.FieldType.boolean) ∈ tables_1_6 := List.mem_of_getElem? (i := 215) rfl
theorem cw185 : Cond.code ⟨"AfterTheLastModel", "clauseOf", "(I)Z"⟩ prog_14_method_30_code 3 (Option.some Jvm.ClassFile.FieldType.boolean) ∈ tables_1_6 := List.mem_of_getElem? (i := 219) rfl
theorem cw186 : Cond.code ⟨"AfterTheLastModel", "tested", "()Z"⟩ prog_14_method_29_code 3 (Option.some Jvm.ClassFile.FieldType.boolean) ∈ tables_1_6 := List.mem_of_getElem? (i := 223) rfl
theorem cw187 : Cond.code ⟨"AfterTheLastModel", "fact", "()Z"⟩ prog_14_method_26_code 3 (Option.some Jvm.ClassFile.FieldType.boolean) ∈ tables_1_6 := List.mem_of_getElem? (i := 227) rfl
theorem cw188 : Cond.code ⟨"AfterTheLastModel", "opens", "(I)Z"⟩ prog_14_method_19_code 2 (Option.some Jvm.ClassFile.FieldType.boolean) ∈ tables_1_6 := List.mem_of_getElem? (i := 232) rfl
theorem cw189 : Cond.code ⟨"AfterTheLastModel", "compare", "()Z"⟩ prog_14_method_25_code 5 (Option.some Jvm.ClassFile.FieldType.boolean) ∈ tables_1_6 := List.mem_of_getElem? (i := 236) rfl
theorem cw190 : Cond.code ⟨"AfterTheLastModel", "sum", "()Z"⟩ prog_14_method_24_code 2 (Option.some Jvm.ClassFile.FieldType.boolean) ∈ tables_1_7 := List.mem_of_getElem? (i := 0) rfl
theorem cw191 : Cond.code ⟨"AfterTheLastModel", "term", "()Z"⟩ prog_14_method_23_code 2 (Option.some Jvm.ClassFile.FieldType.boolean) ∈ tables_1_7 := List.mem_of_getElem? (i := 4) rfl
theorem cw192 : Cond.code ⟨"AfterTheLastModel", "value", "()Z"⟩ prog_14_method_22_code 3 (Option.some Jvm.ClassFile.FieldType.boolean) ∈ tables_1_7 := List.mem_of_getElem? (i := 8) rfl
theorem cw193 : Cond.code ⟨"AfterTheLastModel", "makes", "(I)Z"⟩ prog_14_method_18_code 2 (Option.some Jvm.ClassFile.FieldType.boolean) ∈ tables_1_7 := List.mem_of_getElem? (i := 13) rfl
theorem cw194 : Cond.code ⟨"AfterTheLastModel", "puts", "(II)V"⟩ prog_14_method_17_code 3 (Option.none : Option Jvm.ClassFile.FieldType) ∈ tables_1_7 := List.mem_of_getElem? (i := 17) rfl
theorem cw195 : Cond.code ⟨"AfterTheLastModel", "wordHere", "()I"⟩ prog_14_method_16_code 1 (Option.some Jvm.ClassFile.FieldType.int) ∈ tables_1_7 := List.mem_of_getElem? (i := 21) rfl
theorem cw196 : Cond.code ⟨"AfterTheLastModel", "closes", "()V"⟩ prog_14_method_28_code 1 (Option.none : Option Jvm.ClassFile.FieldType) ∈ tables_1_7 := List.mem_of_getElem? (i := 34) rfl
theorem cw197 : Cond.code ⟨"AfterTheLastModel", "settles", "(I)V"⟩ prog_14_method_21_code 2 (Option.none : Option Jvm.ClassFile.FieldType) ∈ tables_1_7 := List.mem_of_getElem? (i := 38) rfl
theorem cw198 : Cond.code ⟨"AfterTheLastModel", "strength", "(I)I"⟩ prog_14_method_20_code 1 (Option.some Jvm.ClassFile.FieldType.int) ∈ tables_1_7 := List.mem_of_getElem? (i := 41) rfl
theorem cw199 : Cond.code ⟨"AfterTheLastModel", "isInside", "()Z"⟩ prog_14_method_27_code 2 (Option.some Jvm.ClassFile.FieldType.boolean) ∈ tables_1_7 := List.mem_of_getElem? (i := 45) rfl
theorem cw200 : Cond.code ⟨"AfterTheLastModel", "street", "()I"⟩ prog_14_method_36_code 3 (Option.some Jvm.ClassFile.FieldType.int) ∈ tables_1_7 := List.mem_of_getElem? (i := 51) rfl
theorem cw201 : Cond.code ⟨"AfterTheLastModel", "leaves", "(I)V"⟩ prog_14_method_49_code 2 (Option.none : Option Jvm.ClassFile.FieldType) ∈ tables_1_7 := List.mem_of_getElem? (i := 55) rfl
theorem cw202 : Cond.code ⟨"AfterTheLastModel", "house", "(II)I"⟩ prog_14_method_54_code 5 (Option.some Jvm.ClassFile.FieldType.int) ∈ tables_1_7 := List.mem_of_getElem? (i := 59) rfl
theorem cw203 : Cond.code ⟨"AfterTheLastModel", "isHouse", "(I)Z"⟩ prog_14_method_43_code 2 (Option.some Jvm.ClassFile.FieldType.boolean) ∈ tables_1_7 := List.mem_of_getElem? (i := 63) rfl
theorem cw204 : Cond.code ⟨"AfterTheLastModel", "houseOf", "(II)I"⟩ prog_14_method_46_code 3 (Option.some Jvm.ClassFile.FieldType.int) ∈ tables_1_7 := List.mem_of_getElem? (i := 68) rfl
theorem cw205 : Cond.code ⟨"AfterTheLastModel", "inside", "(I)I"⟩ prog_14_method_50_code 4 (Option.some Jvm.ClassFile.FieldType.int) ∈ tables_1_7 := List.mem_of_getElem? (i := 72) rfl
theorem cw206 : Cond.code ⟨"AfterTheLastModel", "personOf", "(II)I"⟩ prog_14_method_48_code 3 (Option.some Jvm.ClassFile.FieldType.int) ∈ tables_1_7 := List.mem_of_getElem? (i := 76) rfl
theorem cw207 : Cond.code ⟨"AfterTheLastModel", "stay", "(II)I"⟩ prog_14_method_55_code 3 (Option.some Jvm.ClassFile.FieldType.int) ∈ tables_1_7 := List.mem_of_getElem? (i := 80) rfl
theorem cw208 : Cond.code ⟨"AfterTheLastModel", "isStay", "(I)Z"⟩ prog_14_method_44_code 2 (Option.some Jvm.ClassFile.FieldType.boolean) ∈ tables_1_7 := List.mem_of_getElem? (i := 84) rfl
theorem cw209 : Cond.code ⟨"AfterTheLastModel", "stayOf", "(II)I"⟩ prog_14_method_47_code 3 (Option.some Jvm.ClassFile.FieldType.int) ∈ tables_1_7 := List.mem_of_getElem? (i := 88) rfl
theorem cw210 : Cond.code ⟨"AfterTheLastModel", "person", "(II)I"⟩ prog_14_method_56_code 3 (Option.some Jvm.ClassFile.FieldType.int) ∈ tables_1_7 := List.mem_of_getElem? (i := 92) rfl
theorem cw211 : Cond.code ⟨"AfterTheLastModel", "isPerson", "(I)Z"⟩ prog_14_method_45_code 1 (Option.some Jvm.ClassFile.FieldType.boolean) ∈ tables_1_7 := List.mem_of_getElem? (i := 95) rfl
theorem cw212 : Cond.code ⟨"AfterTheLastModel", "mayGo", "(I)Z"⟩ prog_14_method_52_code 4 (Option.some Jvm.ClassFile.FieldType.boolean) ∈ tables_1_7 := List.mem_of_getElem? (i := 99) rfl
theorem cw213 : Cond.code ⟨"AfterTheLastModel", "others", "(IZ)I"⟩ prog_14_method_51_code 5 (Option.some Jvm.ClassFile.FieldType.int) ∈ tables_1_7 := List.mem_of_getElem? (i := 103) rfl
theorem cw214 : Cond.code ⟨"AfterTheLastModel", "come", "(II)Z"⟩ prog_14_method_57_code 3 (Option.some Jvm.ClassFile.FieldType.boolean) ∈ tables_1_7 := List.mem_of_getElem? (i := 107) rfl
theorem cw215 : Cond.code ⟨"AfterTheLastModel", "enters", "(III)V"⟩ prog_14_method_53_code 5 (Option.none : Option Jvm.ClassFile.FieldType) ∈ tables_1_7 := List.mem_of_getElem? (i := 111) rfl
theorem cw216 : Cond.code ⟨"AfterTheLastModel", "go", "(IZ)Z"⟩ prog_14_method_58_code 4 (Option.some Jvm.ClassFile.FieldType.boolean) ∈ tables_1_7 := List.mem_of_getElem? (i := 115) rfl
theorem cw217 : Cond.code ⟨"AfterTheLastModel", "tick", "(II)I"⟩ prog_14_method_66_code 3 (Option.some Jvm.ClassFile.FieldType.int) ∈ tables_1_7 := List.mem_of_getElem? (i := 119) rfl
theorem cw218 : Cond.code ⟨"AfterTheLastModel", "isRule", "(I)Z"⟩ prog_14_method_37_code 2 (Option.some Jvm.ClassFile.FieldType.boolean) ∈ tables_1_7 := List.mem_of_getElem? (i := 123) rfl
theorem cw219 : Cond.code ⟨"AfterTheLastModel", "quarters", "(II)V"⟩ prog_14_method_65_code 4 (Option.none : Option Jvm.ClassFile.FieldType) ∈ tables_1_7 := List.mem_of_getElem? (i := 128) rfl
theorem cw220 : Cond.code ⟨"AfterTheLastModel", "quarter", "(I)V"⟩ prog_14_method_64_code 4 (Option.none : Option Jvm.ClassFile.FieldType) ∈ tables_1_7 := List.mem_of_getElem? (i := 132) rfl
theorem cw221 : Cond.code ⟨"AfterTheLastModel", "isDue", "(I)Z"⟩ prog_14_method_60_code 2 (Option.some Jvm.ClassFile.FieldType.boolean) ∈ tables_1_7 := List.mem_of_getElem? (i := 136) rfl
theorem cw222 : Cond.code ⟨"AfterTheLastModel", "isHeldBack", "(II)Z"⟩ prog_14_method_61_code 3 (Option.some Jvm.ClassFile.FieldType.boolean) ∈ tables_1_7 := List.mem_of_getElem? (i := 140) rfl
theorem cw223 : Cond.code ⟨"AfterTheLastModel", "words", "(II)V"⟩ prog_14_method_59_code 5 (Option.none : Option Jvm.ClassFile.FieldType) ∈ tables_1_7 := List.mem_of_getElem? (i := 144) rfl
theorem cw224 : Cond.code ⟨"AfterTheLastModel", "isHeld", "(IIZ)Z"⟩ prog_14_method_42_code 7 (Option.some Jvm.ClassFile.FieldType.boolean) ∈ tables_1_7 := List.mem_of_getElem? (i := 148) rfl
theorem cw225 : Cond.code ⟨"AfterTheLastModel", "reckons", "(III)J"⟩ prog_14_method_41_code 11 (Option.some Jvm.ClassFile.FieldType.long) ∈ tables_1_7 := List.mem_of_getElem? (i := 152) rfl
theorem cw226 : Cond.code ⟨"AfterTheLastModel", "push", "(J)V"⟩ prog_14_method_38_code 3 (Option.none : Option Jvm.ClassFile.FieldType) ∈ tables_1_7 := List.mem_of_getElem? (i := 156) rfl
theorem cw227 : Cond.code ⟨"AfterTheLastModel", "pop", "()J"⟩ prog_14_method_39_code 1 (Option.some Jvm.ClassFile.FieldType.long) ∈ tables_1_7 := List.mem_of_getElem? (i := 160) rfl
theorem cw228 : Cond.code ⟨"AfterTheLastModel", "one", "(IJJ)J"⟩ prog_14_method_40_code 5 (Option.some Jvm.ClassFile.FieldType.long) ∈ tables_1_7 := List.mem_of_getElem? (i := 163) rfl
theorem cw229 : Cond.code ⟨"AfterTheLastModel", "comesFor", "(II)V"⟩ prog_14_method_63_code 4 (Option.none : Option Jvm.ClassFile.FieldType) ∈ tables_1_7 := List.mem_of_getElem? (i := 167) rfl
theorem cw230 : Cond.code ⟨"AfterTheLastModel", "nextStay", "(I)I"⟩ prog_14_method_62_code 3 (Option.some Jvm.ClassFile.FieldType.int) ∈ tables_1_7 := List.mem_of_getElem? (i := 171) rfl
theorem cw231 : Cond.code ⟨"AfterTheLastModel", "ahead", "(III)I"⟩ prog_14_method_71_code 6 (Option.some Jvm.ClassFile.FieldType.int) ∈ tables_1_7 := List.mem_of_getElem? (i := 175) rfl
theorem cw232 : Cond.code ⟨"AfterTheLastModel", "keeps", "()V"⟩ prog_14_method_67_code 2 (Option.none : Option Jvm.ClassFile.FieldType) ∈ tables_1_7 := List.mem_of_getElem? (i := 180) rfl
theorem cw233 : Cond.code ⟨"AfterTheLastModel", "allInside", "()I"⟩ prog_14_method_70_code 3 (Option.some Jvm.ClassFile.FieldType.int) ∈ tables_1_7 := List.mem_of_getElem? (i := 184) rfl
theorem cw234 : Cond.code ⟨"AfterTheLastModel", "served", "()I"⟩ prog_14_method_69_code 3 (Option.some Jvm.ClassFile.FieldType.int) ∈ tables_1_7 := List.mem_of_getElem? (i := 188) rfl
theorem cw235 : Cond.code ⟨"AfterTheLastModel", "putsBack", "()V"⟩ prog_14_method_68_code 2 (Option.none : Option Jvm.ClassFile.FieldType) ∈ tables_1_7 := List.mem_of_getElem? (i := 192) rfl
theorem cw236 : Cond.code ⟨"AfterTheLastModel", "bestRule", "()I"⟩ prog_14_method_72_code 7 (Option.some Jvm.ClassFile.FieldType.int) ∈ tables_1_7 := List.mem_of_getElem? (i := 196) rfl
theorem cw237 : Cond.code ⟨"AfterTheLastModel", "cross", "(III)I"⟩ prog_14_method_75_code 4 (Option.some Jvm.ClassFile.FieldType.int) ∈ tables_1_7 := List.mem_of_getElem? (i := 200) rfl
theorem cw238 : Cond.code ⟨"AfterTheLastModel", "doCross", "(III)Z"⟩ prog_14_method_74_code 4 (Option.some Jvm.ClassFile.FieldType.boolean) ∈ tables_1_7 := List.mem_of_getElem? (i := 205) rfl
theorem cw239 : Cond.code ⟨"AfterTheLastModel", "areCrossed", "(IIIII)Z"⟩ prog_14_method_73_code 9 (Option.some Jvm.ClassFile.FieldType.boolean) ∈ tables_1_7 := List.mem_of_getElem? (i := 208) rfl
theorem cw240 : Cond.code ⟨"AfterTheLastModel", "fits", "(III)I"⟩ prog_14_method_79_code 6 (Option.some Jvm.ClassFile.FieldType.int) ∈ tables_1_7 := List.mem_of_getElem? (i := 212) rfl
theorem cw241 : Cond.code ⟨"AfterTheLastModel", "isSet", "(I)Z"⟩ prog_14_method_77_code 2 (Option.some Jvm.ClassFile.FieldType.boolean) ∈ tables_1_7 := List.mem_of_getElem? (i := 216) rfl
theorem cw242 : Cond.code ⟨"AfterTheLastModel", "crosses", "(I)V"⟩ prog_14_method_76_code 4 (Option.none : Option Jvm.ClassFile.FieldType) ∈ tables_1_7 := List.mem_of_getElem? (i := 220) rfl
theorem cw243 : Cond.code ⟨"AfterTheLastModel", "hasNone", "(I)Z"⟩ prog_14_method_78_code 3 (Option.some Jvm.ClassFile.FieldType.boolean) ∈ tables_1_7 := List.mem_of_getElem? (i := 224) rfl
theorem cw244 : Cond.code ⟨"AfterTheLastModel", "has", "(II)Z"⟩ prog_14_method_3_code 2 (Option.some Jvm.ClassFile.FieldType.boolean) ∈ tables_1_7 := List.mem_of_getElem? (i := 227) rfl
theorem cw245 : Cond.code ⟨"AfterTheLastModel", "bits", "(I)I"⟩ prog_14_method_4_code 3 (Option.some Jvm.ClassFile.FieldType.int) ∈ tables_1_7 := List.mem_of_getElem? (i := 230) rfl
theorem cw246 : Cond.code ⟨"AfterTheLastModel", "most", "(II)I"⟩ prog_14_method_80_code 10 (Option.some Jvm.ClassFile.FieldType.int) ∈ tables_1_7 := List.mem_of_getElem? (i := 234) rfl
theorem cw247 : Cond.code ⟨"AfterTheLastModel", "houses", "(III)I"⟩ prog_14_method_83_code 12 (Option.some Jvm.ClassFile.FieldType.int) ∈ tables_1_7 := List.mem_of_getElem? (i := 238) rfl
theorem cw248 : Cond.code ⟨"AfterTheLastModel", "staysOf", "(II)I"⟩ prog_14_method_81_code 5 (Option.some Jvm.ClassFile.FieldType.int) ∈ tables_1_8 := List.mem_of_getElem? (i := 3) rfl
theorem cw249 : Cond.code ⟨"AfterTheLastModel", "areAllCrossed", "(I)Z"⟩ prog_14_method_82_code 3 (Option.some Jvm.ClassFile.FieldType.boolean) ∈ tables_1_8 := List.mem_of_getElem? (i := 7) rfl
theorem cw250 : Cond.code ⟨"AfterTheLastModel", "wishes", "(IIIII)I"⟩ prog_14_method_84_code 7 (Option.some Jvm.ClassFile.FieldType.int) ∈ tables_1_8 := List.mem_of_getElem? (i := 11) rfl
theorem cw251 : Cond.code ⟨"AfterTheLastModel", "plan", "(I)I"⟩ prog_14_method_88_code 3 (Option.some Jvm.ClassFile.FieldType.int) ∈ tables_1_8 := List.mem_of_getElem? (i := 16) rfl
theorem cw252 : Cond.code ⟨"AfterTheLastModel", "plans", "()I"⟩ prog_14_method_87_code 5 (Option.some Jvm.ClassFile.FieldType.int) ∈ tables_1_8 := List.mem_of_getElem? (i := 21) rfl
theorem cw253 : Cond.code ⟨"AfterTheLastModel", "endOf", "(I)I"⟩ prog_14_method_85_code 2 (Option.some Jvm.ClassFile.FieldType.int) ∈ tables_1_8 := List.mem_of_getElem? (i := 26) rfl
theorem cw254 : Cond.code ⟨"AfterTheLastModel", "goTogether", "(I)Z"⟩ prog_14_method_86_code 3 (Option.some Jvm.ClassFile.FieldType.boolean) ∈ tables_1_8 := List.mem_of_getElem? (i := 30) rfl
theorem cw255 : Cond.code ⟨"AfterTheLastModel", "waits", "(II)I"⟩ prog_14_method_89_code 4 (Option.some Jvm.ClassFile.FieldType.int) ∈ tables_1_8 := List.mem_of_getElem? (i := 34) rfl
theorem cw256 : Cond.code ⟨"AfterTheLastModel", "rings", "(I)I"⟩ prog_14_method_94_code 6 (Option.some Jvm.ClassFile.FieldType.int) ∈ tables_1_8 := List.mem_of_getElem? (i := 38) rfl
theorem cw257 : Cond.code ⟨"AfterTheLastModel", "undone", "()I"⟩ prog_14_method_93_code 4 (Option.some Jvm.ClassFile.FieldType.int) ∈ tables_1_8 := List.mem_of_getElem? (i := 42) rfl
theorem cw258 : Cond.code ⟨"AfterTheLastModel", "needs", "(I)V"⟩ prog_14_method_90_code 7 (Option.none : Option Jvm.ClassFile.FieldType) ∈ tables_1_8 := List.mem_of_getElem? (i := 46) rfl
theorem cw259 : Cond.code ⟨"AfterTheLastModel", "inRings", "()I"⟩ prog_14_method_92_code 3 (Option.some Jvm.ClassFile.FieldType.int) ∈ tables_1_8 := List.mem_of_getElem? (i := 50) rfl
theorem cw260 : Cond.code ⟨"AfterTheLastModel", "roundOf", "(I)I"⟩ prog_14_method_91_code 7 (Option.some Jvm.ClassFile.FieldType.int) ∈ tables_1_8 := List.mem_of_getElem? (i := 54) rfl
theorem cw261 : Cond.code ⟨"AfterTheLastModel", "worth", "(II)I"⟩ prog_14_method_95_code 4 (Option.some Jvm.ClassFile.FieldType.int) ∈ tables_1_8 := List.mem_of_getElem? (i := 58) rfl
theorem cw262 : Cond.code ⟨"AfterTheLastModel", "asks", "(I)I"⟩ prog_14_method_96_code 4 (Option.some Jvm.ClassFile.FieldType.int) ∈ tables_1_8 := List.mem_of_getElem? (i := 63) rfl
theorem cw263 : Cond.code ⟨"AfterTheLastModel", "went", "(I)I"⟩ prog_14_method_98_code 2 (Option.some Jvm.ClassFile.FieldType.int) ∈ tables_1_8 := List.mem_of_getElem? (i := 67) rfl
theorem cw264 : Cond.code ⟨"AfterTheLastModel", "isIn", "(IIII)Z"⟩ prog_14_method_97_code 6 (Option.some Jvm.ClassFile.FieldType.boolean) ∈ tables_1_8 := List.mem_of_getElem? (i := 71) rfl
theorem cw265 : Cond.code ⟨"AfterTheLastModel", "before", "(II)I"⟩ prog_14_method_99_code 3 (Option.some Jvm.ClassFile.FieldType.int) ∈ tables_1_8 := List.mem_of_getElem? (i := 75) rfl
theorem cw266 : Cond.code ⟨"AfterTheLastModel", "orders", "(I)I"⟩ prog_14_method_103_code 5 (Option.some Jvm.ClassFile.FieldType.int) ∈ tables_1_8 := List.mem_of_getElem? (i := 79) rfl
theorem cw267 : Cond.code ⟨"AfterTheLastModel", "isOrder", "()Z"⟩ prog_14_method_100_code 7 (Option.some Jvm.ClassFile.FieldType.boolean) ∈ tables_1_8 := List.mem_of_getElem? (i := 84) rfl
theorem cw268 : Cond.code ⟨"AfterTheLastModel", "placeIn", "(I)I"⟩ prog_14_method_101_code 3 (Option.some Jvm.ClassFile.FieldType.int) ∈ tables_1_8 := List.mem_of_getElem? (i := 88) rfl
theorem cw269 : Cond.code ⟨"AfterTheLastModel", "isNextOrder", "()Z"⟩ prog_14_method_102_code 6 (Option.some Jvm.ClassFile.FieldType.boolean) ∈ tables_1_8 := List.mem_of_getElem? (i := 92) rfl
theorem cw270 : Cond.code ⟨"AfterTheLastModel", "guest", "(II)I"⟩ prog_14_method_104_code 3 (Option.some Jvm.ClassFile.FieldType.int) ∈ tables_1_8 := List.mem_of_getElem? (i := 96) rfl
theorem cw271 : Cond.code ⟨"AfterTheLastModel", "kept", "(III)I"⟩ prog_14_method_106_code 6 (Option.some Jvm.ClassFile.FieldType.int) ∈ tables_1_8 := List.mem_of_getElem? (i := 100) rfl
theorem cw272 : Cond.code ⟨"AfterTheLastModel", "goesBy", "(II)I"⟩ prog_14_method_105_code 6 (Option.some Jvm.ClassFile.FieldType.int) ∈ tables_1_8 := List.mem_of_getElem? (i := 104) rfl
theorem cw273 : Cond.code ⟨"AfterTheLastModel", "knocks", "(IIIIII)I"⟩ prog_14_method_107_code 10 (Option.some Jvm.ClassFile.FieldType.int) ∈ tables_1_8 := List.mem_of_getElem? (i := 108) rfl
theorem cw274 : Cond.code ⟨"AfterTheLastModel", "seed", "(I)I"⟩ prog_14_method_108_code 3 (Option.some Jvm.ClassFile.FieldType.int) ∈ tables_1_8 := List.mem_of_getElem? (i := 113) rfl
theorem cw275 : Cond.code ⟨"AfterTheLastModel", "evenings", "(III)I"⟩ prog_14_method_109_code 12 (Option.some Jvm.ClassFile.FieldType.int) ∈ tables_1_8 := List.mem_of_getElem? (i := 117) rfl
theorem cw276 : Cond.code ⟨"AfterTheLastModel", "count", "(I)I"⟩ prog_14_method_110_code 4 (Option.some Jvm.ClassFile.FieldType.int) ∈ tables_1_8 := List.mem_of_getElem? (i := 127) rfl
theorem cw277 : Cond.code ⟨"AfterTheLastModel", "image", "(I)I"⟩ prog_14_method_111_code 3 (Option.some Jvm.ClassFile.FieldType.int) ∈ tables_1_8 := List.mem_of_getElem? (i := 131) rfl
theorem cw278 : Cond.code ⟨"AfterTheLastModel", "back", "(I)I"⟩ prog_14_method_112_code 3 (Option.some Jvm.ClassFile.FieldType.int) ∈ tables_1_8 := List.mem_of_getElem? (i := 135) rfl
theorem mT1 {w : Cond} (h : w ∈ tables_1_1) : w ∈ lw_tbl := by unfold lw_tbl tables_1; simp only [List.mem_append, h, true_or, or_true]
theorem mT2 {w : Cond} (h : w ∈ tables_1_2) : w ∈ lw_tbl := by unfold lw_tbl tables_1; simp only [List.mem_append, h, true_or, or_true]
theorem mT3 {w : Cond} (h : w ∈ tables_1_3) : w ∈ lw_tbl := by unfold lw_tbl tables_1; simp only [List.mem_append, h, true_or, or_true]
theorem mT4 {w : Cond} (h : w ∈ tables_1_4) : w ∈ lw_tbl := by unfold lw_tbl tables_1; simp only [List.mem_append, h, true_or, or_true]
theorem mT5 {w : Cond} (h : w ∈ tables_1_5) : w ∈ lw_tbl := by unfold lw_tbl tables_1; simp only [List.mem_append, h, true_or, or_true]
theorem mT6 {w : Cond} (h : w ∈ tables_1_6) : w ∈ lw_tbl := by unfold lw_tbl tables_1; simp only [List.mem_append, h, true_or, or_true]
theorem mT7 {w : Cond} (h : w ∈ tables_1_7) : w ∈ lw_tbl := by unfold lw_tbl tables_1; simp only [List.mem_append, h, true_or, or_true]
theorem mT8 {w : Cond} (h : w ∈ tables_1_8) : w ∈ lw_tbl := by unfold lw_tbl tables_1; simp only [List.mem_append, h, true_or, or_true]
set_option maxRecDepth 100000 in
theorem cwc0 : ∀ q ∈ sYc0, Cond.code q.1 q.2.1 q.2.2.1 q.2.2.2.1 ∈ lw_tbl := List.forall_mem_cons.mpr ⟨mT1 cw0, List.forall_mem_cons.mpr ⟨mT1 cw1, List.forall_mem_cons.mpr ⟨mT1 cw2, List.forall_mem_cons.mpr ⟨mT1 cw3, List.forall_mem_cons.mpr ⟨mT1 cw4, List.forall_mem_cons.mpr ⟨mT1 cw5, List.forall_mem_cons.mpr ⟨mT1 cw6, List.forall_mem_cons.mpr ⟨mT1 cw7, List.forall_mem_cons.mpr ⟨mT2 cw8, List.forall_mem_cons.mpr ⟨mT2 cw9, List.forall_mem_cons.mpr ⟨mT2 cw10, List.forall_mem_cons.mpr ⟨mT2 cw11, List.forall_mem_cons.mpr ⟨mT2 cw12, List.forall_mem_cons.mpr ⟨mT2 cw13, List.forall_mem_cons.mpr ⟨mT2 cw14, List.forall_mem_cons.mpr ⟨mT2 cw15, List.forall_mem_cons.mpr ⟨mT2 cw16, List.forall_mem_cons.mpr ⟨mT3 cw17, List.forall_mem_cons.mpr ⟨mT3 cw18, List.forall_mem_cons.mpr ⟨mT3 cw19, fun _ h => absurd h List.not_mem_nil⟩⟩⟩⟩⟩⟩⟩⟩⟩⟩⟩⟩⟩⟩⟩⟩⟩⟩⟩⟩
set_option maxRecDepth 100000 in
theorem cwc1 : ∀ q ∈ sYc1, Cond.code q.1 q.2.1 q.2.2.1 q.2.2.2.1 ∈ lw_tbl := List.forall_mem_cons.mpr ⟨mT3 cw20, List.forall_mem_cons.mpr ⟨mT3 cw21, List.forall_mem_cons.mpr ⟨mT3 cw22, List.forall_mem_cons.mpr ⟨mT3 cw23, List.forall_mem_cons.mpr ⟨mT3 cw24, List.forall_mem_cons.mpr ⟨mT3 cw25, List.forall_mem_cons.mpr ⟨mT3 cw26, List.forall_mem_cons.mpr ⟨mT3 cw27, List.forall_mem_cons.mpr ⟨mT3 cw28, List.forall_mem_cons.mpr ⟨mT3 cw29, List.forall_mem_cons.mpr ⟨mT3 cw30, List.forall_mem_cons.mpr ⟨mT3 cw31, List.forall_mem_cons.mpr ⟨mT3 cw32, List.forall_mem_cons.mpr ⟨mT3 cw33, List.forall_mem_cons.mpr ⟨mT3 cw34, List.forall_mem_cons.mpr ⟨mT3 cw35, List.forall_mem_cons.mpr ⟨mT3 cw36, List.forall_mem_cons.mpr ⟨mT3 cw37, List.forall_mem_cons.mpr ⟨mT3 cw38, List.forall_mem_cons.mpr ⟨mT3 cw39, fun _ h => absurd h List.not_mem_nil⟩⟩⟩⟩⟩⟩⟩⟩⟩⟩⟩⟩⟩⟩⟩⟩⟩⟩⟩⟩
set_option maxRecDepth 100000 in
theorem cwc2 : ∀ q ∈ sYc2, Cond.code q.1 q.2.1 q.2.2.1 q.2.2.2.1 ∈ lw_tbl := List.forall_mem_cons.mpr ⟨mT3 cw40, List.forall_mem_cons.mpr ⟨mT3 cw41, List.forall_mem_cons.mpr ⟨mT3 cw42, List.forall_mem_cons.mpr ⟨mT3 cw43, List.forall_mem_cons.mpr ⟨mT3 cw44, List.forall_mem_cons.mpr ⟨mT3 cw45, List.forall_mem_cons.mpr ⟨mT3 cw46, List.forall_mem_cons.mpr ⟨mT3 cw47, List.forall_mem_cons.mpr ⟨mT3 cw48, List.forall_mem_cons.mpr ⟨mT3 cw49, List.forall_mem_cons.mpr ⟨mT3 cw50, List.forall_mem_cons.mpr ⟨mT3 cw51, List.forall_mem_cons.mpr ⟨mT3 cw52, List.forall_mem_cons.mpr ⟨mT3 cw53, List.forall_mem_cons.mpr ⟨mT4 cw54, List.forall_mem_cons.mpr ⟨mT4 cw55, List.forall_mem_cons.mpr ⟨mT4 cw56, List.forall_mem_cons.mpr ⟨mT4 cw57, List.forall_mem_cons.mpr ⟨mT4 cw58, List.forall_mem_cons.mpr ⟨mT4 cw59, fun _ h => absurd h List.not_mem_nil⟩⟩⟩⟩⟩⟩⟩⟩⟩⟩⟩⟩⟩⟩⟩⟩⟩⟩⟩⟩
set_option maxRecDepth 100000 in
theorem cwc3 : ∀ q ∈ sYc3, Cond.code q.1 q.2.1 q.2.2.1 q.2.2.2.1 ∈ lw_tbl := List.forall_mem_cons.mpr ⟨mT4 cw60, List.forall_mem_cons.mpr ⟨mT4 cw61, List.forall_mem_cons.mpr ⟨mT4 cw62, List.forall_mem_cons.mpr ⟨mT4 cw63, List.forall_mem_cons.mpr ⟨mT4 cw64, List.forall_mem_cons.mpr ⟨mT4 cw65, List.forall_mem_cons.mpr ⟨mT4 cw66, List.forall_mem_cons.mpr ⟨mT4 cw67, List.forall_mem_cons.mpr ⟨mT4 cw68, List.forall_mem_cons.mpr ⟨mT4 cw69, List.forall_mem_cons.mpr ⟨mT4 cw70, List.forall_mem_cons.mpr ⟨mT4 cw71, List.forall_mem_cons.mpr ⟨mT4 cw72, List.forall_mem_cons.mpr ⟨mT4 cw73, List.forall_mem_cons.mpr ⟨mT4 cw74, List.forall_mem_cons.mpr ⟨mT4 cw75, List.forall_mem_cons.mpr ⟨mT4 cw76, List.forall_mem_cons.mpr ⟨mT4 cw77, List.forall_mem_cons.mpr ⟨mT4 cw78, List.forall_mem_cons.mpr ⟨mT4 cw79, fun _ h => absurd h List.not_mem_nil⟩⟩⟩⟩⟩⟩⟩⟩⟩⟩⟩⟩⟩⟩⟩⟩⟩⟩⟩⟩
set_option maxRecDepth 100000 in
theorem cwc4 : ∀ q ∈ sYc4, Cond.code q.1 q.2.1 q.2.2.1 q.2.2.2.1 ∈ lw_tbl := List.forall_mem_cons.mpr ⟨mT4 cw80, List.forall_mem_cons.mpr ⟨mT4 cw81, List.forall_mem_cons.mpr ⟨mT4 cw82, List.forall_mem_cons.mpr ⟨mT4 cw83, List.forall_mem_cons.mpr ⟨mT4 cw84, List.forall_mem_cons.mpr ⟨mT4 cw85, List.forall_mem_cons.mpr ⟨mT4 cw86, List.forall_mem_cons.mpr ⟨mT4 cw87, List.forall_mem_cons.mpr ⟨mT4 cw88, List.forall_mem_cons.mpr ⟨mT4 cw89, List.forall_mem_cons.mpr ⟨mT4 cw90, List.forall_mem_cons.mpr ⟨mT4 cw91, List.forall_mem_cons.mpr ⟨mT4 cw92, List.forall_mem_cons.mpr ⟨mT4 cw93, List.forall_mem_cons.mpr ⟨mT4 cw94, List.forall_mem_cons.mpr ⟨mT4 cw95, List.forall_mem_cons.mpr ⟨mT4 cw96, List.forall_mem_cons.mpr ⟨mT4 cw97, List.forall_mem_cons.mpr ⟨mT4 cw98, List.forall_mem_cons.mpr ⟨mT4 cw99, fun _ h => absurd h List.not_mem_nil⟩⟩⟩⟩⟩⟩⟩⟩⟩⟩⟩⟩⟩⟩⟩⟩⟩⟩⟩⟩
set_option maxRecDepth 100000 in
theorem cwc5 : ∀ q ∈ sYc5, Cond.code q.1 q.2.1 q.2.2.1 q.2.2.2.1 ∈ lw_tbl := List.forall_mem_cons.mpr ⟨mT4 cw100, List.forall_mem_cons.mpr ⟨mT4 cw101, List.forall_mem_cons.mpr ⟨mT4 cw102, List.forall_mem_cons.mpr ⟨mT4 cw103, List.forall_mem_cons.mpr ⟨mT4 cw104, List.forall_mem_cons.mpr ⟨mT5 cw105, List.forall_mem_cons.mpr ⟨mT5 cw106, List.forall_mem_cons.mpr ⟨mT5 cw107, List.forall_mem_cons.mpr ⟨mT5 cw108, List.forall_mem_cons.mpr ⟨mT5 cw109, List.forall_mem_cons.mpr ⟨mT5 cw110, List.forall_mem_cons.mpr ⟨mT5 cw111, List.forall_mem_cons.mpr ⟨mT5 cw112, List.forall_mem_cons.mpr ⟨mT5 cw113, List.forall_mem_cons.mpr ⟨mT5 cw114, List.forall_mem_cons.mpr ⟨mT5 cw115, List.forall_mem_cons.mpr ⟨mT5 cw116, List.forall_mem_cons.mpr ⟨mT5 cw117, List.forall_mem_cons.mpr ⟨mT5 cw118, List.forall_mem_cons.mpr ⟨mT5 cw119, fun _ h => absurd h List.not_mem_nil⟩⟩⟩⟩⟩⟩⟩⟩⟩⟩⟩⟩⟩⟩⟩⟩⟩⟩⟩⟩
set_option maxRecDepth 100000 in
theorem cwc6 : ∀ q ∈ sYc6, Cond.code q.1 q.2.1 q.2.2.1 q.2.2.2.1 ∈ lw_tbl := List.forall_mem_cons.mpr ⟨mT5 cw120, List.forall_mem_cons.mpr ⟨mT5 cw121, List.forall_mem_cons.mpr ⟨mT5 cw122, List.forall_mem_cons.mpr ⟨mT5 cw123, List.forall_mem_cons.mpr ⟨mT5 cw124, List.forall_mem_cons.mpr ⟨mT5 cw125, List.forall_mem_cons.mpr ⟨mT5 cw126, List.forall_mem_cons.mpr ⟨mT5 cw127, List.forall_mem_cons.mpr ⟨mT5 cw128, List.forall_mem_cons.mpr ⟨mT5 cw129, List.forall_mem_cons.mpr ⟨mT5 cw130, List.forall_mem_cons.mpr ⟨mT5 cw131, List.forall_mem_cons.mpr ⟨mT5 cw132, List.forall_mem_cons.mpr ⟨mT5 cw133, List.forall_mem_cons.mpr ⟨mT5 cw134, List.forall_mem_cons.mpr ⟨mT5 cw135, List.forall_mem_cons.mpr ⟨mT5 cw136, List.forall_mem_cons.mpr ⟨mT5 cw137, List.forall_mem_cons.mpr ⟨mT5 cw138, List.forall_mem_cons.mpr ⟨mT5 cw139, fun _ h => absurd h List.not_mem_nil⟩⟩⟩⟩⟩⟩⟩⟩⟩⟩⟩⟩⟩⟩⟩⟩⟩⟩⟩⟩
set_option maxRecDepth 100000 in
theorem cwc7 : ∀ q ∈ sYc7, Cond.code q.1 q.2.1 q.2.2.1 q.2.2.2.1 ∈ lw_tbl := List.forall_mem_cons.mpr ⟨mT5 cw140, List.forall_mem_cons.mpr ⟨mT5 cw141, List.forall_mem_cons.mpr ⟨mT5 cw142, List.forall_mem_cons.mpr ⟨mT5 cw143, List.forall_mem_cons.mpr ⟨mT5 cw144, List.forall_mem_cons.mpr ⟨mT5 cw145, List.forall_mem_cons.mpr ⟨mT5 cw146, List.forall_mem_cons.mpr ⟨mT5 cw147, List.forall_mem_cons.mpr ⟨mT5 cw148, List.forall_mem_cons.mpr ⟨mT5 cw149, List.forall_mem_cons.mpr ⟨mT5 cw150, List.forall_mem_cons.mpr ⟨mT5 cw151, List.forall_mem_cons.mpr ⟨mT5 cw152, List.forall_mem_cons.mpr ⟨mT5 cw153, List.forall_mem_cons.mpr ⟨mT5 cw154, List.forall_mem_cons.mpr ⟨mT5 cw155, List.forall_mem_cons.mpr ⟨mT5 cw156, List.forall_mem_cons.mpr ⟨mT5 cw157, List.forall_mem_cons.mpr ⟨mT5 cw158, List.forall_mem_cons.mpr ⟨mT5 cw159, fun _ h => absurd h List.not_mem_nil⟩⟩⟩⟩⟩⟩⟩⟩⟩⟩⟩⟩⟩⟩⟩⟩⟩⟩⟩⟩
set_option maxRecDepth 100000 in
theorem cwc8 : ∀ q ∈ sYc8, Cond.code q.1 q.2.1 q.2.2.1 q.2.2.2.1 ∈ lw_tbl := List.forall_mem_cons.mpr ⟨mT5 cw160, List.forall_mem_cons.mpr ⟨mT5 cw161, List.forall_mem_cons.mpr ⟨mT5 cw162, List.forall_mem_cons.mpr ⟨mT6 cw163, List.forall_mem_cons.mpr ⟨mT6 cw164, List.forall_mem_cons.mpr ⟨mT6 cw165, List.forall_mem_cons.mpr ⟨mT6 cw166, List.forall_mem_cons.mpr ⟨mT6 cw167, List.forall_mem_cons.mpr ⟨mT6 cw168, List.forall_mem_cons.mpr ⟨mT6 cw169, List.forall_mem_cons.mpr ⟨mT6 cw170, List.forall_mem_cons.mpr ⟨mT6 cw171, List.forall_mem_cons.mpr ⟨mT6 cw172, List.forall_mem_cons.mpr ⟨mT6 cw173, List.forall_mem_cons.mpr ⟨mT6 cw174, List.forall_mem_cons.mpr ⟨mT6 cw175, List.forall_mem_cons.mpr ⟨mT6 cw176, List.forall_mem_cons.mpr ⟨mT6 cw177, List.forall_mem_cons.mpr ⟨mT6 cw178, List.forall_mem_cons.mpr ⟨mT6 cw179, fun _ h => absurd h List.not_mem_nil⟩⟩⟩⟩⟩⟩⟩⟩⟩⟩⟩⟩⟩⟩⟩⟩⟩⟩⟩⟩
set_option maxRecDepth 100000 in
theorem cwc9 : ∀ q ∈ sYc9, Cond.code q.1 q.2.1 q.2.2.1 q.2.2.2.1 ∈ lw_tbl := List.forall_mem_cons.mpr ⟨mT6 cw180, List.forall_mem_cons.mpr ⟨mT6 cw181, List.forall_mem_cons.mpr ⟨mT6 cw182, List.forall_mem_cons.mpr ⟨mT6 cw183, List.forall_mem_cons.mpr ⟨mT6 cw184, List.forall_mem_cons.mpr ⟨mT6 cw185, List.forall_mem_cons.mpr ⟨mT6 cw186, List.forall_mem_cons.mpr ⟨mT6 cw187, List.forall_mem_cons.mpr ⟨mT6 cw188, List.forall_mem_cons.mpr ⟨mT6 cw189, List.forall_mem_cons.mpr ⟨mT7 cw190, List.forall_mem_cons.mpr ⟨mT7 cw191, List.forall_mem_cons.mpr ⟨mT7 cw192, List.forall_mem_cons.mpr ⟨mT7 cw193, List.forall_mem_cons.mpr ⟨mT7 cw194, List.forall_mem_cons.mpr ⟨mT7 cw195, List.forall_mem_cons.mpr ⟨mT7 cw196, List.forall_mem_cons.mpr ⟨mT7 cw197, List.forall_mem_cons.mpr ⟨mT7 cw198, List.forall_mem_cons.mpr ⟨mT7 cw199, fun _ h => absurd h List.not_mem_nil⟩⟩⟩⟩⟩⟩⟩⟩⟩⟩⟩⟩⟩⟩⟩⟩⟩⟩⟩⟩
set_option maxRecDepth 100000 in
theorem cwc10 : ∀ q ∈ sYc10, Cond.code q.1 q.2.1 q.2.2.1 q.2.2.2.1 ∈ lw_tbl := List.forall_mem_cons.mpr ⟨mT7 cw200, List.forall_mem_cons.mpr ⟨mT7 cw201, List.forall_mem_cons.mpr ⟨mT7 cw202, List.forall_mem_cons.mpr ⟨mT7 cw203, List.forall_mem_cons.mpr ⟨mT7 cw204, List.forall_mem_cons.mpr ⟨mT7 cw205, List.forall_mem_cons.mpr ⟨mT7 cw206, List.forall_mem_cons.mpr ⟨mT7 cw207, List.forall_mem_cons.mpr ⟨mT7 cw208, List.forall_mem_cons.mpr ⟨mT7 cw209, List.forall_mem_cons.mpr ⟨mT7 cw210, List.forall_mem_cons.mpr ⟨mT7 cw211, List.forall_mem_cons.mpr ⟨mT7 cw212, List.forall_mem_cons.mpr ⟨mT7 cw213, List.forall_mem_cons.mpr ⟨mT7 cw214, List.forall_mem_cons.mpr ⟨mT7 cw215, List.forall_mem_cons.mpr ⟨mT7 cw216, List.forall_mem_cons.mpr ⟨mT7 cw217, List.forall_mem_cons.mpr ⟨mT7 cw218, List.forall_mem_cons.mpr ⟨mT7 cw219, fun _ h => absurd h List.not_mem_nil⟩⟩⟩⟩⟩⟩⟩⟩⟩⟩⟩⟩⟩⟩⟩⟩⟩⟩⟩⟩
set_option maxRecDepth 100000 in
theorem cwc11 : ∀ q ∈ sYc11, Cond.code q.1 q.2.1 q.2.2.1 q.2.2.2.1 ∈ lw_tbl := List.forall_mem_cons.mpr ⟨mT7 cw220, List.forall_mem_cons.mpr ⟨mT7 cw221, List.forall_mem_cons.mpr ⟨mT7 cw222, List.forall_mem_cons.mpr ⟨mT7 cw223, List.forall_mem_cons.mpr ⟨mT7 cw224, List.forall_mem_cons.mpr ⟨mT7 cw225, List.forall_mem_cons.mpr ⟨mT7 cw226, List.forall_mem_cons.mpr ⟨mT7 cw227, List.forall_mem_cons.mpr ⟨mT7 cw228, List.forall_mem_cons.mpr ⟨mT7 cw229, List.forall_mem_cons.mpr ⟨mT7 cw230, List.forall_mem_cons.mpr ⟨mT7 cw231, List.forall_mem_cons.mpr ⟨mT7 cw232, List.forall_mem_cons.mpr ⟨mT7 cw233, List.forall_mem_cons.mpr ⟨mT7 cw234, List.forall_mem_cons.mpr ⟨mT7 cw235, List.forall_mem_cons.mpr ⟨mT7 cw236, List.forall_mem_cons.mpr ⟨mT7 cw237, List.forall_mem_cons.mpr ⟨mT7 cw238, List.forall_mem_cons.mpr ⟨mT7 cw239, fun _ h => absurd h List.not_mem_nil⟩⟩⟩⟩⟩⟩⟩⟩⟩⟩⟩⟩⟩⟩⟩⟩⟩⟩⟩⟩
set_option maxRecDepth 100000 in
theorem cwc12 : ∀ q ∈ sYc12, Cond.code q.1 q.2.1 q.2.2.1 q.2.2.2.1 ∈ lw_tbl := List.forall_mem_cons.mpr ⟨mT7 cw240, List.forall_mem_cons.mpr ⟨mT7 cw241, List.forall_mem_cons.mpr ⟨mT7 cw242, List.forall_mem_cons.mpr ⟨mT7 cw243, List.forall_mem_cons.mpr ⟨mT7 cw244, List.forall_mem_cons.mpr ⟨mT7 cw245, List.forall_mem_cons.mpr ⟨mT7 cw246, List.forall_mem_cons.mpr ⟨mT7 cw247, List.forall_mem_cons.mpr ⟨mT8 cw248, List.forall_mem_cons.mpr ⟨mT8 cw249, List.forall_mem_cons.mpr ⟨mT8 cw250, List.forall_mem_cons.mpr ⟨mT8 cw251, List.forall_mem_cons.mpr ⟨mT8 cw252, List.forall_mem_cons.mpr ⟨mT8 cw253, List.forall_mem_cons.mpr ⟨mT8 cw254, List.forall_mem_cons.mpr ⟨mT8 cw255, List.forall_mem_cons.mpr ⟨mT8 cw256, List.forall_mem_cons.mpr ⟨mT8 cw257, List.forall_mem_cons.mpr ⟨mT8 cw258, List.forall_mem_cons.mpr ⟨mT8 cw259, fun _ h => absurd h List.not_mem_nil⟩⟩⟩⟩⟩⟩⟩⟩⟩⟩⟩⟩⟩⟩⟩⟩⟩⟩⟩⟩
set_option maxRecDepth 100000 in
theorem cwc13 : ∀ q ∈ sYc13, Cond.code q.1 q.2.1 q.2.2.1 q.2.2.2.1 ∈ lw_tbl := List.forall_mem_cons.mpr ⟨mT8 cw260, List.forall_mem_cons.mpr ⟨mT8 cw261, List.forall_mem_cons.mpr ⟨mT8 cw262, List.forall_mem_cons.mpr ⟨mT8 cw263, List.forall_mem_cons.mpr ⟨mT8 cw264, List.forall_mem_cons.mpr ⟨mT8 cw265, List.forall_mem_cons.mpr ⟨mT8 cw266, List.forall_mem_cons.mpr ⟨mT8 cw267, List.forall_mem_cons.mpr ⟨mT8 cw268, List.forall_mem_cons.mpr ⟨mT8 cw269, List.forall_mem_cons.mpr ⟨mT8 cw270, List.forall_mem_cons.mpr ⟨mT8 cw271, List.forall_mem_cons.mpr ⟨mT8 cw272, List.forall_mem_cons.mpr ⟨mT8 cw273, List.forall_mem_cons.mpr ⟨mT8 cw274, List.forall_mem_cons.mpr ⟨mT8 cw275, List.forall_mem_cons.mpr ⟨mT8 cw276, List.forall_mem_cons.mpr ⟨mT8 cw277, List.forall_mem_cons.mpr ⟨mT8 cw278, fun _ h => absurd h List.not_mem_nil⟩⟩⟩⟩⟩⟩⟩⟩⟩⟩⟩⟩⟩⟩⟩⟩⟩⟩⟩
theorem cwA : ∀ q ∈ sYA, Cond.code q.1 q.2.1 q.2.2.1 q.2.2.2.1 ∈ lw_tbl := by
  intro q hq
  unfold sYA at hq
  simp only [List.mem_append] at hq
  rcases hq with h | h | h | h | h | h | h | h | h | h | h | h | h | h
  · exact cwc0 q h
  · exact cwc1 q h
  · exact cwc2 q h
  · exact cwc3 q h
  · exact cwc4 q h
  · exact cwc5 q h
  · exact cwc6 q h
  · exact cwc7 q h
  · exact cwc8 q h
  · exact cwc9 q h
  · exact cwc10 q h
  · exact cwc11 q h
  · exact cwc12 q h
  · exact cwc13 q h
