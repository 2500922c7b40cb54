theorem tb_0 {w : Cond} (h : w ∈ k2_sels lw_privs) : w ∈ lw_tbl := List.mem_append_left _ h
theorem tb_1 {w : Cond} (h : w ∈ tables_1_1) : w ∈ lw_tbl := List.mem_append_right _ (show w ∈ tables_1_1 ++ (tables_1_2 ++ (tables_1_3 ++ (tables_1_4 ++ (tables_1_5 ++ tables_1_6)))) from List.mem_append_left _ h)
theorem tb_2 {w : Cond} (h : w ∈ tables_1_2) : w ∈ lw_tbl := List.mem_append_right _ (show w ∈ tables_1_1 ++ (tables_1_2 ++ (tables_1_3 ++ (tables_1_4 ++ (tables_1_5 ++ tables_1_6)))) from List.mem_append_right _ (List.mem_append_left _ h))
theorem tb_3 {w : Cond} (h : w ∈ tables_1_3) : w ∈ lw_tbl := List.mem_append_right _ (show w ∈ tables_1_1 ++ (tables_1_2 ++ (tables_1_3 ++ (tables_1_4 ++ (tables_1_5 ++ tables_1_6)))) from List.mem_append_right _ (List.mem_append_right _ (List.mem_append_left _ h)))
theorem tb_4 {w : Cond} (h : w ∈ tables_1_4) : w ∈ lw_tbl := List.mem_append_right _ (show w ∈ tables_1_1 ++ (tables_1_2 ++ (tables_1_3 ++ (tables_1_4 ++ (tables_1_5 ++ tables_1_6)))) from List.mem_append_right _ (List.mem_append_right _ (List.mem_append_right _ (List.mem_append_left _ h))))
theorem tb_5 {w : Cond} (h : w ∈ tables_1_5) : w ∈ lw_tbl := List.mem_append_right _ (show w ∈ tables_1_1 ++ (tables_1_2 ++ (tables_1_3 ++ (tables_1_4 ++ (tables_1_5 ++ tables_1_6)))) from List.mem_append_right _ (List.mem_append_right _ (List.mem_append_right _ (List.mem_append_right _ (List.mem_append_left _ h)))))
theorem tb_6 {w : Cond} (h : w ∈ tables_1_6) : w ∈ lw_tbl := List.mem_append_right _ (show w ∈ tables_1_1 ++ (tables_1_2 ++ (tables_1_3 ++ (tables_1_4 ++ (tables_1_5 ++ tables_1_6)))) from List.mem_append_right _ (List.mem_append_right _ (List.mem_append_right _ (List.mem_append_right _ (List.mem_append_right _ (h))))))
def sv_cn : Nat → String := fun o => match o with
  | 0 => RX0
  | 1 => RX1
  | 2 => RX2
  | 3 => RX3
  | 4 => RX4
  | 5 => RX5
  | 6 => RX6
  | 7 => RX7
  | 8 => RX8
  | 9 => RX9
  | 10 => RX10
  | 11 => RX11
  | 12 => RL
  | 13 => RJ7
  | 14 => RJ6
  | _ => RJ9
def sv_cT : Nat → u_T := fun o => match o with
  | 0 => TX0
  | 1 => TX1
  | 2 => TX2
  | 3 => TX3
  | 4 => TX4
  | 5 => TX5
  | 6 => TX6
  | 7 => TX7
  | 8 => TX8
  | 9 => TX9
  | 10 => TX10
  | _ => TX11
def sv_cN : Nat → Nat := fun o => match o with
  | 0 => 0
  | 1 => 0
  | 2 => 1
  | 3 => 0
  | 4 => 0
  | 5 => 0
  | 6 => 0
  | 7 => 3
  | 8 => 13
  | 9 => 6
  | 10 => 7
  | _ => 17
def sv_cy : Nat → Nat → FieldType := fun o => match o with
  | 0 => tyX0
  | 1 => tyX1
  | 2 => tyX2
  | 3 => tyX3
  | 4 => tyX4
  | 5 => tyX5
  | 6 => tyX6
  | 7 => tyX7
  | 8 => tyX8
  | 9 => tyX9
  | 10 => tyX10
  | _ => tyX11
def sv_y : Nat → MethodName := fun y => match y with
  | 0 => yX0_init
  | 1 => yX0_word
  | 2 => yX0_steps
  | 3 => yX0_payForSecret
  | 4 => yX1_init
  | 5 => yX1_word
  | 6 => yX1_diggingWay
  | 7 => yX1_turnsFirst
  | 8 => yX1_payForCell
  | 9 => yX2_init
  | 10 => yX2_found
  | 11 => yX2_all
  | 12 => yX3_init
  | 13 => yX3_word
  | 14 => yX3_steps
  | 15 => yX3_payForSecret
  | 16 => yX4_init
  | 17 => yX4_word
  | 18 => yX4_steps
  | 19 => yX4_turnsFirst
  | 20 => yX4_payForSecret
  | 21 => yX5_init
  | 22 => yX5_word
  | 23 => yX5_steps
  | 24 => yX5_diggingWay
  | 25 => yX5_turnsFirst
  | 26 => yX5_payForCell
  | 27 => yX5_payForSecret
  | 28 => yX6_init
  | 29 => yX6_word
  | 30 => yX6_steps
  | 31 => yX6_diggingWay
  | 32 => yX6_turnsFirst
  | 33 => yX6_payForCell
  | 34 => yX6_payForSecret
  | 35 => yX7_init
  | 36 => yX7_isMissing
  | 37 => yX7_renew
  | 38 => yX7_has
  | 39 => yX7_put
  | 40 => yX8_init
  | 41 => yX8_become
  | 42 => yX8_isFull
  | 43 => yX8_contract
  | 44 => yX8_lay
  | 45 => yX8_isTunnel
  | 46 => yX8_putSecret
  | 47 => yX8_kindOf
  | 48 => yX8_stepsOf
  | 49 => yX8_molesAt
  | 50 => yX8_secretsAt
  | 51 => yX8_heapsOfAll
  | 52 => yX8_handsOfAll
  | 53 => yX8_minutesTillOut
  | 54 => yX8_minutesTillDug
  | 55 => yX8_minutesTillAt
  | 56 => yX8_pass
  | 57 => yX8_passOne
  | 58 => yX8_settle
  | 59 => yX8_bringOut
  | 60 => yX8_pickUp
  | 61 => yX8_turnRound
  | 62 => yX8_pay
  | 63 => yX8_goalOf
  | 64 => yX8_step
  | 65 => yX8_nextCell
  | 66 => yX9_init
  | 67 => yX9_append
  | 68 => yX9_play
  | 69 => yX9_playItem
  | 70 => yX9_playDug
  | 71 => yX9_playSecret
  | 72 => yX9_playMole
  | 73 => yX9_takeNumber
  | 74 => yX9_isWord
  | 75 => yX9_advance
  | 76 => yX9_passWord
  | 77 => yX9_passNumber
  | 78 => yX9_isLetter
  | 79 => yX9_isDigit
  | 80 => yX10_init
  | 81 => yX10_cell
  | 82 => yX10_cellOf
  | 83 => yX10_tell
  | 84 => yX10_where
  | 85 => yX10_now
  | 86 => yX10_mole
  | 87 => yX10_of
  | 88 => yX10_charges
  | 89 => yX10_set
  | 90 => yX10_turn
  | 91 => yX10_as
  | 92 => yX10_minutes
  | 93 => yX10_on
  | 94 => yX10_then
  | 95 => yX10_out
  | 96 => yX10_dug
  | 97 => yX10_comes
  | 98 => yX10_kind
  | 99 => yX10_lead
  | 100 => yX10_dig
  | 101 => yX10_leave
  | 102 => yX10_dismiss
  | 103 => yX10_richest
  | 104 => yX10_feed
  | 105 => yX10_wipe
  | 106 => yX10_shire
  | 107 => yX10_sheet
  | 108 => yX10_write
  | 109 => yX10_copy
  | 110 => yX10_lays
  | 111 => yX10_book
  | 112 => yX10_read
  | 113 => yX10_image
  | 114 => yX10_undo
  | 115 => yX10_tear
  | 116 => yX10_count
  | 117 => yX10_status
  | 118 => yX10_within
  | 119 => yX10_isCell
  | 120 => yX10_isSecret
  | 121 => yX10_isKind
  | 122 => yX10_isSheet
  | 123 => yX10_isMole
  | 124 => yX10_sheetFinding
  | 125 => yX10_mostOf
  | 126 => yX10_isOneOf
  | 127 => yX10_cellFact
  | 128 => yX10_moleFact
  | 129 => yX10_foundWithin
  | 130 => yX10_goesAs
  | 131 => yX11_init
  | 132 => yX11_in
  | 133 => yX11_finds
  | 134 => yX11_saves
  | 135 => yX11_putsBack
  | 136 => yX11_laysAside
  | 137 => yX11_takesBack
  | 138 => yX11_becomes
  | 139 => yX11_cellSpot
  | 140 => yX11_spot
  | 141 => yX11_its
  | 142 => yX11_isDug
  | 143 => yX11_isCell
  | 144 => yX11_isSecret
  | 145 => yX11_isMole
  | 146 => yX11_isKind
  | 147 => yX11_heldTo
  | 148 => yX11_heaps
  | 149 => yX11_dugOnes
  | 150 => yX11_secretsAt
  | 151 => yX11_hands
  | 152 => yX11_cell
  | 153 => yX11_molesAt
  | 154 => yX11_cellOf
  | 155 => yX11_puts
  | 156 => yX11_tell
  | 157 => yX11_where
  | 158 => yX11_now
  | 159 => yX11_stepsOf
  | 160 => yX11_digsOf
  | 161 => yX11_isTurningFirst
  | 162 => yX11_forCell
  | 163 => yX11_forSecret
  | 164 => yX11_addsMole
  | 165 => yX11_mole
  | 166 => yX11_of
  | 167 => yX11_charges
  | 168 => yX11_set
  | 169 => yX11_turn
  | 170 => yX11_isUnder
  | 171 => yX11_as
  | 172 => yX11_aimOf
  | 173 => yX11_isPaid
  | 174 => yX11_nextTo
  | 175 => yX11_step
  | 176 => yX11_bringsOut
  | 177 => yX11_picksUp
  | 178 => yX11_looks
  | 179 => yX11_minute
  | 180 => yX11_minutesGo
  | 181 => yX11_minutes
  | 182 => yX11_isAhead
  | 183 => yX11_behind
  | 184 => yX11_handsBehind
  | 185 => yX11_outBehind
  | 186 => yX11_on
  | 187 => yX11_then
  | 188 => yX11_firstAs
  | 189 => yX11_toldFirst
  | 190 => yX11_out
  | 191 => yX11_dug
  | 192 => yX11_comes
  | 193 => yX11_isSoon
  | 194 => yX11_kind
  | 195 => yX11_lead
  | 196 => yX11_dig
  | 197 => yX11_leave
  | 198 => yX11_dismiss
  | 199 => yX11_richest
  | 200 => yX11_feed
  | 201 => yX11_wipe
  | 202 => yX11_byteAt
  | 203 => yX11_isLetter
  | 204 => yX11_isDigit
  | 205 => yX11_token
  | 206 => yX11_must
  | 207 => yX11_word
  | 208 => yX11_number
  | 209 => yX11_kindHere
  | 210 => yX11_moleItem
  | 211 => yX11_dugItem
  | 212 => yX11_secretItem
  | 213 => yX11_item
  | 214 => yX11_shire
  | 215 => yX11_isOne
  | 216 => yX11_sheet
  | 217 => yX11_narrowed
  | 218 => yX11_wrongSheet
  | 219 => yX11_write
  | 220 => yX11_copy
  | 221 => yX11_lays
  | 222 => yX11_book
  | 223 => yX11_isBook
  | 224 => yX11_read
  | 225 => yX11_image
  | 226 => yX11_undo
  | 227 => yX11_tear
  | 228 => yX11_dugMany
  | 229 => yX11_count
  | 230 => yX11_status
  | 231 => yJ6_bitCount_0f7a4
  | 232 => yJ7_fill_d0a16
  | 233 => yJ7_fill_53178
  | 500 => yJ0_length_8abf5
  | _ => yJ0_charAt_5068e
def sv_c : Nat → ByteArray := fun y => match y with
  | 0 => cX0_init
  | 1 => cX0_word
  | 2 => cX0_steps
  | 3 => cX0_payForSecret
  | 4 => cX1_init
  | 5 => cX1_word
  | 6 => cX1_diggingWay
  | 7 => cX1_turnsFirst
  | 8 => cX1_payForCell
  | 9 => cX2_init
  | 10 => cX2_found
  | 11 => cX2_all
  | 12 => cX3_init
  | 13 => cX3_word
  | 14 => cX3_steps
  | 15 => cX3_payForSecret
  | 16 => cX4_init
  | 17 => cX4_word
  | 18 => cX4_steps
  | 19 => cX4_turnsFirst
  | 20 => cX4_payForSecret
  | 21 => cX5_init
  | 22 => cX5_word
  | 23 => cX5_steps
  | 24 => cX5_diggingWay
  | 25 => cX5_turnsFirst
  | 26 => cX5_payForCell
  | 27 => cX5_payForSecret
  | 28 => cX6_init
  | 29 => cX6_word
  | 30 => cX6_steps
  | 31 => cX6_diggingWay
  | 32 => cX6_turnsFirst
  | 33 => cX6_payForCell
  | 34 => cX6_payForSecret
  | 35 => cX7_init
  | 36 => cX7_isMissing
  | 37 => cX7_renew
  | 38 => cX7_has
  | 39 => cX7_put
  | 40 => cX8_init
  | 41 => cX8_become
  | 42 => cX8_isFull
  | 43 => cX8_contract
  | 44 => cX8_lay
  | 45 => cX8_isTunnel
  | 46 => cX8_putSecret
  | 47 => cX8_kindOf
  | 48 => cX8_stepsOf
  | 49 => cX8_molesAt
  | 50 => cX8_secretsAt
  | 51 => cX8_heapsOfAll
  | 52 => cX8_handsOfAll
  | 53 => cX8_minutesTillOut
  | 54 => cX8_minutesTillDug
  | 55 => cX8_minutesTillAt
  | 56 => cX8_pass
  | 57 => cX8_passOne
  | 58 => cX8_settle
  | 59 => cX8_bringOut
  | 60 => cX8_pickUp
  | 61 => cX8_turnRound
  | 62 => cX8_pay
  | 63 => cX8_goalOf
  | 64 => cX8_step
  | 65 => cX8_nextCell
  | 66 => cX9_init
  | 67 => cX9_append
  | 68 => cX9_play
  | 69 => cX9_playItem
  | 70 => cX9_playDug
  | 71 => cX9_playSecret
  | 72 => cX9_playMole
  | 73 => cX9_takeNumber
  | 74 => cX9_isWord
  | 75 => cX9_advance
  | 76 => cX9_passWord
  | 77 => cX9_passNumber
  | 78 => cX9_isLetter
  | 79 => cX9_isDigit
  | 80 => cX10_init
  | 81 => cX10_cell
  | 82 => cX10_cellOf
  | 83 => cX10_tell
  | 84 => cX10_where
  | 85 => cX10_now
  | 86 => cX10_mole
  | 87 => cX10_of
  | 88 => cX10_charges
  | 89 => cX10_set
  | 90 => cX10_turn
  | 91 => cX10_as
  | 92 => cX10_minutes
  | 93 => cX10_on
  | 94 => cX10_then
  | 95 => cX10_out
  | 96 => cX10_dug
  | 97 => cX10_comes
  | 98 => cX10_kind
  | 99 => cX10_lead
  | 100 => cX10_dig
  | 101 => cX10_leave
  | 102 => cX10_dismiss
  | 103 => cX10_richest
  | 104 => cX10_feed
  | 105 => cX10_wipe
  | 106 => cX10_shire
  | 107 => cX10_sheet
  | 108 => cX10_write
  | 109 => cX10_copy
  | 110 => cX10_lays
  | 111 => cX10_book
  | 112 => cX10_read
  | 113 => cX10_image
  | 114 => cX10_undo
  | 115 => cX10_tear
  | 116 => cX10_count
  | 117 => cX10_status
  | 118 => cX10_within
  | 119 => cX10_isCell
  | 120 => cX10_isSecret
  | 121 => cX10_isKind
  | 122 => cX10_isSheet
  | 123 => cX10_isMole
  | 124 => cX10_sheetFinding
  | 125 => cX10_mostOf
  | 126 => cX10_isOneOf
  | 127 => cX10_cellFact
  | 128 => cX10_moleFact
  | 129 => cX10_foundWithin
  | 130 => cX10_goesAs
  | 131 => cX11_init
  | 132 => cX11_in
  | 133 => cX11_finds
  | 134 => cX11_saves
  | 135 => cX11_putsBack
  | 136 => cX11_laysAside
  | 137 => cX11_takesBack
  | 138 => cX11_becomes
  | 139 => cX11_cellSpot
  | 140 => cX11_spot
  | 141 => cX11_its
  | 142 => cX11_isDug
  | 143 => cX11_isCell
  | 144 => cX11_isSecret
  | 145 => cX11_isMole
  | 146 => cX11_isKind
  | 147 => cX11_heldTo
  | 148 => cX11_heaps
  | 149 => cX11_dugOnes
  | 150 => cX11_secretsAt
  | 151 => cX11_hands
  | 152 => cX11_cell
  | 153 => cX11_molesAt
  | 154 => cX11_cellOf
  | 155 => cX11_puts
  | 156 => cX11_tell
  | 157 => cX11_where
  | 158 => cX11_now
  | 159 => cX11_stepsOf
  | 160 => cX11_digsOf
  | 161 => cX11_isTurningFirst
  | 162 => cX11_forCell
  | 163 => cX11_forSecret
  | 164 => cX11_addsMole
  | 165 => cX11_mole
  | 166 => cX11_of
  | 167 => cX11_charges
  | 168 => cX11_set
  | 169 => cX11_turn
  | 170 => cX11_isUnder
  | 171 => cX11_as
  | 172 => cX11_aimOf
  | 173 => cX11_isPaid
  | 174 => cX11_nextTo
  | 175 => cX11_step
  | 176 => cX11_bringsOut
  | 177 => cX11_picksUp
  | 178 => cX11_looks
  | 179 => cX11_minute
  | 180 => cX11_minutesGo
  | 181 => cX11_minutes
  | 182 => cX11_isAhead
  | 183 => cX11_behind
  | 184 => cX11_handsBehind
  | 185 => cX11_outBehind
  | 186 => cX11_on
  | 187 => cX11_then
  | 188 => cX11_firstAs
  | 189 => cX11_toldFirst
  | 190 => cX11_out
  | 191 => cX11_dug
  | 192 => cX11_comes
  | 193 => cX11_isSoon
  | 194 => cX11_kind
  | 195 => cX11_lead
  | 196 => cX11_dig
  | 197 => cX11_leave
  | 198 => cX11_dismiss
  | 199 => cX11_richest
  | 200 => cX11_feed
  | 201 => cX11_wipe
  | 202 => cX11_byteAt
  | 203 => cX11_isLetter
  | 204 => cX11_isDigit
  | 205 => cX11_token
  | 206 => cX11_must
  | 207 => cX11_word
  | 208 => cX11_number
  | 209 => cX11_kindHere
  | 210 => cX11_moleItem
  | 211 => cX11_dugItem
  | 212 => cX11_secretItem
  | 213 => cX11_item
  | 214 => cX11_shire
  | 215 => cX11_isOne
  | 216 => cX11_sheet
  | 217 => cX11_narrowed
  | 218 => cX11_wrongSheet
  | 219 => cX11_write
  | 220 => cX11_copy
  | 221 => cX11_lays
  | 222 => cX11_book
  | 223 => cX11_isBook
  | 224 => cX11_read
  | 225 => cX11_image
  | 226 => cX11_undo
  | 227 => cX11_tear
  | 228 => cX11_dugMany
  | 229 => cX11_count
  | 230 => cX11_status
  | 231 => cJ6_bitCount_0f7a4
  | 232 => cJ7_fill_d0a16
  | 233 => cJ7_fill_53178
  | 500 => cJ0_length_8abf5
  | _ => cJ0_charAt_5068e
def sv_r : Nat → Option FieldType := fun y => match y with
  | 0 => (Option.none : Option Jvm.ClassFile.FieldType)
  | 1 => (Option.some (Jvm.ClassFile.FieldType.object "java/lang/String"))
  | 2 => (Option.some Jvm.ClassFile.FieldType.int)
  | 3 => (Option.some Jvm.ClassFile.FieldType.int)
  | 4 => (Option.none : Option Jvm.ClassFile.FieldType)
  | 5 => (Option.some (Jvm.ClassFile.FieldType.object "java/lang/String"))
  | 6 => (Option.some Jvm.ClassFile.FieldType.int)
  | 7 => (Option.some Jvm.ClassFile.FieldType.boolean)
  | 8 => (Option.some Jvm.ClassFile.FieldType.int)
  | 9 => (Option.none : Option Jvm.ClassFile.FieldType)
  | 10 => (Option.some Jvm.ClassFile.FieldType.int)
  | 11 => (Option.some Jvm.ClassFile.FieldType.int)
  | 12 => (Option.none : Option Jvm.ClassFile.FieldType)
  | 13 => (Option.some (Jvm.ClassFile.FieldType.object "java/lang/String"))
  | 14 => (Option.some Jvm.ClassFile.FieldType.int)
  | 15 => (Option.some Jvm.ClassFile.FieldType.int)
  | 16 => (Option.none : Option Jvm.ClassFile.FieldType)
  | 17 => (Option.some (Jvm.ClassFile.FieldType.object "java/lang/String"))
  | 18 => (Option.some Jvm.ClassFile.FieldType.int)
  | 19 => (Option.some Jvm.ClassFile.FieldType.boolean)
  | 20 => (Option.some Jvm.ClassFile.FieldType.int)
  | 21 => (Option.none : Option Jvm.ClassFile.FieldType)
  | 22 => (Option.some (Jvm.ClassFile.FieldType.object "java/lang/String"))
  | 23 => (Option.some Jvm.ClassFile.FieldType.int)
  | 24 => (Option.some Jvm.ClassFile.FieldType.int)
  | 25 => (Option.some Jvm.ClassFile.FieldType.boolean)
  | 26 => (Option.some Jvm.ClassFile.FieldType.int)
  | 27 => (Option.some Jvm.ClassFile.FieldType.int)
  | 28 => (Option.none : Option Jvm.ClassFile.FieldType)
  | 29 => (Option.some (Jvm.ClassFile.FieldType.object "java/lang/String"))
  | 30 => (Option.some Jvm.ClassFile.FieldType.int)
  | 31 => (Option.some Jvm.ClassFile.FieldType.int)
  | 32 => (Option.some Jvm.ClassFile.FieldType.boolean)
  | 33 => (Option.some Jvm.ClassFile.FieldType.int)
  | 34 => (Option.some Jvm.ClassFile.FieldType.int)
  | 35 => (Option.none : Option Jvm.ClassFile.FieldType)
  | 36 => (Option.some Jvm.ClassFile.FieldType.boolean)
  | 37 => (Option.some Jvm.ClassFile.FieldType.int)
  | 38 => (Option.some Jvm.ClassFile.FieldType.boolean)
  | 39 => (Option.none : Option Jvm.ClassFile.FieldType)
  | 40 => (Option.none : Option Jvm.ClassFile.FieldType)
  | 41 => (Option.none : Option Jvm.ClassFile.FieldType)
  | 42 => (Option.some Jvm.ClassFile.FieldType.boolean)
  | 43 => (Option.some Jvm.ClassFile.FieldType.int)
  | 44 => (Option.none : Option Jvm.ClassFile.FieldType)
  | 45 => (Option.some Jvm.ClassFile.FieldType.boolean)
  | 46 => (Option.none : Option Jvm.ClassFile.FieldType)
  | 47 => (Option.some (Jvm.ClassFile.FieldType.object "MoleSecrets$Mole"))
  | 48 => (Option.some Jvm.ClassFile.FieldType.int)
  | 49 => (Option.some Jvm.ClassFile.FieldType.int)
  | 50 => (Option.some Jvm.ClassFile.FieldType.int)
  | 51 => (Option.some Jvm.ClassFile.FieldType.int)
  | 52 => (Option.some Jvm.ClassFile.FieldType.int)
  | 53 => (Option.some Jvm.ClassFile.FieldType.int)
  | 54 => (Option.some Jvm.ClassFile.FieldType.int)
  | 55 => (Option.some Jvm.ClassFile.FieldType.int)
  | 56 => (Option.none : Option Jvm.ClassFile.FieldType)
  | 57 => (Option.none : Option Jvm.ClassFile.FieldType)
  | 58 => (Option.none : Option Jvm.ClassFile.FieldType)
  | 59 => (Option.none : Option Jvm.ClassFile.FieldType)
  | 60 => (Option.none : Option Jvm.ClassFile.FieldType)
  | 61 => (Option.none : Option Jvm.ClassFile.FieldType)
  | 62 => (Option.none : Option Jvm.ClassFile.FieldType)
  | 63 => (Option.some Jvm.ClassFile.FieldType.int)
  | 64 => (Option.none : Option Jvm.ClassFile.FieldType)
  | 65 => (Option.some Jvm.ClassFile.FieldType.int)
  | 66 => (Option.none : Option Jvm.ClassFile.FieldType)
  | 67 => (Option.none : Option Jvm.ClassFile.FieldType)
  | 68 => (Option.some Jvm.ClassFile.FieldType.int)
  | 69 => (Option.some Jvm.ClassFile.FieldType.boolean)
  | 70 => (Option.some Jvm.ClassFile.FieldType.boolean)
  | 71 => (Option.some Jvm.ClassFile.FieldType.boolean)
  | 72 => (Option.some Jvm.ClassFile.FieldType.boolean)
  | 73 => (Option.some Jvm.ClassFile.FieldType.boolean)
  | 74 => (Option.some Jvm.ClassFile.FieldType.boolean)
  | 75 => (Option.none : Option Jvm.ClassFile.FieldType)
  | 76 => (Option.none : Option Jvm.ClassFile.FieldType)
  | 77 => (Option.none : Option Jvm.ClassFile.FieldType)
  | 78 => (Option.some Jvm.ClassFile.FieldType.boolean)
  | 79 => (Option.some Jvm.ClassFile.FieldType.boolean)
  | 80 => (Option.none : Option Jvm.ClassFile.FieldType)
  | 81 => (Option.some Jvm.ClassFile.FieldType.int)
  | 82 => (Option.some Jvm.ClassFile.FieldType.int)
  | 83 => (Option.some Jvm.ClassFile.FieldType.int)
  | 84 => (Option.some Jvm.ClassFile.FieldType.int)
  | 85 => (Option.some Jvm.ClassFile.FieldType.int)
  | 86 => (Option.some Jvm.ClassFile.FieldType.int)
  | 87 => (Option.some Jvm.ClassFile.FieldType.int)
  | 88 => (Option.some Jvm.ClassFile.FieldType.int)
  | 89 => (Option.some Jvm.ClassFile.FieldType.int)
  | 90 => (Option.some Jvm.ClassFile.FieldType.int)
  | 91 => (Option.some Jvm.ClassFile.FieldType.int)
  | 92 => (Option.some Jvm.ClassFile.FieldType.int)
  | 93 => (Option.some Jvm.ClassFile.FieldType.int)
  | 94 => (Option.some Jvm.ClassFile.FieldType.int)
  | 95 => (Option.some Jvm.ClassFile.FieldType.int)
  | 96 => (Option.some Jvm.ClassFile.FieldType.int)
  | 97 => (Option.some Jvm.ClassFile.FieldType.int)
  | 98 => (Option.some Jvm.ClassFile.FieldType.int)
  | 99 => (Option.some Jvm.ClassFile.FieldType.int)
  | 100 => (Option.some Jvm.ClassFile.FieldType.int)
  | 101 => (Option.some Jvm.ClassFile.FieldType.int)
  | 102 => (Option.some Jvm.ClassFile.FieldType.int)
  | 103 => (Option.some Jvm.ClassFile.FieldType.int)
  | 104 => (Option.some Jvm.ClassFile.FieldType.int)
  | 105 => (Option.some Jvm.ClassFile.FieldType.int)
  | 106 => (Option.some Jvm.ClassFile.FieldType.int)
  | 107 => (Option.some Jvm.ClassFile.FieldType.int)
  | 108 => (Option.some Jvm.ClassFile.FieldType.long)
  | 109 => (Option.some Jvm.ClassFile.FieldType.int)
  | 110 => (Option.some Jvm.ClassFile.FieldType.int)
  | 111 => (Option.some Jvm.ClassFile.FieldType.int)
  | 112 => (Option.some Jvm.ClassFile.FieldType.int)
  | 113 => (Option.some Jvm.ClassFile.FieldType.int)
  | 114 => (Option.some Jvm.ClassFile.FieldType.int)
  | 115 => (Option.some Jvm.ClassFile.FieldType.int)
  | 116 => (Option.some Jvm.ClassFile.FieldType.int)
  | 117 => (Option.some Jvm.ClassFile.FieldType.int)
  | 118 => (Option.some Jvm.ClassFile.FieldType.boolean)
  | 119 => (Option.some Jvm.ClassFile.FieldType.boolean)
  | 120 => (Option.some Jvm.ClassFile.FieldType.boolean)
  | 121 => (Option.some Jvm.ClassFile.FieldType.boolean)
  | 122 => (Option.some Jvm.ClassFile.FieldType.boolean)
  | 123 => (Option.some Jvm.ClassFile.FieldType.boolean)
  | 124 => (Option.some Jvm.ClassFile.FieldType.int)
  | 125 => (Option.some Jvm.ClassFile.FieldType.int)
  | 126 => (Option.some Jvm.ClassFile.FieldType.boolean)
  | 127 => (Option.some Jvm.ClassFile.FieldType.int)
  | 128 => (Option.some Jvm.ClassFile.FieldType.int)
  | 129 => (Option.some Jvm.ClassFile.FieldType.int)
  | 130 => (Option.some Jvm.ClassFile.FieldType.boolean)
  | 131 => (Option.none : Option Jvm.ClassFile.FieldType)
  | 132 => (Option.some Jvm.ClassFile.FieldType.boolean)
  | 133 => (Option.some Jvm.ClassFile.FieldType.int)
  | 134 => (Option.none : Option Jvm.ClassFile.FieldType)
  | 135 => (Option.none : Option Jvm.ClassFile.FieldType)
  | 136 => (Option.none : Option Jvm.ClassFile.FieldType)
  | 137 => (Option.some Jvm.ClassFile.FieldType.int)
  | 138 => (Option.some Jvm.ClassFile.FieldType.int)
  | 139 => (Option.some Jvm.ClassFile.FieldType.int)
  | 140 => (Option.some Jvm.ClassFile.FieldType.int)
  | 141 => (Option.some Jvm.ClassFile.FieldType.int)
  | 142 => (Option.some Jvm.ClassFile.FieldType.boolean)
  | 143 => (Option.some Jvm.ClassFile.FieldType.boolean)
  | 144 => (Option.some Jvm.ClassFile.FieldType.boolean)
  | 145 => (Option.some Jvm.ClassFile.FieldType.boolean)
  | 146 => (Option.some Jvm.ClassFile.FieldType.boolean)
  | 147 => (Option.some Jvm.ClassFile.FieldType.int)
  | 148 => (Option.some Jvm.ClassFile.FieldType.int)
  | 149 => (Option.some Jvm.ClassFile.FieldType.int)
  | 150 => (Option.some Jvm.ClassFile.FieldType.int)
  | 151 => (Option.some Jvm.ClassFile.FieldType.int)
  | 152 => (Option.some Jvm.ClassFile.FieldType.int)
  | 153 => (Option.some Jvm.ClassFile.FieldType.int)
  | 154 => (Option.some Jvm.ClassFile.FieldType.int)
  | 155 => (Option.some Jvm.ClassFile.FieldType.int)
  | 156 => (Option.some Jvm.ClassFile.FieldType.int)
  | 157 => (Option.some Jvm.ClassFile.FieldType.int)
  | 158 => (Option.some Jvm.ClassFile.FieldType.int)
  | 159 => (Option.some Jvm.ClassFile.FieldType.int)
  | 160 => (Option.some Jvm.ClassFile.FieldType.int)
  | 161 => (Option.some Jvm.ClassFile.FieldType.boolean)
  | 162 => (Option.some Jvm.ClassFile.FieldType.int)
  | 163 => (Option.some Jvm.ClassFile.FieldType.int)
  | 164 => (Option.some Jvm.ClassFile.FieldType.int)
  | 165 => (Option.some Jvm.ClassFile.FieldType.int)
  | 166 => (Option.some Jvm.ClassFile.FieldType.int)
  | 167 => (Option.some Jvm.ClassFile.FieldType.int)
  | 168 => (Option.some Jvm.ClassFile.FieldType.int)
  | 169 => (Option.some Jvm.ClassFile.FieldType.int)
  | 170 => (Option.some Jvm.ClassFile.FieldType.boolean)
  | 171 => (Option.some Jvm.ClassFile.FieldType.int)
  | 172 => (Option.some Jvm.ClassFile.FieldType.int)
  | 173 => (Option.none : Option Jvm.ClassFile.FieldType)
  | 174 => (Option.some Jvm.ClassFile.FieldType.int)
  | 175 => (Option.none : Option Jvm.ClassFile.FieldType)
  | 176 => (Option.none : Option Jvm.ClassFile.FieldType)
  | 177 => (Option.none : Option Jvm.ClassFile.FieldType)
  | 178 => (Option.none : Option Jvm.ClassFile.FieldType)
  | 179 => (Option.none : Option Jvm.ClassFile.FieldType)
  | 180 => (Option.none : Option Jvm.ClassFile.FieldType)
  | 181 => (Option.some Jvm.ClassFile.FieldType.int)
  | 182 => (Option.some Jvm.ClassFile.FieldType.boolean)
  | 183 => (Option.some Jvm.ClassFile.FieldType.int)
  | 184 => (Option.some Jvm.ClassFile.FieldType.int)
  | 185 => (Option.some Jvm.ClassFile.FieldType.int)
  | 186 => (Option.some Jvm.ClassFile.FieldType.int)
  | 187 => (Option.some Jvm.ClassFile.FieldType.int)
  | 188 => (Option.some Jvm.ClassFile.FieldType.int)
  | 189 => (Option.some Jvm.ClassFile.FieldType.int)
  | 190 => (Option.some Jvm.ClassFile.FieldType.int)
  | 191 => (Option.some Jvm.ClassFile.FieldType.int)
  | 192 => (Option.some Jvm.ClassFile.FieldType.int)
  | 193 => (Option.some Jvm.ClassFile.FieldType.boolean)
  | 194 => (Option.some Jvm.ClassFile.FieldType.int)
  | 195 => (Option.some Jvm.ClassFile.FieldType.int)
  | 196 => (Option.some Jvm.ClassFile.FieldType.int)
  | 197 => (Option.some Jvm.ClassFile.FieldType.int)
  | 198 => (Option.some Jvm.ClassFile.FieldType.int)
  | 199 => (Option.some Jvm.ClassFile.FieldType.int)
  | 200 => (Option.some Jvm.ClassFile.FieldType.int)
  | 201 => (Option.some Jvm.ClassFile.FieldType.int)
  | 202 => (Option.some Jvm.ClassFile.FieldType.int)
  | 203 => (Option.some Jvm.ClassFile.FieldType.boolean)
  | 204 => (Option.some Jvm.ClassFile.FieldType.boolean)
  | 205 => (Option.none : Option Jvm.ClassFile.FieldType)
  | 206 => (Option.none : Option Jvm.ClassFile.FieldType)
  | 207 => (Option.some Jvm.ClassFile.FieldType.long)
  | 208 => (Option.none : Option Jvm.ClassFile.FieldType)
  | 209 => (Option.some Jvm.ClassFile.FieldType.int)
  | 210 => (Option.none : Option Jvm.ClassFile.FieldType)
  | 211 => (Option.none : Option Jvm.ClassFile.FieldType)
  | 212 => (Option.none : Option Jvm.ClassFile.FieldType)
  | 213 => (Option.none : Option Jvm.ClassFile.FieldType)
  | 214 => (Option.some Jvm.ClassFile.FieldType.int)
  | 215 => (Option.some Jvm.ClassFile.FieldType.boolean)
  | 216 => (Option.some Jvm.ClassFile.FieldType.int)
  | 217 => (Option.some Jvm.ClassFile.FieldType.long)
  | 218 => (Option.some Jvm.ClassFile.FieldType.int)
  | 219 => (Option.some Jvm.ClassFile.FieldType.long)
  | 220 => (Option.some Jvm.ClassFile.FieldType.int)
  | 221 => (Option.some Jvm.ClassFile.FieldType.int)
  | 222 => (Option.some Jvm.ClassFile.FieldType.int)
  | 223 => (Option.some Jvm.ClassFile.FieldType.boolean)
  | 224 => (Option.some Jvm.ClassFile.FieldType.int)
  | 225 => (Option.some Jvm.ClassFile.FieldType.int)
  | 226 => (Option.some Jvm.ClassFile.FieldType.int)
  | 227 => (Option.some Jvm.ClassFile.FieldType.int)
  | 228 => (Option.some Jvm.ClassFile.FieldType.int)
  | 229 => (Option.some Jvm.ClassFile.FieldType.int)
  | 230 => (Option.some Jvm.ClassFile.FieldType.int)
  | 231 => (Option.some Jvm.ClassFile.FieldType.int)
  | 232 => (Option.none : Option Jvm.ClassFile.FieldType)
  | 233 => (Option.none : Option Jvm.ClassFile.FieldType)
  | 500 => (Option.some Jvm.ClassFile.FieldType.int)
  | _ => (Option.some Jvm.ClassFile.FieldType.char)
/-- locals of a method -/
def sv_l : Nat → Nat := fun y => match y with
  | 500 => 1
  | 501 => 2
  | y => (am_pr y).2.1
def sv_o : Nat → Nat := fun y => match y with
  | 0 => 0
  | 1 => 0
  | 2 => 0
  | 3 => 0
  | 4 => 1
  | 5 => 1
  | 6 => 1
  | 7 => 1
  | 8 => 1
  | 9 => 2
  | 10 => 2
  | 11 => 2
  | 12 => 3
  | 13 => 3
  | 14 => 3
  | 15 => 3
  | 16 => 4
  | 17 => 4
  | 18 => 4
  | 19 => 4
  | 20 => 4
  | 21 => 5
  | 22 => 5
  | 23 => 5
  | 24 => 5
  | 25 => 5
  | 26 => 5
  | 27 => 5
  | 28 => 6
  | 29 => 6
  | 30 => 6
  | 31 => 6
  | 32 => 6
  | 33 => 6
  | 34 => 6
  | 35 => 7
  | 36 => 7
  | 37 => 7
  | 38 => 7
  | 39 => 7
  | 40 => 8
  | 41 => 8
  | 42 => 8
  | 43 => 8
  | 44 => 8
  | 45 => 8
  | 46 => 8
  | 47 => 8
  | 48 => 8
  | 49 => 8
  | 50 => 8
  | 51 => 8
  | 52 => 8
  | 53 => 8
  | 54 => 8
  | 55 => 8
  | 56 => 8
  | 57 => 8
  | 58 => 8
  | 59 => 8
  | 60 => 8
  | 61 => 8
  | 62 => 8
  | 63 => 8
  | 64 => 8
  | 65 => 8
  | 66 => 9
  | 67 => 9
  | 68 => 9
  | 69 => 9
  | 70 => 9
  | 71 => 9
  | 72 => 9
  | 73 => 9
  | 74 => 9
  | 75 => 9
  | 76 => 9
  | 77 => 9
  | 78 => 9
  | 79 => 9
  | 80 => 10
  | 81 => 10
  | 82 => 10
  | 83 => 10
  | 84 => 10
  | 85 => 10
  | 86 => 10
  | 87 => 10
  | 88 => 10
  | 89 => 10
  | 90 => 10
  | 91 => 10
  | 92 => 10
  | 93 => 10
  | 94 => 10
  | 95 => 10
  | 96 => 10
  | 97 => 10
  | 98 => 10
  | 99 => 10
  | 100 => 10
  | 101 => 10
  | 102 => 10
  | 103 => 10
  | 104 => 10
  | 105 => 10
  | 106 => 10
  | 107 => 10
  | 108 => 10
  | 109 => 10
  | 110 => 10
  | 111 => 10
  | 112 => 10
  | 113 => 10
  | 114 => 10
  | 115 => 10
  | 116 => 10
  | 117 => 10
  | 118 => 10
  | 119 => 10
  | 120 => 10
  | 121 => 10
  | 122 => 10
  | 123 => 10
  | 124 => 10
  | 125 => 10
  | 126 => 10
  | 127 => 10
  | 128 => 10
  | 129 => 10
  | 130 => 10
  | 131 => 11
  | 132 => 11
  | 133 => 11
  | 134 => 11
  | 135 => 11
  | 136 => 11
  | 137 => 11
  | 138 => 11
  | 139 => 11
  | 140 => 11
  | 141 => 11
  | 142 => 11
  | 143 => 11
  | 144 => 11
  | 145 => 11
  | 146 => 11
  | 147 => 11
  | 148 => 11
  | 149 => 11
  | 150 => 11
  | 151 => 11
  | 152 => 11
  | 153 => 11
  | 154 => 11
  | 155 => 11
  | 156 => 11
  | 157 => 11
  | 158 => 11
  | 159 => 11
  | 160 => 11
  | 161 => 11
  | 162 => 11
  | 163 => 11
  | 164 => 11
  | 165 => 11
  | 166 => 11
  | 167 => 11
  | 168 => 11
  | 169 => 11
  | 170 => 11
  | 171 => 11
  | 172 => 11
  | 173 => 11
  | 174 => 11
  | 175 => 11
  | 176 => 11
  | 177 => 11
  | 178 => 11
  | 179 => 11
  | 180 => 11
  | 181 => 11
  | 182 => 11
  | 183 => 11
  | 184 => 11
  | 185 => 11
  | 186 => 11
  | 187 => 11
  | 188 => 11
  | 189 => 11
  | 190 => 11
  | 191 => 11
  | 192 => 11
  | 193 => 11
  | 194 => 11
  | 195 => 11
  | 196 => 11
  | 197 => 11
  | 198 => 11
  | 199 => 11
  | 200 => 11
  | 201 => 11
  | 202 => 11
  | 203 => 11
  | 204 => 11
  | 205 => 11
  | 206 => 11
  | 207 => 11
  | 208 => 11
  | 209 => 11
  | 210 => 11
  | 211 => 11
  | 212 => 11
  | 213 => 11
  | 214 => 11
  | 215 => 11
  | 216 => 11
  | 217 => 11
  | 218 => 11
  | 219 => 11
  | 220 => 11
  | 221 => 11
  | 222 => 11
  | 223 => 11
  | 224 => 11
  | 225 => 11
  | 226 => 11
  | 227 => 11
  | 228 => 11
  | 229 => 11
  | 230 => 11
  | 231 => 14
  | 232 => 13
  | 233 => 13
  | _ => 16
/-- what a method answers: 0 int, 1 a truth value, 2 long, 3 a reference, 4 nothing -/
def sv_k : Nat → Nat := fun y => match y with
  | 0 => 4
  | 1 => 3
  | 2 => 0
  | 3 => 0
  | 4 => 4
  | 5 => 3
  | 6 => 0
  | 7 => 1
  | 8 => 0
  | 9 => 4
  | 10 => 0
  | 11 => 0
  | 12 => 4
  | 13 => 3
  | 14 => 0
  | 15 => 0
  | 16 => 4
  | 17 => 3
  | 18 => 0
  | 19 => 1
  | 20 => 0
  | 21 => 4
  | 22 => 3
  | 23 => 0
  | 24 => 0
  | 25 => 1
  | 26 => 0
  | 27 => 0
  | 28 => 4
  | 29 => 3
  | 30 => 0
  | 31 => 0
  | 32 => 1
  | 33 => 0
  | 34 => 0
  | 35 => 4
  | 36 => 1
  | 37 => 0
  | 38 => 1
  | 39 => 4
  | 40 => 4
  | 41 => 4
  | 42 => 1
  | 43 => 0
  | 44 => 4
  | 45 => 1
  | 46 => 4
  | 47 => 3
  | 48 => 0
  | 49 => 0
  | 50 => 0
  | 51 => 0
  | 52 => 0
  | 53 => 0
  | 54 => 0
  | 55 => 0
  | 56 => 4
  | 57 => 4
  | 58 => 4
  | 59 => 4
  | 60 => 4
  | 61 => 4
  | 62 => 4
  | 63 => 0
  | 64 => 4
  | 65 => 0
  | 66 => 4
  | 67 => 4
  | 68 => 0
  | 69 => 1
  | 70 => 1
  | 71 => 1
  | 72 => 1
  | 73 => 1
  | 74 => 1
  | 75 => 4
  | 76 => 4
  | 77 => 4
  | 78 => 1
  | 79 => 1
  | 80 => 4
  | 81 => 0
  | 82 => 0
  | 83 => 0
  | 84 => 0
  | 85 => 0
  | 86 => 0
  | 87 => 0
  | 88 => 0
  | 89 => 0
  | 90 => 0
  | 91 => 0
  | 92 => 0
  | 93 => 0
  | 94 => 0
  | 95 => 0
  | 96 => 0
  | 97 => 0
  | 98 => 0
  | 99 => 0
  | 100 => 0
  | 101 => 0
  | 102 => 0
  | 103 => 0
  | 104 => 0
  | 105 => 0
  | 106 => 0
  | 107 => 0
  | 108 => 2
  | 109 => 0
  | 110 => 0
  | 111 => 0
  | 112 => 0
  | 113 => 0
  | 114 => 0
  | 115 => 0
  | 116 => 0
  | 117 => 0
  | 118 => 1
  | 119 => 1
  | 120 => 1
  | 121 => 1
  | 122 => 1
  | 123 => 1
  | 124 => 0
  | 125 => 0
  | 126 => 1
  | 127 => 0
  | 128 => 0
  | 129 => 0
  | 130 => 1
  | 131 => 4
  | 132 => 1
  | 133 => 0
  | 134 => 4
  | 135 => 4
  | 136 => 4
  | 137 => 0
  | 138 => 0
  | 139 => 0
  | 140 => 0
  | 141 => 0
  | 142 => 1
  | 143 => 1
  | 144 => 1
  | 145 => 1
  | 146 => 1
  | 147 => 0
  | 148 => 0
  | 149 => 0
  | 150 => 0
  | 151 => 0
  | 152 => 0
  | 153 => 0
  | 154 => 0
  | 155 => 0
  | 156 => 0
  | 157 => 0
  | 158 => 0
  | 159 => 0
  | 160 => 0
  | 161 => 1
  | 162 => 0
  | 163 => 0
  | 164 => 0
  | 165 => 0
  | 166 => 0
  | 167 => 0
  | 168 => 0
  | 169 => 0
  | 170 => 1
  | 171 => 0
  | 172 => 0
  | 173 => 4
  | 174 => 0
  | 175 => 4
  | 176 => 4
  | 177 => 4
  | 178 => 4
  | 179 => 4
  | 180 => 4
  | 181 => 0
  | 182 => 1
  | 183 => 0
  | 184 => 0
  | 185 => 0
  | 186 => 0
  | 187 => 0
  | 188 => 0
  | 189 => 0
  | 190 => 0
  | 191 => 0
  | 192 => 0
  | 193 => 1
  | 194 => 0
  | 195 => 0
  | 196 => 0
  | 197 => 0
  | 198 => 0
  | 199 => 0
  | 200 => 0
  | 201 => 0
  | 202 => 0
  | 203 => 1
  | 204 => 1
  | 205 => 4
  | 206 => 4
  | 207 => 2
  | 208 => 4
  | 209 => 0
  | 210 => 4
  | 211 => 4
  | 212 => 4
  | 213 => 4
  | 214 => 0
  | 215 => 1
  | 216 => 0
  | 217 => 2
  | 218 => 0
  | 219 => 2
  | 220 => 0
  | 221 => 0
  | 222 => 0
  | 223 => 1
  | 224 => 0
  | 225 => 0
  | 226 => 0
  | 227 => 0
  | 228 => 0
  | 229 => 0
  | 230 => 0
  | 231 => 0
  | 232 => 4
  | 233 => 4
  | _ => 0
/-- how many arguments, the object not counted -/
def sv_n : Nat → Nat := fun y => match y with
  | 0 => 0
  | 1 => 0
  | 2 => 2
  | 3 => 0
  | 4 => 0
  | 5 => 0
  | 6 => 0
  | 7 => 1
  | 8 => 0
  | 9 => 0
  | 10 => 1
  | 11 => 0
  | 12 => 0
  | 13 => 0
  | 14 => 2
  | 15 => 0
  | 16 => 0
  | 17 => 0
  | 18 => 2
  | 19 => 1
  | 20 => 0
  | 21 => 0
  | 22 => 0
  | 23 => 2
  | 24 => 0
  | 25 => 1
  | 26 => 0
  | 27 => 0
  | 28 => 0
  | 29 => 0
  | 30 => 2
  | 31 => 0
  | 32 => 1
  | 33 => 0
  | 34 => 0
  | 35 => 0
  | 36 => 0
  | 37 => 2
  | 38 => 2
  | 39 => 2
  | 40 => 1
  | 41 => 1
  | 42 => 0
  | 43 => 3
  | 44 => 2
  | 45 => 1
  | 46 => 2
  | 47 => 1
  | 48 => 1
  | 49 => 1
  | 50 => 1
  | 51 => 0
  | 52 => 0
  | 53 => 2
  | 54 => 2
  | 55 => 3
  | 56 => 2
  | 57 => 1
  | 58 => 1
  | 59 => 1
  | 60 => 1
  | 61 => 1
  | 62 => 2
  | 63 => 1
  | 64 => 1
  | 65 => 1
  | 66 => 0
  | 67 => 2
  | 68 => 1
  | 69 => 1
  | 70 => 1
  | 71 => 1
  | 72 => 2
  | 73 => 1
  | 74 => 1
  | 75 => 0
  | 76 => 0
  | 77 => 0
  | 78 => 1
  | 79 => 1
  | 80 => 0
  | 81 => 3
  | 82 => 2
  | 83 => 2
  | 84 => 1
  | 85 => 1
  | 86 => 3
  | 87 => 2
  | 88 => 2
  | 89 => 3
  | 90 => 2
  | 91 => 2
  | 92 => 1
  | 93 => 3
  | 94 => 2
  | 95 => 1
  | 96 => 1
  | 97 => 2
  | 98 => 2
  | 99 => 2
  | 100 => 1
  | 101 => 1
  | 102 => 1
  | 103 => 1
  | 104 => 2
  | 105 => 0
  | 106 => 0
  | 107 => 3
  | 108 => 3
  | 109 => 5
  | 110 => 1
  | 111 => 2
  | 112 => 2
  | 113 => 0
  | 114 => 0
  | 115 => 0
  | 116 => 1
  | 117 => 1
  | 118 => 3
  | 119 => 1
  | 120 => 1
  | 121 => 1
  | 122 => 1
  | 123 => 1
  | 124 => 1
  | 125 => 1
  | 126 => 2
  | 127 => 2
  | 128 => 2
  | 129 => 1
  | 130 => 2
  | 131 => 0
  | 132 => 3
  | 133 => 1
  | 134 => 0
  | 135 => 0
  | 136 => 0
  | 137 => 1
  | 138 => 2
  | 139 => 2
  | 140 => 2
  | 141 => 2
  | 142 => 1
  | 143 => 1
  | 144 => 1
  | 145 => 1
  | 146 => 1
  | 147 => 2
  | 148 => 0
  | 149 => 0
  | 150 => 1
  | 151 => 0
  | 152 => 3
  | 153 => 1
  | 154 => 2
  | 155 => 2
  | 156 => 2
  | 157 => 1
  | 158 => 1
  | 159 => 1
  | 160 => 1
  | 161 => 1
  | 162 => 1
  | 163 => 1
  | 164 => 3
  | 165 => 3
  | 166 => 2
  | 167 => 2
  | 168 => 3
  | 169 => 2
  | 170 => 2
  | 171 => 2
  | 172 => 1
  | 173 => 2
  | 174 => 2
  | 175 => 1
  | 176 => 1
  | 177 => 1
  | 178 => 1
  | 179 => 0
  | 180 => 1
  | 181 => 1
  | 182 => 1
  | 183 => 2
  | 184 => 1
  | 185 => 1
  | 186 => 3
  | 187 => 2
  | 188 => 3
  | 189 => 2
  | 190 => 1
  | 191 => 1
  | 192 => 2
  | 193 => 1
  | 194 => 2
  | 195 => 2
  | 196 => 1
  | 197 => 1
  | 198 => 1
  | 199 => 1
  | 200 => 2
  | 201 => 0
  | 202 => 1
  | 203 => 1
  | 204 => 1
  | 205 => 0
  | 206 => 1
  | 207 => 0
  | 208 => 2
  | 209 => 0
  | 210 => 1
  | 211 => 0
  | 212 => 0
  | 213 => 0
  | 214 => 0
  | 215 => 1
  | 216 => 3
  | 217 => 2
  | 218 => 1
  | 219 => 3
  | 220 => 5
  | 221 => 1
  | 222 => 2
  | 223 => 2
  | 224 => 2
  | 225 => 0
  | 226 => 0
  | 227 => 0
  | 228 => 0
  | 229 => 1
  | 230 => 1
  | 231 => 1
  | 232 => 2
  | 233 => 2
  | 501 => 1
  | _ => 0
def F_cl (c : Nat) : Prop := vwCl[c]? = some (sv_cn c, sv_cT c, sv_cN c) ∧ (∀ w ∈ u_ws (sv_cn c) (sv_cT c) (sv_cN c), w ∈ lw_tbl ∧ goodWord w = true) ∧ (∀ k, k < sv_cN c → parseFieldDescriptor (sv_cT c k).2.2.1 = some (sv_cy c k)) ∧ (∀ a, a < sv_cN c → ∀ b, b < sv_cN c → a ≠ b → (sv_cT c a).2.1 ≠ (sv_cT c b).2.1) ∧ Cond.instantiable (sv_cn c) (sv_cN c) ∈ lw_tbl ∧ Cond.initialized (sv_cn c) ∈ lw_tbl ∧ (∀ j, j < sv_cN c → defaultValue (sv_cy c j) = vp_V (am_def c) j) ∧ (am_def c).length = sv_cN c
theorem f_cl0 : F_cl 0 := ⟨rfl, (show ∀ w ∈ ([] : List Cond), w ∈ lw_tbl ∧ goodWord w = true from fun _ h => absurd h List.not_mem_nil), tyX0_ok, nmX0, tb_1 (List.mem_of_getElem? (i := 45) rfl), tb_1 (List.mem_of_getElem? (i := 4) rfl), by decide +kernel, rfl⟩
theorem f_cl1 : F_cl 1 := ⟨rfl, (show ∀ w ∈ ([] : List Cond), w ∈ lw_tbl ∧ goodWord w = true from fun _ h => absurd h List.not_mem_nil), tyX1_ok, nmX1, tb_1 (List.mem_of_getElem? (i := 38) rfl), tb_1 (List.mem_of_getElem? (i := 3) rfl), by decide +kernel, rfl⟩
theorem f_cl2 : F_cl 2 := ⟨rfl, (show ∀ w ∈ ([u_lay RX2 TX2 0] : List Cond), w ∈ lw_tbl ∧ goodWord w = true from List.forall_mem_cons.mpr ⟨⟨tb_1 (List.mem_of_getElem? (i := 190) rfl), rfl⟩, fun _ h => absurd h List.not_mem_nil⟩), tyX2_ok, nmX2, tb_1 (List.mem_of_getElem? (i := 183) rfl), tb_1 (List.mem_of_getElem? (i := 12) rfl), by decide +kernel, rfl⟩
theorem f_cl3 : F_cl 3 := ⟨rfl, (show ∀ w ∈ ([] : List Cond), w ∈ lw_tbl ∧ goodWord w = true from fun _ h => absurd h List.not_mem_nil), tyX3_ok, nmX3, tb_1 (List.mem_of_getElem? (i := 66) rfl), tb_1 (List.mem_of_getElem? (i := 7) rfl), by decide +kernel, rfl⟩
theorem f_cl4 : F_cl 4 := ⟨rfl, (show ∀ w ∈ ([] : List Cond), w ∈ lw_tbl ∧ goodWord w = true from fun _ h => absurd h List.not_mem_nil), tyX4_ok, nmX4, tb_1 (List.mem_of_getElem? (i := 59) rfl), tb_1 (List.mem_of_getElem? (i := 6) rfl), by decide +kernel, rfl⟩
theorem f_cl5 : F_cl 5 := ⟨rfl, (show ∀ w ∈ ([] : List Cond), w ∈ lw_tbl ∧ goodWord w = true from fun _ h => absurd h List.not_mem_nil), tyX5_ok, nmX5, tb_1 (List.mem_of_getElem? (i := 31) rfl), tb_1 (List.mem_of_getElem? (i := 2) rfl), by decide +kernel, rfl⟩
theorem f_cl6 : F_cl 6 := ⟨rfl, (show ∀ w ∈ ([] : List Cond), w ∈ lw_tbl ∧ goodWord w = true from fun _ h => absurd h List.not_mem_nil), tyX6_ok, nmX6, tb_1 (List.mem_of_getElem? (i := 52) rfl), tb_1 (List.mem_of_getElem? (i := 5) rfl), by decide +kernel, rfl⟩
theorem f_cl7 : F_cl 7 := ⟨rfl, (show ∀ w ∈ ([u_lay RX7 TX7 0, u_lay RX7 TX7 1, u_lay RX7 TX7 2] : List Cond), w ∈ lw_tbl ∧ goodWord w = true from List.forall_mem_cons.mpr ⟨⟨tb_1 (List.mem_of_getElem? (i := 174) rfl), rfl⟩, List.forall_mem_cons.mpr ⟨⟨tb_1 (List.mem_of_getElem? (i := 176) rfl), rfl⟩, List.forall_mem_cons.mpr ⟨⟨tb_1 (List.mem_of_getElem? (i := 178) rfl), rfl⟩, fun _ h => absurd h List.not_mem_nil⟩⟩⟩), tyX7_ok, nmX7, tb_1 (List.mem_of_getElem? (i := 163) rfl), tb_1 (List.mem_of_getElem? (i := 11) rfl), by decide +kernel, rfl⟩
theorem f_cl8 : F_cl 8 := ⟨rfl, (show ∀ w ∈ ([u_lay RX8 TX8 0, u_lay RX8 TX8 1, u_lay RX8 TX8 2, u_lay RX8 TX8 3, u_lay RX8 TX8 4, u_lay RX8 TX8 5, u_lay RX8 TX8 6, u_lay RX8 TX8 7, u_lay RX8 TX8 8, u_lay RX8 TX8 9, u_lay RX8 TX8 10, u_lay RX8 TX8 11, u_lay RX8 TX8 12] : List Cond), w ∈ lw_tbl ∧ goodWord w = true from List.forall_mem_cons.mpr ⟨⟨tb_1 (List.mem_of_getElem? (i := 107) rfl), rfl⟩, List.forall_mem_cons.mpr ⟨⟨tb_1 (List.mem_of_getElem? (i := 109) rfl), rfl⟩, List.forall_mem_cons.mpr ⟨⟨tb_1 (List.mem_of_getElem? (i := 111) rfl), rfl⟩, List.forall_mem_cons.mpr ⟨⟨tb_1 (List.mem_of_getElem? (i := 113) rfl), rfl⟩, List.forall_mem_cons.mpr ⟨⟨tb_1 (List.mem_of_getElem? (i := 115) rfl), rfl⟩, List.forall_mem_cons.mpr ⟨⟨tb_1 (List.mem_of_getElem? (i := 117) rfl), rfl⟩, List.forall_mem_cons.mpr ⟨⟨tb_1 (List.mem_of_getElem? (i := 119) rfl), rfl⟩, List.forall_mem_cons.mpr ⟨⟨tb_1 (List.mem_of_getElem? (i := 121) rfl), rfl⟩, List.forall_mem_cons.mpr ⟨⟨tb_1 (List.mem_of_getElem? (i := 123) rfl), rfl⟩, List.forall_mem_cons.mpr ⟨⟨tb_1 (List.mem_of_getElem? (i := 125) rfl), rfl⟩, List.forall_mem_cons.mpr ⟨⟨tb_1 (List.mem_of_getElem? (i := 127) rfl), rfl⟩, List.forall_mem_cons.mpr ⟨⟨tb_1 (List.mem_of_getElem? (i := 129) rfl), rfl⟩, List.forall_mem_cons.mpr ⟨⟨tb_1 (List.mem_of_getElem? (i := 131) rfl), rfl⟩, fun _ h => absurd h List.not_mem_nil⟩⟩⟩⟩⟩⟩⟩⟩⟩⟩⟩⟩⟩), tyX8_ok, nmX8, tb_1 (List.mem_of_getElem? (i := 73) rfl), tb_1 (List.mem_of_getElem? (i := 8) rfl), by decide +kernel, rfl⟩
theorem f_cl9 : F_cl 9 := ⟨rfl, (show ∀ w ∈ ([u_lay RX9 TX9 0, u_lay RX9 TX9 1, u_lay RX9 TX9 2, u_lay RX9 TX9 3, u_lay RX9 TX9 4, u_lay RX9 TX9 5] : List Cond), w ∈ lw_tbl ∧ goodWord w = true from List.forall_mem_cons.mpr ⟨⟨tb_1 (List.mem_of_getElem? (i := 148) rfl), rfl⟩, List.forall_mem_cons.mpr ⟨⟨tb_1 (List.mem_of_getElem? (i := 150) rfl), rfl⟩, List.forall_mem_cons.mpr ⟨⟨tb_1 (List.mem_of_getElem? (i := 152) rfl), rfl⟩, List.forall_mem_cons.mpr ⟨⟨tb_1 (List.mem_of_getElem? (i := 154) rfl), rfl⟩, List.forall_mem_cons.mpr ⟨⟨tb_1 (List.mem_of_getElem? (i := 156) rfl), rfl⟩, List.forall_mem_cons.mpr ⟨⟨tb_1 (List.mem_of_getElem? (i := 158) rfl), rfl⟩, fun _ h => absurd h List.not_mem_nil⟩⟩⟩⟩⟩⟩), tyX9_ok, nmX9, tb_1 (List.mem_of_getElem? (i := 136) rfl), tb_1 (List.mem_of_getElem? (i := 10) rfl), by decide +kernel, rfl⟩
theorem f_cl10 : F_cl 10 := ⟨rfl, (show ∀ w ∈ ([u_lay RX10 TX10 0, u_lay RX10 TX10 1, u_lay RX10 TX10 2, u_lay RX10 TX10 3, u_lay RX10 TX10 4, u_lay RX10 TX10 5, u_lay RX10 TX10 6] : List Cond), w ∈ lw_tbl ∧ goodWord w = true from List.forall_mem_cons.mpr ⟨⟨tb_1 (List.mem_of_getElem? (i := 200) rfl), rfl⟩, List.forall_mem_cons.mpr ⟨⟨tb_1 (List.mem_of_getElem? (i := 202) rfl), rfl⟩, List.forall_mem_cons.mpr ⟨⟨tb_1 (List.mem_of_getElem? (i := 204) rfl), rfl⟩, List.forall_mem_cons.mpr ⟨⟨tb_1 (List.mem_of_getElem? (i := 206) rfl), rfl⟩, List.forall_mem_cons.mpr ⟨⟨tb_1 (List.mem_of_getElem? (i := 208) rfl), rfl⟩, List.forall_mem_cons.mpr ⟨⟨tb_1 (List.mem_of_getElem? (i := 210) rfl), rfl⟩, List.forall_mem_cons.mpr ⟨⟨tb_1 (List.mem_of_getElem? (i := 212) rfl), rfl⟩, fun _ h => absurd h List.not_mem_nil⟩⟩⟩⟩⟩⟩⟩), tyX10_ok, nmX10, tb_1 (List.mem_of_getElem? (i := 22) rfl), tb_1 (List.mem_of_getElem? (i := 1) rfl), by decide +kernel, rfl⟩
theorem f_cl11 : F_cl 11 := ⟨rfl, (show ∀ w ∈ ([u_lay RX11 TX11 0, u_lay RX11 TX11 1, u_lay RX11 TX11 2, u_lay RX11 TX11 3, u_lay RX11 TX11 4, u_lay RX11 TX11 5, u_lay RX11 TX11 6, u_lay RX11 TX11 7, u_lay RX11 TX11 8, u_lay RX11 TX11 9, u_lay RX11 TX11 10, u_lay RX11 TX11 11, u_lay RX11 TX11 12, u_lay RX11 TX11 13, u_lay RX11 TX11 14, u_lay RX11 TX11 15, u_lay RX11 TX11 16] : List Cond), w ∈ lw_tbl ∧ goodWord w = true from List.forall_mem_cons.mpr ⟨⟨tb_4 (List.mem_of_getElem? (i := 92) rfl), rfl⟩, List.forall_mem_cons.mpr ⟨⟨tb_4 (List.mem_of_getElem? (i := 94) rfl), rfl⟩, List.forall_mem_cons.mpr ⟨⟨tb_4 (List.mem_of_getElem? (i := 96) rfl), rfl⟩, List.forall_mem_cons.mpr ⟨⟨tb_4 (List.mem_of_getElem? (i := 98) rfl), rfl⟩, List.forall_mem_cons.mpr ⟨⟨tb_4 (List.mem_of_getElem? (i := 100) rfl), rfl⟩, List.forall_mem_cons.mpr ⟨⟨tb_4 (List.mem_of_getElem? (i := 102) rfl), rfl⟩, List.forall_mem_cons.mpr ⟨⟨tb_4 (List.mem_of_getElem? (i := 104) rfl), rfl⟩, List.forall_mem_cons.mpr ⟨⟨tb_4 (List.mem_of_getElem? (i := 106) rfl), rfl⟩, List.forall_mem_cons.mpr ⟨⟨tb_4 (List.mem_of_getElem? (i := 108) rfl), rfl⟩, List.forall_mem_cons.mpr ⟨⟨tb_4 (List.mem_of_getElem? (i := 110) rfl), rfl⟩, List.forall_mem_cons.mpr ⟨⟨tb_4 (List.mem_of_getElem? (i := 112) rfl), rfl⟩, List.forall_mem_cons.mpr ⟨⟨tb_4 (List.mem_of_getElem? (i := 114) rfl), rfl⟩, List.forall_mem_cons.mpr ⟨⟨tb_4 (List.mem_of_getElem? (i := 116) rfl), rfl⟩, List.forall_mem_cons.mpr ⟨⟨tb_4 (List.mem_of_getElem? (i := 118) rfl), rfl⟩, List.forall_mem_cons.mpr ⟨⟨tb_4 (List.mem_of_getElem? (i := 120) rfl), rfl⟩, List.forall_mem_cons.mpr ⟨⟨tb_4 (List.mem_of_getElem? (i := 122) rfl), rfl⟩, List.forall_mem_cons.mpr ⟨⟨tb_4 (List.mem_of_getElem? (i := 124) rfl), rfl⟩, fun _ h => absurd h List.not_mem_nil⟩⟩⟩⟩⟩⟩⟩⟩⟩⟩⟩⟩⟩⟩⟩⟩⟩), tyX11_ok, nmX11, tb_4 (List.mem_of_getElem? (i := 70) rfl), tb_1 (List.mem_of_getElem? (i := 13) rfl), by decide +kernel, rfl⟩
theorem f_cl : ∀ c ∈ [0, 1, 2, 3, 4, 5, 6, 7, 8, 9, 10, 11], F_cl c := List.forall_mem_cons.mpr ⟨f_cl0, List.forall_mem_cons.mpr ⟨f_cl1, List.forall_mem_cons.mpr ⟨f_cl2, List.forall_mem_cons.mpr ⟨f_cl3, List.forall_mem_cons.mpr ⟨f_cl4, List.forall_mem_cons.mpr ⟨f_cl5, List.forall_mem_cons.mpr ⟨f_cl6, List.forall_mem_cons.mpr ⟨f_cl7, List.forall_mem_cons.mpr ⟨f_cl8, List.forall_mem_cons.mpr ⟨f_cl9, List.forall_mem_cons.mpr ⟨f_cl10, List.forall_mem_cons.mpr ⟨f_cl11, fun _ h => absurd h List.not_mem_nil⟩⟩⟩⟩⟩⟩⟩⟩⟩⟩⟩⟩
def F_me (y : Nat) : Prop := Cond.code (sv_y y) (sv_c y) (sv_l y) (sv_r y) ∈ lw_tbl ∧ (sv_y y).cls = sv_cn (sv_o y) ∧ Cond.initialized (sv_cn (sv_o y)) ∈ lw_tbl ∧ (parseMethodDescriptor (sv_y y).desc).map (fun d => d.parameters.length) = some (sv_n y)
theorem f_me0 : F_me 0 := ⟨tb_1 (List.mem_of_getElem? (i := 48) rfl), rfl, tb_1 (List.mem_of_getElem? (i := 4) rfl), by decide +kernel⟩
theorem f_me1 : F_me 1 := ⟨tb_3 (List.mem_of_getElem? (i := 200) rfl), rfl, tb_1 (List.mem_of_getElem? (i := 4) rfl), by decide +kernel⟩
theorem f_me2 : F_me 2 := ⟨tb_2 (List.mem_of_getElem? (i := 84) rfl), rfl, tb_1 (List.mem_of_getElem? (i := 4) rfl), by decide +kernel⟩
theorem f_me3 : F_me 3 := ⟨tb_2 (List.mem_of_getElem? (i := 157) rfl), rfl, tb_1 (List.mem_of_getElem? (i := 4) rfl), by decide +kernel⟩
theorem f_me4 : F_me 4 := ⟨tb_1 (List.mem_of_getElem? (i := 41) rfl), rfl, tb_1 (List.mem_of_getElem? (i := 3) rfl), by decide +kernel⟩
theorem f_me5 : F_me 5 := ⟨tb_3 (List.mem_of_getElem? (i := 204) rfl), rfl, tb_1 (List.mem_of_getElem? (i := 3) rfl), by decide +kernel⟩
theorem f_me6 : F_me 6 := ⟨tb_2 (List.mem_of_getElem? (i := 109) rfl), rfl, tb_1 (List.mem_of_getElem? (i := 3) rfl), by decide +kernel⟩
theorem f_me7 : F_me 7 := ⟨tb_2 (List.mem_of_getElem? (i := 123) rfl), rfl, tb_1 (List.mem_of_getElem? (i := 3) rfl), by decide +kernel⟩
theorem f_me8 : F_me 8 := ⟨tb_2 (List.mem_of_getElem? (i := 144) rfl), rfl, tb_1 (List.mem_of_getElem? (i := 3) rfl), by decide +kernel⟩
theorem f_me9 : F_me 9 := ⟨tb_1 (List.mem_of_getElem? (i := 186) rfl), rfl, tb_1 (List.mem_of_getElem? (i := 12) rfl), by decide +kernel⟩
theorem f_me10 : F_me 10 := ⟨tb_1 (List.mem_of_getElem? (i := 229) rfl), rfl, tb_1 (List.mem_of_getElem? (i := 12) rfl), by decide +kernel⟩
theorem f_me11 : F_me 11 := ⟨tb_4 (List.mem_of_getElem? (i := 68) rfl), rfl, tb_1 (List.mem_of_getElem? (i := 12) rfl), by decide +kernel⟩
theorem f_me12 : F_me 12 := ⟨tb_1 (List.mem_of_getElem? (i := 69) rfl), rfl, tb_1 (List.mem_of_getElem? (i := 7) rfl), by decide +kernel⟩
theorem f_me13 : F_me 13 := ⟨tb_3 (List.mem_of_getElem? (i := 208) rfl), rfl, tb_1 (List.mem_of_getElem? (i := 7) rfl), by decide +kernel⟩
theorem f_me14 : F_me 14 := ⟨tb_2 (List.mem_of_getElem? (i := 89) rfl), rfl, tb_1 (List.mem_of_getElem? (i := 7) rfl), by decide +kernel⟩
theorem f_me15 : F_me 15 := ⟨tb_2 (List.mem_of_getElem? (i := 161) rfl), rfl, tb_1 (List.mem_of_getElem? (i := 7) rfl), by decide +kernel⟩
theorem f_me16 : F_me 16 := ⟨tb_1 (List.mem_of_getElem? (i := 62) rfl), rfl, tb_1 (List.mem_of_getElem? (i := 6) rfl), by decide +kernel⟩
theorem f_me17 : F_me 17 := ⟨tb_3 (List.mem_of_getElem? (i := 212) rfl), rfl, tb_1 (List.mem_of_getElem? (i := 6) rfl), by decide +kernel⟩
theorem f_me18 : F_me 18 := ⟨tb_2 (List.mem_of_getElem? (i := 93) rfl), rfl, tb_1 (List.mem_of_getElem? (i := 6) rfl), by decide +kernel⟩
theorem f_me19 : F_me 19 := ⟨tb_2 (List.mem_of_getElem? (i := 127) rfl), rfl, tb_1 (List.mem_of_getElem? (i := 6) rfl), by decide +kernel⟩
theorem f_me20 : F_me 20 := ⟨tb_2 (List.mem_of_getElem? (i := 165) rfl), rfl, tb_1 (List.mem_of_getElem? (i := 6) rfl), by decide +kernel⟩
theorem f_me21 : F_me 21 := ⟨tb_1 (List.mem_of_getElem? (i := 34) rfl), rfl, tb_1 (List.mem_of_getElem? (i := 2) rfl), by decide +kernel⟩
theorem f_me22 : F_me 22 := ⟨tb_3 (List.mem_of_getElem? (i := 218) rfl), rfl, tb_1 (List.mem_of_getElem? (i := 2) rfl), by decide +kernel⟩
theorem f_me23 : F_me 23 := ⟨tb_2 (List.mem_of_getElem? (i := 100) rfl), rfl, tb_1 (List.mem_of_getElem? (i := 2) rfl), by decide +kernel⟩
theorem f_me24 : F_me 24 := ⟨tb_2 (List.mem_of_getElem? (i := 115) rfl), rfl, tb_1 (List.mem_of_getElem? (i := 2) rfl), by decide +kernel⟩
theorem f_me25 : F_me 25 := ⟨tb_2 (List.mem_of_getElem? (i := 132) rfl), rfl, tb_1 (List.mem_of_getElem? (i := 2) rfl), by decide +kernel⟩
theorem f_me26 : F_me 26 := ⟨tb_2 (List.mem_of_getElem? (i := 150) rfl), rfl, tb_1 (List.mem_of_getElem? (i := 2) rfl), by decide +kernel⟩
theorem f_me27 : F_me 27 := ⟨tb_2 (List.mem_of_getElem? (i := 172) rfl), rfl, tb_1 (List.mem_of_getElem? (i := 2) rfl), by decide +kernel⟩
theorem f_me28 : F_me 28 := ⟨tb_1 (List.mem_of_getElem? (i := 55) rfl), rfl, tb_1 (List.mem_of_getElem? (i := 5) rfl), by decide +kernel⟩
theorem f_me29 : F_me 29 := ⟨tb_3 (List.mem_of_getElem? (i := 216) rfl), rfl, tb_1 (List.mem_of_getElem? (i := 5) rfl), by decide +kernel⟩
theorem f_me30 : F_me 30 := ⟨tb_2 (List.mem_of_getElem? (i := 99) rfl), rfl, tb_1 (List.mem_of_getElem? (i := 5) rfl), by decide +kernel⟩
theorem f_me31 : F_me 31 := ⟨tb_2 (List.mem_of_getElem? (i := 114) rfl), rfl, tb_1 (List.mem_of_getElem? (i := 5) rfl), by decide +kernel⟩
theorem f_me32 : F_me 32 := ⟨tb_2 (List.mem_of_getElem? (i := 131) rfl), rfl, tb_1 (List.mem_of_getElem? (i := 5) rfl), by decide +kernel⟩
theorem f_me33 : F_me 33 := ⟨tb_2 (List.mem_of_getElem? (i := 149) rfl), rfl, tb_1 (List.mem_of_getElem? (i := 5) rfl), by decide +kernel⟩
theorem f_me34 : F_me 34 := ⟨tb_2 (List.mem_of_getElem? (i := 171) rfl), rfl, tb_1 (List.mem_of_getElem? (i := 5) rfl), by decide +kernel⟩
theorem f_me35 : F_me 35 := ⟨tb_1 (List.mem_of_getElem? (i := 166) rfl), rfl, tb_1 (List.mem_of_getElem? (i := 11) rfl), by decide +kernel⟩
theorem f_me36 : F_me 36 := ⟨tb_4 (List.mem_of_getElem? (i := 9) rfl), rfl, tb_1 (List.mem_of_getElem? (i := 11) rfl), by decide +kernel⟩
theorem f_me37 : F_me 37 := ⟨tb_3 (List.mem_of_getElem? (i := 238) rfl), rfl, tb_1 (List.mem_of_getElem? (i := 11) rfl), by decide +kernel⟩
theorem f_me38 : F_me 38 := ⟨tb_4 (List.mem_of_getElem? (i := 22) rfl), rfl, tb_1 (List.mem_of_getElem? (i := 11) rfl), by decide +kernel⟩
theorem f_me39 : F_me 39 := ⟨tb_4 (List.mem_of_getElem? (i := 14) rfl), rfl, tb_1 (List.mem_of_getElem? (i := 11) rfl), by decide +kernel⟩
theorem f_me40 : F_me 40 := ⟨tb_1 (List.mem_of_getElem? (i := 76) rfl), rfl, tb_1 (List.mem_of_getElem? (i := 8) rfl), by decide +kernel⟩
theorem f_me41 : F_me 41 := ⟨tb_3 (List.mem_of_getElem? (i := 15) rfl), rfl, tb_1 (List.mem_of_getElem? (i := 8) rfl), by decide +kernel⟩
theorem f_me42 : F_me 42 := ⟨tb_2 (List.mem_of_getElem? (i := 52) rfl), rfl, tb_1 (List.mem_of_getElem? (i := 8) rfl), by decide +kernel⟩
theorem f_me43 : F_me 43 := ⟨tb_2 (List.mem_of_getElem? (i := 57) rfl), rfl, tb_1 (List.mem_of_getElem? (i := 8) rfl), by decide +kernel⟩
theorem f_me44 : F_me 44 := ⟨tb_2 (List.mem_of_getElem? (i := 10) rfl), rfl, tb_1 (List.mem_of_getElem? (i := 8) rfl), by decide +kernel⟩
theorem f_me45 : F_me 45 := ⟨tb_1 (List.mem_of_getElem? (i := 238) rfl), rfl, tb_1 (List.mem_of_getElem? (i := 8) rfl), by decide +kernel⟩
theorem f_me46 : F_me 46 := ⟨tb_2 (List.mem_of_getElem? (i := 25) rfl), rfl, tb_1 (List.mem_of_getElem? (i := 8) rfl), by decide +kernel⟩
theorem f_me47 : F_me 47 := ⟨tb_2 (List.mem_of_getElem? (i := 77) rfl), rfl, tb_1 (List.mem_of_getElem? (i := 8) rfl), by decide +kernel⟩
theorem f_me48 : F_me 48 := ⟨tb_2 (List.mem_of_getElem? (i := 73) rfl), rfl, tb_1 (List.mem_of_getElem? (i := 8) rfl), by decide +kernel⟩
theorem f_me49 : F_me 49 := ⟨tb_2 (List.mem_of_getElem? (i := 2) rfl), rfl, tb_1 (List.mem_of_getElem? (i := 8) rfl), by decide +kernel⟩
theorem f_me50 : F_me 50 := ⟨tb_2 (List.mem_of_getElem? (i := 6) rfl), rfl, tb_1 (List.mem_of_getElem? (i := 8) rfl), by decide +kernel⟩
theorem f_me51 : F_me 51 := ⟨tb_2 (List.mem_of_getElem? (i := 37) rfl), rfl, tb_1 (List.mem_of_getElem? (i := 8) rfl), by decide +kernel⟩
theorem f_me52 : F_me 52 := ⟨tb_2 (List.mem_of_getElem? (i := 41) rfl), rfl, tb_1 (List.mem_of_getElem? (i := 8) rfl), by decide +kernel⟩
theorem f_me53 : F_me 53 := ⟨tb_3 (List.mem_of_getElem? (i := 30) rfl), rfl, tb_1 (List.mem_of_getElem? (i := 8) rfl), by decide +kernel⟩
theorem f_me54 : F_me 54 := ⟨tb_3 (List.mem_of_getElem? (i := 43) rfl), rfl, tb_1 (List.mem_of_getElem? (i := 8) rfl), by decide +kernel⟩
theorem f_me55 : F_me 55 := ⟨tb_3 (List.mem_of_getElem? (i := 51) rfl), rfl, tb_1 (List.mem_of_getElem? (i := 8) rfl), by decide +kernel⟩
theorem f_me56 : F_me 56 := ⟨tb_2 (List.mem_of_getElem? (i := 201) rfl), rfl, tb_1 (List.mem_of_getElem? (i := 8) rfl), by decide +kernel⟩
theorem f_me57 : F_me 57 := ⟨tb_2 (List.mem_of_getElem? (i := 205) rfl), rfl, tb_1 (List.mem_of_getElem? (i := 8) rfl), by decide +kernel⟩
theorem f_me58 : F_me 58 := ⟨tb_2 (List.mem_of_getElem? (i := 210) rfl), rfl, tb_1 (List.mem_of_getElem? (i := 8) rfl), by decide +kernel⟩
theorem f_me59 : F_me 59 := ⟨tb_2 (List.mem_of_getElem? (i := 214) rfl), rfl, tb_1 (List.mem_of_getElem? (i := 8) rfl), by decide +kernel⟩
theorem f_me60 : F_me 60 := ⟨tb_2 (List.mem_of_getElem? (i := 226) rfl), rfl, tb_1 (List.mem_of_getElem? (i := 8) rfl), by decide +kernel⟩
theorem f_me61 : F_me 61 := ⟨tb_2 (List.mem_of_getElem? (i := 234) rfl), rfl, tb_1 (List.mem_of_getElem? (i := 8) rfl), by decide +kernel⟩
theorem f_me62 : F_me 62 := ⟨tb_2 (List.mem_of_getElem? (i := 222) rfl), rfl, tb_1 (List.mem_of_getElem? (i := 8) rfl), by decide +kernel⟩
theorem f_me63 : F_me 63 := ⟨tb_2 (List.mem_of_getElem? (i := 230) rfl), rfl, tb_1 (List.mem_of_getElem? (i := 8) rfl), by decide +kernel⟩
theorem f_me64 : F_me 64 := ⟨tb_2 (List.mem_of_getElem? (i := 238) rfl), rfl, tb_1 (List.mem_of_getElem? (i := 8) rfl), by decide +kernel⟩
theorem f_me65 : F_me 65 := ⟨tb_3 (List.mem_of_getElem? (i := 2) rfl), rfl, tb_1 (List.mem_of_getElem? (i := 8) rfl), by decide +kernel⟩
theorem f_me66 : F_me 66 := ⟨tb_1 (List.mem_of_getElem? (i := 139) rfl), rfl, tb_1 (List.mem_of_getElem? (i := 10) rfl), by decide +kernel⟩
theorem f_me67 : F_me 67 := ⟨tb_3 (List.mem_of_getElem? (i := 90) rfl), rfl, tb_1 (List.mem_of_getElem? (i := 10) rfl), by decide +kernel⟩
theorem f_me68 : F_me 68 := ⟨tb_3 (List.mem_of_getElem? (i := 102) rfl), rfl, tb_1 (List.mem_of_getElem? (i := 10) rfl), by decide +kernel⟩
theorem f_me69 : F_me 69 := ⟨tb_3 (List.mem_of_getElem? (i := 106) rfl), rfl, tb_1 (List.mem_of_getElem? (i := 10) rfl), by decide +kernel⟩
theorem f_me70 : F_me 70 := ⟨tb_3 (List.mem_of_getElem? (i := 182) rfl), rfl, tb_1 (List.mem_of_getElem? (i := 10) rfl), by decide +kernel⟩
theorem f_me71 : F_me 71 := ⟨tb_3 (List.mem_of_getElem? (i := 192) rfl), rfl, tb_1 (List.mem_of_getElem? (i := 10) rfl), by decide +kernel⟩
theorem f_me72 : F_me 72 := ⟨tb_3 (List.mem_of_getElem? (i := 223) rfl), rfl, tb_1 (List.mem_of_getElem? (i := 10) rfl), by decide +kernel⟩
theorem f_me73 : F_me 73 := ⟨tb_3 (List.mem_of_getElem? (i := 186) rfl), rfl, tb_1 (List.mem_of_getElem? (i := 10) rfl), by decide +kernel⟩
theorem f_me74 : F_me 74 := ⟨tb_3 (List.mem_of_getElem? (i := 130) rfl), rfl, tb_1 (List.mem_of_getElem? (i := 10) rfl), by decide +kernel⟩
theorem f_me75 : F_me 75 := ⟨tb_3 (List.mem_of_getElem? (i := 110) rfl), rfl, tb_1 (List.mem_of_getElem? (i := 10) rfl), by decide +kernel⟩
theorem f_me76 : F_me 76 := ⟨tb_3 (List.mem_of_getElem? (i := 117) rfl), rfl, tb_1 (List.mem_of_getElem? (i := 10) rfl), by decide +kernel⟩
theorem f_me77 : F_me 77 := ⟨tb_3 (List.mem_of_getElem? (i := 124) rfl), rfl, tb_1 (List.mem_of_getElem? (i := 10) rfl), by decide +kernel⟩
theorem f_me78 : F_me 78 := ⟨tb_3 (List.mem_of_getElem? (i := 113) rfl), rfl, tb_1 (List.mem_of_getElem? (i := 10) rfl), by decide +kernel⟩
theorem f_me79 : F_me 79 := ⟨tb_3 (List.mem_of_getElem? (i := 120) rfl), rfl, tb_1 (List.mem_of_getElem? (i := 10) rfl), by decide +kernel⟩
theorem f_me80 : F_me 80 := ⟨tb_1 (List.mem_of_getElem? (i := 25) rfl), rfl, tb_1 (List.mem_of_getElem? (i := 1) rfl), by decide +kernel⟩
theorem f_me81 : F_me 81 := ⟨tb_1 (List.mem_of_getElem? (i := 218) rfl), rfl, tb_1 (List.mem_of_getElem? (i := 1) rfl), by decide +kernel⟩
theorem f_me82 : F_me 82 := ⟨tb_2 (List.mem_of_getElem? (i := 14) rfl), rfl, tb_1 (List.mem_of_getElem? (i := 1) rfl), by decide +kernel⟩
theorem f_me83 : F_me 83 := ⟨tb_2 (List.mem_of_getElem? (i := 18) rfl), rfl, tb_1 (List.mem_of_getElem? (i := 1) rfl), by decide +kernel⟩
theorem f_me84 : F_me 84 := ⟨tb_2 (List.mem_of_getElem? (i := 29) rfl), rfl, tb_1 (List.mem_of_getElem? (i := 1) rfl), by decide +kernel⟩
theorem f_me85 : F_me 85 := ⟨tb_2 (List.mem_of_getElem? (i := 33) rfl), rfl, tb_1 (List.mem_of_getElem? (i := 1) rfl), by decide +kernel⟩
theorem f_me86 : F_me 86 := ⟨tb_2 (List.mem_of_getElem? (i := 45) rfl), rfl, tb_1 (List.mem_of_getElem? (i := 1) rfl), by decide +kernel⟩
theorem f_me87 : F_me 87 := ⟨tb_2 (List.mem_of_getElem? (i := 61) rfl), rfl, tb_1 (List.mem_of_getElem? (i := 1) rfl), by decide +kernel⟩
theorem f_me88 : F_me 88 := ⟨tb_2 (List.mem_of_getElem? (i := 136) rfl), rfl, tb_1 (List.mem_of_getElem? (i := 1) rfl), by decide +kernel⟩
theorem f_me89 : F_me 89 := ⟨tb_2 (List.mem_of_getElem? (i := 176) rfl), rfl, tb_1 (List.mem_of_getElem? (i := 1) rfl), by decide +kernel⟩
theorem f_me90 : F_me 90 := ⟨tb_2 (List.mem_of_getElem? (i := 183) rfl), rfl, tb_1 (List.mem_of_getElem? (i := 1) rfl), by decide +kernel⟩
theorem f_me91 : F_me 91 := ⟨tb_2 (List.mem_of_getElem? (i := 187) rfl), rfl, tb_1 (List.mem_of_getElem? (i := 1) rfl), by decide +kernel⟩
theorem f_me92 : F_me 92 := ⟨tb_2 (List.mem_of_getElem? (i := 195) rfl), rfl, tb_1 (List.mem_of_getElem? (i := 1) rfl), by decide +kernel⟩
theorem f_me93 : F_me 93 := ⟨tb_3 (List.mem_of_getElem? (i := 11) rfl), rfl, tb_1 (List.mem_of_getElem? (i := 1) rfl), by decide +kernel⟩
theorem f_me94 : F_me 94 := ⟨tb_3 (List.mem_of_getElem? (i := 22) rfl), rfl, tb_1 (List.mem_of_getElem? (i := 1) rfl), by decide +kernel⟩
theorem f_me95 : F_me 95 := ⟨tb_3 (List.mem_of_getElem? (i := 26) rfl), rfl, tb_1 (List.mem_of_getElem? (i := 1) rfl), by decide +kernel⟩
theorem f_me96 : F_me 96 := ⟨tb_3 (List.mem_of_getElem? (i := 39) rfl), rfl, tb_1 (List.mem_of_getElem? (i := 1) rfl), by decide +kernel⟩
theorem f_me97 : F_me 97 := ⟨tb_3 (List.mem_of_getElem? (i := 47) rfl), rfl, tb_1 (List.mem_of_getElem? (i := 1) rfl), by decide +kernel⟩
theorem f_me98 : F_me 98 := ⟨tb_3 (List.mem_of_getElem? (i := 55) rfl), rfl, tb_1 (List.mem_of_getElem? (i := 1) rfl), by decide +kernel⟩
theorem f_me99 : F_me 99 := ⟨tb_3 (List.mem_of_getElem? (i := 59) rfl), rfl, tb_1 (List.mem_of_getElem? (i := 1) rfl), by decide +kernel⟩
theorem f_me100 : F_me 100 := ⟨tb_3 (List.mem_of_getElem? (i := 69) rfl), rfl, tb_1 (List.mem_of_getElem? (i := 1) rfl), by decide +kernel⟩
theorem f_me101 : F_me 101 := ⟨tb_3 (List.mem_of_getElem? (i := 74) rfl), rfl, tb_1 (List.mem_of_getElem? (i := 1) rfl), by decide +kernel⟩
theorem f_me102 : F_me 102 := ⟨tb_3 (List.mem_of_getElem? (i := 78) rfl), rfl, tb_1 (List.mem_of_getElem? (i := 1) rfl), by decide +kernel⟩
theorem f_me103 : F_me 103 := ⟨tb_3 (List.mem_of_getElem? (i := 82) rfl), rfl, tb_1 (List.mem_of_getElem? (i := 1) rfl), by decide +kernel⟩
theorem f_me104 : F_me 104 := ⟨tb_3 (List.mem_of_getElem? (i := 86) rfl), rfl, tb_1 (List.mem_of_getElem? (i := 1) rfl), by decide +kernel⟩
theorem f_me105 : F_me 105 := ⟨tb_3 (List.mem_of_getElem? (i := 94) rfl), rfl, tb_1 (List.mem_of_getElem? (i := 1) rfl), by decide +kernel⟩
theorem f_me106 : F_me 106 := ⟨tb_3 (List.mem_of_getElem? (i := 98) rfl), rfl, tb_1 (List.mem_of_getElem? (i := 1) rfl), by decide +kernel⟩
theorem f_me107 : F_me 107 := ⟨tb_3 (List.mem_of_getElem? (i := 230) rfl), rfl, tb_1 (List.mem_of_getElem? (i := 1) rfl), by decide +kernel⟩
theorem f_me108 : F_me 108 := ⟨tb_4 (List.mem_of_getElem? (i := 5) rfl), rfl, tb_1 (List.mem_of_getElem? (i := 1) rfl), by decide +kernel⟩
theorem f_me109 : F_me 109 := ⟨tb_4 (List.mem_of_getElem? (i := 18) rfl), rfl, tb_1 (List.mem_of_getElem? (i := 1) rfl), by decide +kernel⟩
theorem f_me110 : F_me 110 := ⟨tb_4 (List.mem_of_getElem? (i := 27) rfl), rfl, tb_1 (List.mem_of_getElem? (i := 1) rfl), by decide +kernel⟩
theorem f_me111 : F_me 111 := ⟨tb_4 (List.mem_of_getElem? (i := 35) rfl), rfl, tb_1 (List.mem_of_getElem? (i := 1) rfl), by decide +kernel⟩
theorem f_me112 : F_me 112 := ⟨tb_4 (List.mem_of_getElem? (i := 40) rfl), rfl, tb_1 (List.mem_of_getElem? (i := 1) rfl), by decide +kernel⟩
theorem f_me113 : F_me 113 := ⟨tb_4 (List.mem_of_getElem? (i := 48) rfl), rfl, tb_1 (List.mem_of_getElem? (i := 1) rfl), by decide +kernel⟩
theorem f_me114 : F_me 114 := ⟨tb_4 (List.mem_of_getElem? (i := 52) rfl), rfl, tb_1 (List.mem_of_getElem? (i := 1) rfl), by decide +kernel⟩
theorem f_me115 : F_me 115 := ⟨tb_4 (List.mem_of_getElem? (i := 56) rfl), rfl, tb_1 (List.mem_of_getElem? (i := 1) rfl), by decide +kernel⟩
theorem f_me116 : F_me 116 := ⟨tb_4 (List.mem_of_getElem? (i := 60) rfl), rfl, tb_1 (List.mem_of_getElem? (i := 1) rfl), by decide +kernel⟩
theorem f_me117 : F_me 117 := ⟨tb_4 (List.mem_of_getElem? (i := 64) rfl), rfl, tb_1 (List.mem_of_getElem? (i := 1) rfl), by decide +kernel⟩
theorem f_me118 : F_me 118 := ⟨tb_1 (List.mem_of_getElem? (i := 224) rfl), rfl, tb_1 (List.mem_of_getElem? (i := 1) rfl), by decide +kernel⟩
theorem f_me119 : F_me 119 := ⟨tb_1 (List.mem_of_getElem? (i := 221) rfl), rfl, tb_1 (List.mem_of_getElem? (i := 1) rfl), by decide +kernel⟩
theorem f_me120 : F_me 120 := ⟨tb_2 (List.mem_of_getElem? (i := 21) rfl), rfl, tb_1 (List.mem_of_getElem? (i := 1) rfl), by decide +kernel⟩
theorem f_me121 : F_me 121 := ⟨tb_2 (List.mem_of_getElem? (i := 48) rfl), rfl, tb_1 (List.mem_of_getElem? (i := 1) rfl), by decide +kernel⟩
theorem f_me122 : F_me 122 := ⟨tb_3 (List.mem_of_getElem? (i := 233) rfl), rfl, tb_1 (List.mem_of_getElem? (i := 1) rfl), by decide +kernel⟩
theorem f_me123 : F_me 123 := ⟨tb_2 (List.mem_of_getElem? (i := 65) rfl), rfl, tb_1 (List.mem_of_getElem? (i := 1) rfl), by decide +kernel⟩
theorem f_me124 : F_me 124 := ⟨tb_4 (List.mem_of_getElem? (i := 31) rfl), rfl, tb_1 (List.mem_of_getElem? (i := 1) rfl), by decide +kernel⟩
theorem f_me125 : F_me 125 := ⟨tb_2 (List.mem_of_getElem? (i := 179) rfl), rfl, tb_1 (List.mem_of_getElem? (i := 1) rfl), by decide +kernel⟩
theorem f_me126 : F_me 126 := ⟨tb_2 (List.mem_of_getElem? (i := 190) rfl), rfl, tb_1 (List.mem_of_getElem? (i := 1) rfl), by decide +kernel⟩
theorem f_me127 : F_me 127 := ⟨tb_1 (List.mem_of_getElem? (i := 234) rfl), rfl, tb_1 (List.mem_of_getElem? (i := 1) rfl), by decide +kernel⟩
theorem f_me128 : F_me 128 := ⟨tb_2 (List.mem_of_getElem? (i := 69) rfl), rfl, tb_1 (List.mem_of_getElem? (i := 1) rfl), by decide +kernel⟩
theorem f_me129 : F_me 129 := ⟨tb_3 (List.mem_of_getElem? (i := 34) rfl), rfl, tb_1 (List.mem_of_getElem? (i := 1) rfl), by decide +kernel⟩
theorem f_me130 : F_me 130 := ⟨tb_4 (List.mem_of_getElem? (i := 44) rfl), rfl, tb_1 (List.mem_of_getElem? (i := 1) rfl), by decide +kernel⟩
theorem f_me131 : F_me 131 := ⟨tb_4 (List.mem_of_getElem? (i := 73) rfl), rfl, tb_1 (List.mem_of_getElem? (i := 13) rfl), by decide +kernel⟩
theorem f_me132 : F_me 132 := ⟨tb_4 (List.mem_of_getElem? (i := 133) rfl), rfl, tb_1 (List.mem_of_getElem? (i := 13) rfl), by decide +kernel⟩
theorem f_me133 : F_me 133 := ⟨tb_4 (List.mem_of_getElem? (i := 150) rfl), rfl, tb_1 (List.mem_of_getElem? (i := 13) rfl), by decide +kernel⟩
theorem f_me134 : F_me 134 := ⟨tb_5 (List.mem_of_getElem? (i := 154) rfl), rfl, tb_1 (List.mem_of_getElem? (i := 13) rfl), by decide +kernel⟩
theorem f_me135 : F_me 135 := ⟨tb_5 (List.mem_of_getElem? (i := 158) rfl), rfl, tb_1 (List.mem_of_getElem? (i := 13) rfl), by decide +kernel⟩
theorem f_me136 : F_me 136 := ⟨tb_5 (List.mem_of_getElem? (i := 92) rfl), rfl, tb_1 (List.mem_of_getElem? (i := 13) rfl), by decide +kernel⟩
theorem f_me137 : F_me 137 := ⟨tb_5 (List.mem_of_getElem? (i := 96) rfl), rfl, tb_1 (List.mem_of_getElem? (i := 13) rfl), by decide +kernel⟩
theorem f_me138 : F_me 138 := ⟨tb_4 (List.mem_of_getElem? (i := 145) rfl), rfl, tb_1 (List.mem_of_getElem? (i := 13) rfl), by decide +kernel⟩
theorem f_me139 : F_me 139 := ⟨tb_4 (List.mem_of_getElem? (i := 141) rfl), rfl, tb_1 (List.mem_of_getElem? (i := 13) rfl), by decide +kernel⟩
theorem f_me140 : F_me 140 := ⟨tb_4 (List.mem_of_getElem? (i := 166) rfl), rfl, tb_1 (List.mem_of_getElem? (i := 13) rfl), by decide +kernel⟩
theorem f_me141 : F_me 141 := ⟨tb_4 (List.mem_of_getElem? (i := 163) rfl), rfl, tb_1 (List.mem_of_getElem? (i := 13) rfl), by decide +kernel⟩
theorem f_me142 : F_me 142 := ⟨tb_5 (List.mem_of_getElem? (i := 75) rfl), rfl, tb_1 (List.mem_of_getElem? (i := 13) rfl), by decide +kernel⟩
theorem f_me143 : F_me 143 := ⟨tb_4 (List.mem_of_getElem? (i := 137) rfl), rfl, tb_1 (List.mem_of_getElem? (i := 13) rfl), by decide +kernel⟩
theorem f_me144 : F_me 144 := ⟨tb_4 (List.mem_of_getElem? (i := 177) rfl), rfl, tb_1 (List.mem_of_getElem? (i := 13) rfl), by decide +kernel⟩
theorem f_me145 : F_me 145 := ⟨tb_4 (List.mem_of_getElem? (i := 223) rfl), rfl, tb_1 (List.mem_of_getElem? (i := 13) rfl), by decide +kernel⟩
theorem f_me146 : F_me 146 := ⟨tb_4 (List.mem_of_getElem? (i := 210) rfl), rfl, tb_1 (List.mem_of_getElem? (i := 13) rfl), by decide +kernel⟩
theorem f_me147 : F_me 147 := ⟨tb_5 (List.mem_of_getElem? (i := 51) rfl), rfl, tb_1 (List.mem_of_getElem? (i := 13) rfl), by decide +kernel⟩
theorem f_me148 : F_me 148 := ⟨tb_4 (List.mem_of_getElem? (i := 199) rfl), rfl, tb_1 (List.mem_of_getElem? (i := 13) rfl), by decide +kernel⟩
theorem f_me149 : F_me 149 := ⟨tb_4 (List.mem_of_getElem? (i := 195) rfl), rfl, tb_1 (List.mem_of_getElem? (i := 13) rfl), by decide +kernel⟩
theorem f_me150 : F_me 150 := ⟨tb_4 (List.mem_of_getElem? (i := 170) rfl), rfl, tb_1 (List.mem_of_getElem? (i := 13) rfl), by decide +kernel⟩
theorem f_me151 : F_me 151 := ⟨tb_4 (List.mem_of_getElem? (i := 203) rfl), rfl, tb_1 (List.mem_of_getElem? (i := 13) rfl), by decide +kernel⟩
theorem f_me152 : F_me 152 := ⟨tb_4 (List.mem_of_getElem? (i := 130) rfl), rfl, tb_1 (List.mem_of_getElem? (i := 13) rfl), by decide +kernel⟩
theorem f_me153 : F_me 153 := ⟨tb_4 (List.mem_of_getElem? (i := 159) rfl), rfl, tb_1 (List.mem_of_getElem? (i := 13) rfl), by decide +kernel⟩
theorem f_me154 : F_me 154 := ⟨tb_4 (List.mem_of_getElem? (i := 154) rfl), rfl, tb_1 (List.mem_of_getElem? (i := 13) rfl), by decide +kernel⟩
theorem f_me155 : F_me 155 := ⟨tb_4 (List.mem_of_getElem? (i := 183) rfl), rfl, tb_1 (List.mem_of_getElem? (i := 13) rfl), by decide +kernel⟩
theorem f_me156 : F_me 156 := ⟨tb_4 (List.mem_of_getElem? (i := 174) rfl), rfl, tb_1 (List.mem_of_getElem? (i := 13) rfl), by decide +kernel⟩
theorem f_me157 : F_me 157 := ⟨tb_4 (List.mem_of_getElem? (i := 187) rfl), rfl, tb_1 (List.mem_of_getElem? (i := 13) rfl), by decide +kernel⟩
theorem f_me158 : F_me 158 := ⟨tb_4 (List.mem_of_getElem? (i := 191) rfl), rfl, tb_1 (List.mem_of_getElem? (i := 13) rfl), by decide +kernel⟩
theorem f_me159 : F_me 159 := ⟨tb_4 (List.mem_of_getElem? (i := 228) rfl), rfl, tb_1 (List.mem_of_getElem? (i := 13) rfl), by decide +kernel⟩
theorem f_me160 : F_me 160 := ⟨tb_4 (List.mem_of_getElem? (i := 232) rfl), rfl, tb_1 (List.mem_of_getElem? (i := 13) rfl), by decide +kernel⟩
theorem f_me161 : F_me 161 := ⟨tb_4 (List.mem_of_getElem? (i := 236) rfl), rfl, tb_1 (List.mem_of_getElem? (i := 13) rfl), by decide +kernel⟩
theorem f_me162 : F_me 162 := ⟨tb_5 (List.mem_of_getElem? (i := 4) rfl), rfl, tb_1 (List.mem_of_getElem? (i := 13) rfl), by decide +kernel⟩
theorem f_me163 : F_me 163 := ⟨tb_5 (List.mem_of_getElem? (i := 8) rfl), rfl, tb_1 (List.mem_of_getElem? (i := 13) rfl), by decide +kernel⟩
theorem f_me164 : F_me 164 := ⟨tb_4 (List.mem_of_getElem? (i := 215) rfl), rfl, tb_1 (List.mem_of_getElem? (i := 13) rfl), by decide +kernel⟩
theorem f_me165 : F_me 165 := ⟨tb_4 (List.mem_of_getElem? (i := 207) rfl), rfl, tb_1 (List.mem_of_getElem? (i := 13) rfl), by decide +kernel⟩
theorem f_me166 : F_me 166 := ⟨tb_4 (List.mem_of_getElem? (i := 219) rfl), rfl, tb_1 (List.mem_of_getElem? (i := 13) rfl), by decide +kernel⟩
theorem f_me167 : F_me 167 := ⟨tb_5 (List.mem_of_getElem? (i := 0) rfl), rfl, tb_1 (List.mem_of_getElem? (i := 13) rfl), by decide +kernel⟩
theorem f_me168 : F_me 168 := ⟨tb_5 (List.mem_of_getElem? (i := 12) rfl), rfl, tb_1 (List.mem_of_getElem? (i := 13) rfl), by decide +kernel⟩
theorem f_me169 : F_me 169 := ⟨tb_5 (List.mem_of_getElem? (i := 17) rfl), rfl, tb_1 (List.mem_of_getElem? (i := 13) rfl), by decide +kernel⟩
theorem f_me170 : F_me 170 := ⟨tb_5 (List.mem_of_getElem? (i := 24) rfl), rfl, tb_1 (List.mem_of_getElem? (i := 13) rfl), by decide +kernel⟩
theorem f_me171 : F_me 171 := ⟨tb_5 (List.mem_of_getElem? (i := 21) rfl), rfl, tb_1 (List.mem_of_getElem? (i := 13) rfl), by decide +kernel⟩
theorem f_me172 : F_me 172 := ⟨tb_5 (List.mem_of_getElem? (i := 63) rfl), rfl, tb_1 (List.mem_of_getElem? (i := 13) rfl), by decide +kernel⟩
theorem f_me173 : F_me 173 := ⟨tb_5 (List.mem_of_getElem? (i := 55) rfl), rfl, tb_1 (List.mem_of_getElem? (i := 13) rfl), by decide +kernel⟩
theorem f_me174 : F_me 174 := ⟨tb_5 (List.mem_of_getElem? (i := 71) rfl), rfl, tb_1 (List.mem_of_getElem? (i := 13) rfl), by decide +kernel⟩
theorem f_me175 : F_me 175 := ⟨tb_5 (List.mem_of_getElem? (i := 67) rfl), rfl, tb_1 (List.mem_of_getElem? (i := 13) rfl), by decide +kernel⟩
theorem f_me176 : F_me 176 := ⟨tb_5 (List.mem_of_getElem? (i := 48) rfl), rfl, tb_1 (List.mem_of_getElem? (i := 13) rfl), by decide +kernel⟩
theorem f_me177 : F_me 177 := ⟨tb_5 (List.mem_of_getElem? (i := 59) rfl), rfl, tb_1 (List.mem_of_getElem? (i := 13) rfl), by decide +kernel⟩
theorem f_me178 : F_me 178 := ⟨tb_5 (List.mem_of_getElem? (i := 44) rfl), rfl, tb_1 (List.mem_of_getElem? (i := 13) rfl), by decide +kernel⟩
theorem f_me179 : F_me 179 := ⟨tb_5 (List.mem_of_getElem? (i := 40) rfl), rfl, tb_1 (List.mem_of_getElem? (i := 13) rfl), by decide +kernel⟩
theorem f_me180 : F_me 180 := ⟨tb_5 (List.mem_of_getElem? (i := 36) rfl), rfl, tb_1 (List.mem_of_getElem? (i := 13) rfl), by decide +kernel⟩
theorem f_me181 : F_me 181 := ⟨tb_5 (List.mem_of_getElem? (i := 29) rfl), rfl, tb_1 (List.mem_of_getElem? (i := 13) rfl), by decide +kernel⟩
theorem f_me182 : F_me 182 := ⟨tb_5 (List.mem_of_getElem? (i := 82) rfl), rfl, tb_1 (List.mem_of_getElem? (i := 13) rfl), by decide +kernel⟩
theorem f_me183 : F_me 183 := ⟨tb_5 (List.mem_of_getElem? (i := 88) rfl), rfl, tb_1 (List.mem_of_getElem? (i := 13) rfl), by decide +kernel⟩
theorem f_me184 : F_me 184 := ⟨tb_5 (List.mem_of_getElem? (i := 146) rfl), rfl, tb_1 (List.mem_of_getElem? (i := 13) rfl), by decide +kernel⟩
theorem f_me185 : F_me 185 := ⟨tb_5 (List.mem_of_getElem? (i := 137) rfl), rfl, tb_1 (List.mem_of_getElem? (i := 13) rfl), by decide +kernel⟩
theorem f_me186 : F_me 186 := ⟨tb_5 (List.mem_of_getElem? (i := 79) rfl), rfl, tb_1 (List.mem_of_getElem? (i := 13) rfl), by decide +kernel⟩
theorem f_me187 : F_me 187 := ⟨tb_5 (List.mem_of_getElem? (i := 100) rfl), rfl, tb_1 (List.mem_of_getElem? (i := 13) rfl), by decide +kernel⟩
theorem f_me188 : F_me 188 := ⟨tb_5 (List.mem_of_getElem? (i := 112) rfl), rfl, tb_1 (List.mem_of_getElem? (i := 13) rfl), by decide +kernel⟩
theorem f_me189 : F_me 189 := ⟨tb_5 (List.mem_of_getElem? (i := 108) rfl), rfl, tb_1 (List.mem_of_getElem? (i := 13) rfl), by decide +kernel⟩
theorem f_me190 : F_me 190 := ⟨tb_5 (List.mem_of_getElem? (i := 104) rfl), rfl, tb_1 (List.mem_of_getElem? (i := 13) rfl), by decide +kernel⟩
theorem f_me191 : F_me 191 := ⟨tb_5 (List.mem_of_getElem? (i := 117) rfl), rfl, tb_1 (List.mem_of_getElem? (i := 13) rfl), by decide +kernel⟩
theorem f_me192 : F_me 192 := ⟨tb_5 (List.mem_of_getElem? (i := 121) rfl), rfl, tb_1 (List.mem_of_getElem? (i := 13) rfl), by decide +kernel⟩
theorem f_me193 : F_me 193 := ⟨tb_5 (List.mem_of_getElem? (i := 132) rfl), rfl, tb_1 (List.mem_of_getElem? (i := 13) rfl), by decide +kernel⟩
theorem f_me194 : F_me 194 := ⟨tb_5 (List.mem_of_getElem? (i := 125) rfl), rfl, tb_1 (List.mem_of_getElem? (i := 13) rfl), by decide +kernel⟩
theorem f_me195 : F_me 195 := ⟨tb_5 (List.mem_of_getElem? (i := 129) rfl), rfl, tb_1 (List.mem_of_getElem? (i := 13) rfl), by decide +kernel⟩
theorem f_me196 : F_me 196 := ⟨tb_5 (List.mem_of_getElem? (i := 141) rfl), rfl, tb_1 (List.mem_of_getElem? (i := 13) rfl), by decide +kernel⟩
theorem f_me197 : F_me 197 := ⟨tb_5 (List.mem_of_getElem? (i := 150) rfl), rfl, tb_1 (List.mem_of_getElem? (i := 13) rfl), by decide +kernel⟩
theorem f_me198 : F_me 198 := ⟨tb_5 (List.mem_of_getElem? (i := 162) rfl), rfl, tb_1 (List.mem_of_getElem? (i := 13) rfl), by decide +kernel⟩
theorem f_me199 : F_me 199 := ⟨tb_5 (List.mem_of_getElem? (i := 166) rfl), rfl, tb_1 (List.mem_of_getElem? (i := 13) rfl), by decide +kernel⟩
theorem f_me200 : F_me 200 := ⟨tb_5 (List.mem_of_getElem? (i := 170) rfl), rfl, tb_1 (List.mem_of_getElem? (i := 13) rfl), by decide +kernel⟩
theorem f_me201 : F_me 201 := ⟨tb_5 (List.mem_of_getElem? (i := 175) rfl), rfl, tb_1 (List.mem_of_getElem? (i := 13) rfl), by decide +kernel⟩
theorem f_me202 : F_me 202 := ⟨tb_5 (List.mem_of_getElem? (i := 187) rfl), rfl, tb_1 (List.mem_of_getElem? (i := 13) rfl), by decide +kernel⟩
theorem f_me203 : F_me 203 := ⟨tb_5 (List.mem_of_getElem? (i := 190) rfl), rfl, tb_1 (List.mem_of_getElem? (i := 13) rfl), by decide +kernel⟩
theorem f_me204 : F_me 204 := ⟨tb_5 (List.mem_of_getElem? (i := 195) rfl), rfl, tb_1 (List.mem_of_getElem? (i := 13) rfl), by decide +kernel⟩
theorem f_me205 : F_me 205 := ⟨tb_5 (List.mem_of_getElem? (i := 183) rfl), rfl, tb_1 (List.mem_of_getElem? (i := 13) rfl), by decide +kernel⟩
theorem f_me206 : F_me 206 := ⟨tb_5 (List.mem_of_getElem? (i := 225) rfl), rfl, tb_1 (List.mem_of_getElem? (i := 13) rfl), by decide +kernel⟩
theorem f_me207 : F_me 207 := ⟨tb_5 (List.mem_of_getElem? (i := 209) rfl), rfl, tb_1 (List.mem_of_getElem? (i := 13) rfl), by decide +kernel⟩
theorem f_me208 : F_me 208 := ⟨tb_5 (List.mem_of_getElem? (i := 229) rfl), rfl, tb_1 (List.mem_of_getElem? (i := 13) rfl), by decide +kernel⟩
theorem f_me209 : F_me 209 := ⟨tb_5 (List.mem_of_getElem? (i := 205) rfl), rfl, tb_1 (List.mem_of_getElem? (i := 13) rfl), by decide +kernel⟩
theorem f_me210 : F_me 210 := ⟨tb_5 (List.mem_of_getElem? (i := 221) rfl), rfl, tb_1 (List.mem_of_getElem? (i := 13) rfl), by decide +kernel⟩
theorem f_me211 : F_me 211 := ⟨tb_5 (List.mem_of_getElem? (i := 234) rfl), rfl, tb_1 (List.mem_of_getElem? (i := 13) rfl), by decide +kernel⟩
theorem f_me212 : F_me 212 := ⟨tb_5 (List.mem_of_getElem? (i := 239) rfl), rfl, tb_1 (List.mem_of_getElem? (i := 13) rfl), by decide +kernel⟩
theorem f_me213 : F_me 213 := ⟨tb_5 (List.mem_of_getElem? (i := 201) rfl), rfl, tb_1 (List.mem_of_getElem? (i := 13) rfl), by decide +kernel⟩
theorem f_me214 : F_me 214 := ⟨tb_5 (List.mem_of_getElem? (i := 179) rfl), rfl, tb_1 (List.mem_of_getElem? (i := 13) rfl), by decide +kernel⟩
theorem f_me215 : F_me 215 := ⟨tb_6 (List.mem_of_getElem? (i := 6) rfl), rfl, tb_1 (List.mem_of_getElem? (i := 13) rfl), by decide +kernel⟩
theorem f_me216 : F_me 216 := ⟨tb_6 (List.mem_of_getElem? (i := 3) rfl), rfl, tb_1 (List.mem_of_getElem? (i := 13) rfl), by decide +kernel⟩
theorem f_me217 : F_me 217 := ⟨tb_6 (List.mem_of_getElem? (i := 19) rfl), rfl, tb_1 (List.mem_of_getElem? (i := 13) rfl), by decide +kernel⟩
theorem f_me218 : F_me 218 := ⟨tb_6 (List.mem_of_getElem? (i := 15) rfl), rfl, tb_1 (List.mem_of_getElem? (i := 13) rfl), by decide +kernel⟩
theorem f_me219 : F_me 219 := ⟨tb_6 (List.mem_of_getElem? (i := 11) rfl), rfl, tb_1 (List.mem_of_getElem? (i := 13) rfl), by decide +kernel⟩
theorem f_me220 : F_me 220 := ⟨tb_6 (List.mem_of_getElem? (i := 23) rfl), rfl, tb_1 (List.mem_of_getElem? (i := 13) rfl), by decide +kernel⟩
theorem f_me221 : F_me 221 := ⟨tb_6 (List.mem_of_getElem? (i := 27) rfl), rfl, tb_1 (List.mem_of_getElem? (i := 13) rfl), by decide +kernel⟩
theorem f_me222 : F_me 222 := ⟨tb_6 (List.mem_of_getElem? (i := 31) rfl), rfl, tb_1 (List.mem_of_getElem? (i := 13) rfl), by decide +kernel⟩
theorem f_me223 : F_me 223 := ⟨tb_6 (List.mem_of_getElem? (i := 39) rfl), rfl, tb_1 (List.mem_of_getElem? (i := 13) rfl), by decide +kernel⟩
theorem f_me224 : F_me 224 := ⟨tb_6 (List.mem_of_getElem? (i := 35) rfl), rfl, tb_1 (List.mem_of_getElem? (i := 13) rfl), by decide +kernel⟩
theorem f_me225 : F_me 225 := ⟨tb_6 (List.mem_of_getElem? (i := 43) rfl), rfl, tb_1 (List.mem_of_getElem? (i := 13) rfl), by decide +kernel⟩
theorem f_me226 : F_me 226 := ⟨tb_6 (List.mem_of_getElem? (i := 47) rfl), rfl, tb_1 (List.mem_of_getElem? (i := 13) rfl), by decide +kernel⟩
theorem f_me227 : F_me 227 := ⟨tb_6 (List.mem_of_getElem? (i := 51) rfl), rfl, tb_1 (List.mem_of_getElem? (i := 13) rfl), by decide +kernel⟩
theorem f_me228 : F_me 228 := ⟨tb_6 (List.mem_of_getElem? (i := 59) rfl), rfl, tb_1 (List.mem_of_getElem? (i := 13) rfl), by decide +kernel⟩
theorem f_me229 : F_me 229 := ⟨tb_6 (List.mem_of_getElem? (i := 55) rfl), rfl, tb_1 (List.mem_of_getElem? (i := 13) rfl), by decide +kernel⟩
theorem f_me230 : F_me 230 := ⟨tb_6 (List.mem_of_getElem? (i := 63) rfl), rfl, tb_1 (List.mem_of_getElem? (i := 13) rfl), by decide +kernel⟩
theorem f_me231 : F_me 231 := ⟨tb_3 (List.mem_of_getElem? (i := 62) rfl), rfl, tb_1 (List.mem_of_getElem? (i := 16) rfl), by decide +kernel⟩
theorem f_me232 : F_me 232 := ⟨tb_4 (List.mem_of_getElem? (i := 1) rfl), rfl, tb_1 (List.mem_of_getElem? (i := 9) rfl), by decide +kernel⟩
theorem f_me233 : F_me 233 := ⟨tb_1 (List.mem_of_getElem? (i := 80) rfl), rfl, tb_1 (List.mem_of_getElem? (i := 9) rfl), by decide +kernel⟩
theorem f_me_0 : ∀ y ∈ [0, 1, 2, 3, 4, 5, 6, 7, 8, 9, 10, 11, 12, 13, 14, 15, 16, 17, 18, 19, 20, 21, 22, 23, 24, 25, 26, 27, 28, 29, 30, 31, 32, 33, 34, 35, 36, 37, 38, 39], F_me y := List.forall_mem_cons.mpr ⟨f_me0, List.forall_mem_cons.mpr ⟨f_me1, List.forall_mem_cons.mpr ⟨f_me2, List.forall_mem_cons.mpr ⟨f_me3, List.forall_mem_cons.mpr ⟨f_me4, List.forall_mem_cons.mpr ⟨f_me5, List.forall_mem_cons.mpr ⟨f_me6, List.forall_mem_cons.mpr ⟨f_me7, List.forall_mem_cons.mpr ⟨f_me8, List.forall_mem_cons.mpr ⟨f_me9, List.forall_mem_cons.mpr ⟨f_me10, List.forall_mem_cons.mpr ⟨f_me11, List.forall_mem_cons.mpr ⟨f_me12, List.forall_mem_cons.mpr ⟨f_me13, List.forall_mem_cons.mpr ⟨f_me14, List.forall_mem_cons.mpr ⟨f_me15, List.forall_mem_cons.mpr ⟨f_me16, List.forall_mem_cons.mpr ⟨f_me17, List.forall_mem_cons.mpr ⟨f_me18, List.forall_mem_cons.mpr ⟨f_me19, List.forall_mem_cons.mpr ⟨f_me20, List.forall_mem_cons.mpr ⟨f_me21, List.forall_mem_cons.mpr ⟨f_me22, List.forall_mem_cons.mpr ⟨f_me23, List.forall_mem_cons.mpr ⟨f_me24, List.forall_mem_cons.mpr ⟨f_me25, List.forall_mem_cons.mpr ⟨f_me26, List.forall_mem_cons.mpr ⟨f_me27, List.forall_mem_cons.mpr ⟨f_me28, List.forall_mem_cons.mpr ⟨f_me29, List.forall_mem_cons.mpr ⟨f_me30, List.forall_mem_cons.mpr ⟨f_me31, List.forall_mem_cons.mpr ⟨f_me32, List.forall_mem_cons.mpr ⟨f_me33, List.forall_mem_cons.mpr ⟨f_me34, List.forall_mem_cons.mpr ⟨f_me35, List.forall_mem_cons.mpr ⟨f_me36, List.forall_mem_cons.mpr ⟨f_me37, List.forall_mem_cons.mpr ⟨f_me38, List.forall_mem_cons.mpr ⟨f_me39, fun _ h => absurd h List.not_mem_nil⟩⟩⟩⟩⟩⟩⟩⟩⟩⟩⟩⟩⟩⟩⟩⟩⟩⟩⟩⟩⟩⟩⟩⟩⟩⟩⟩⟩⟩⟩⟩⟩⟩⟩⟩⟩⟩⟩⟩⟩
theorem f_me_40 : ∀ y ∈ [40, 41, 42, 43, 44, 45, 46, 47, 48, 49, 50, 51, 52, 53, 54, 55, 56, 57, 58, 59, 60, 61, 62, 63, 64, 65, 66, 67, 68, 69, 70, 71, 72, 73, 74, 75, 76, 77, 78, 79], F_me y := List.forall_mem_cons.mpr ⟨f_me40, List.forall_mem_cons.mpr ⟨f_me41, List.forall_mem_cons.mpr ⟨f_me42, List.forall_mem_cons.mpr ⟨f_me43, List.forall_mem_cons.mpr ⟨f_me44, List.forall_mem_cons.mpr ⟨f_me45, List.forall_mem_cons.mpr ⟨f_me46, List.forall_mem_cons.mpr ⟨f_me47, List.forall_mem_cons.mpr ⟨f_me48, List.forall_mem_cons.mpr ⟨f_me49, List.forall_mem_cons.mpr ⟨f_me50, List.forall_mem_cons.mpr ⟨f_me51, List.forall_mem_cons.mpr ⟨f_me52, List.forall_mem_cons.mpr ⟨f_me53, List.forall_mem_cons.mpr ⟨f_me54, List.forall_mem_cons.mpr ⟨f_me55, List.forall_mem_cons.mpr ⟨f_me56, List.forall_mem_cons.mpr ⟨f_me57, List.forall_mem_cons.mpr ⟨f_me58, List.forall_mem_cons.mpr ⟨f_me59, List.forall_mem_cons.mpr ⟨f_me60, List.forall_mem_cons.mpr ⟨f_me61, List.forall_mem_cons.mpr ⟨f_me62, List.forall_mem_cons.mpr ⟨f_me63, List.forall_mem_cons.mpr ⟨f_me64, List.forall_mem_cons.mpr ⟨f_me65, List.forall_mem_cons.mpr ⟨f_me66, List.forall_mem_cons.mpr ⟨f_me67, List.forall_mem_cons.mpr ⟨f_me68, List.forall_mem_cons.mpr ⟨f_me69, List.forall_mem_cons.mpr ⟨f_me70, List.forall_mem_cons.mpr ⟨f_me71, List.forall_mem_cons.mpr ⟨f_me72, List.forall_mem_cons.mpr ⟨f_me73, List.forall_mem_cons.mpr ⟨f_me74, List.forall_mem_cons.mpr ⟨f_me75, List.forall_mem_cons.mpr ⟨f_me76, List.forall_mem_cons.mpr ⟨f_me77, List.forall_mem_cons.mpr ⟨f_me78, List.forall_mem_cons.mpr ⟨f_me79, fun _ h => absurd h List.not_mem_nil⟩⟩⟩⟩⟩⟩⟩⟩⟩⟩⟩⟩⟩⟩⟩⟩⟩⟩⟩⟩⟩⟩⟩⟩⟩⟩⟩⟩⟩⟩⟩⟩⟩⟩⟩⟩⟩⟩⟩⟩
theorem f_me_80 : ∀ y ∈ [80, 81, 82, 83, 84, 85, 86, 87, 88, 89, 90, 91, 92, 93, 94, 95, 96, 97, 98, 99, 100, 101, 102, 103, 104, 105, 106, 107, 108, 109, 110, 111, 112, 113, 114, 115, 116, 117, 118, 119], F_me y := List.forall_mem_cons.mpr ⟨f_me80, List.forall_mem_cons.mpr ⟨f_me81, List.forall_mem_cons.mpr ⟨f_me82, List.forall_mem_cons.mpr ⟨f_me83, List.forall_mem_cons.mpr ⟨f_me84, List.forall_mem_cons.mpr ⟨f_me85, List.forall_mem_cons.mpr ⟨f_me86, List.forall_mem_cons.mpr ⟨f_me87, List.forall_mem_cons.mpr ⟨f_me88, List.forall_mem_cons.mpr ⟨f_me89, List.forall_mem_cons.mpr ⟨f_me90, List.forall_mem_cons.mpr ⟨f_me91, List.forall_mem_cons.mpr ⟨f_me92, List.forall_mem_cons.mpr ⟨f_me93, List.forall_mem_cons.mpr ⟨f_me94, List.forall_mem_cons.mpr ⟨f_me95, List.forall_mem_cons.mpr ⟨f_me96, List.forall_mem_cons.mpr ⟨f_me97, List.forall_mem_cons.mpr ⟨f_me98, List.forall_mem_cons.mpr ⟨f_me99, List.forall_mem_cons.mpr ⟨f_me100, List.forall_mem_cons.mpr ⟨f_me101, List.forall_mem_cons.mpr ⟨f_me102, List.forall_mem_cons.mpr ⟨f_me103, List.forall_mem_cons.mpr ⟨f_me104, List.forall_mem_cons.mpr ⟨f_me105, List.forall_mem_cons.mpr ⟨f_me106, List.forall_mem_cons.mpr ⟨f_me107, List.forall_mem_cons.mpr ⟨f_me108, List.forall_mem_cons.mpr ⟨f_me109, List.forall_mem_cons.mpr ⟨f_me110, List.forall_mem_cons.mpr ⟨f_me111, List.forall_mem_cons.mpr ⟨f_me112, List.forall_mem_cons.mpr ⟨f_me113, List.forall_mem_cons.mpr ⟨f_me114, List.forall_mem_cons.mpr ⟨f_me115, List.forall_mem_cons.mpr ⟨f_me116, List.forall_mem_cons.mpr ⟨f_me117, List.forall_mem_cons.mpr ⟨f_me118, List.forall_mem_cons.mpr ⟨f_me119, fun _ h => absurd h List.not_mem_nil⟩⟩⟩⟩⟩⟩⟩⟩⟩⟩⟩⟩⟩⟩⟩⟩⟩⟩⟩⟩⟩⟩⟩⟩⟩⟩⟩⟩⟩⟩⟩⟩⟩⟩⟩⟩⟩⟩⟩⟩
theorem f_me_120 : ∀ y ∈ [120, 121, 122, 123, 124, 125, 126, 127, 128, 129, 130, 131, 132, 133, 134, 135, 136, 137, 138, 139, 140, 141, 142, 143, 144, 145, 146, 147, 148, 149, 150, 151, 152, 153, 154, 155, 156, 157, 158, 159], F_me y := List.forall_mem_cons.mpr ⟨f_me120, List.forall_mem_cons.mpr ⟨f_me121, List.forall_mem_cons.mpr ⟨f_me122, List.forall_mem_cons.mpr ⟨f_me123, List.forall_mem_cons.mpr ⟨f_me124, List.forall_mem_cons.mpr ⟨f_me125, List.forall_mem_cons.mpr ⟨f_me126, List.forall_mem_cons.mpr ⟨f_me127, List.forall_mem_cons.mpr ⟨f_me128, List.forall_mem_cons.mpr ⟨f_me129, List.forall_mem_cons.mpr ⟨f_me130, List.forall_mem_cons.mpr ⟨f_me131, List.forall_mem_cons.mpr ⟨f_me132, List.forall_mem_cons.mpr ⟨f_me133, List.forall_mem_cons.mpr ⟨f_me134, List.forall_mem_cons.mpr ⟨f_me135, List.forall_mem_cons.mpr ⟨f_me136, List.forall_mem_cons.mpr ⟨f_me137, List.forall_mem_cons.mpr ⟨f_me138, List.forall_mem_cons.mpr ⟨f_me139, List.forall_mem_cons.mpr ⟨f_me140, List.forall_mem_cons.mpr ⟨f_me141, List.forall_mem_cons.mpr ⟨f_me142, List.forall_mem_cons.mpr ⟨f_me143, List.forall_mem_cons.mpr ⟨f_me144, List.forall_mem_cons.mpr ⟨f_me145, List.forall_mem_cons.mpr ⟨f_me146, List.forall_mem_cons.mpr ⟨f_me147, List.forall_mem_cons.mpr ⟨f_me148, List.forall_mem_cons.mpr ⟨f_me149, List.forall_mem_cons.mpr ⟨f_me150, List.forall_mem_cons.mpr ⟨f_me151, List.forall_mem_cons.mpr ⟨f_me152, List.forall_mem_cons.mpr ⟨f_me153, List.forall_mem_cons.mpr ⟨f_me154, List.forall_mem_cons.mpr ⟨f_me155, List.forall_mem_cons.mpr ⟨f_me156, List.forall_mem_cons.mpr ⟨f_me157, List.forall_mem_cons.mpr ⟨f_me158, List.forall_mem_cons.mpr ⟨f_me159, fun _ h => absurd h List.not_mem_nil⟩⟩⟩⟩⟩⟩⟩⟩⟩⟩⟩⟩⟩⟩⟩⟩⟩⟩⟩⟩⟩⟩⟩⟩⟩⟩⟩⟩⟩⟩⟩⟩⟩⟩⟩⟩⟩⟩⟩⟩
theorem f_me_160 : ∀ y ∈ [160, 161, 162, 163, 164, 165, 166, 167, 168, 169, 170, 171, 172, 173, 174, 175, 176, 177, 178, 179, 180, 181, 182, 183, 184, 185, 186, 187, 188, 189, 190, 191, 192, 193, 194, 195, 196, 197, 198, 199], F_me y := List.forall_mem_cons.mpr ⟨f_me160, List.forall_mem_cons.mpr ⟨f_me161, List.forall_mem_cons.mpr ⟨f_me162, List.forall_mem_cons.mpr ⟨f_me163, List.forall_mem_cons.mpr ⟨f_me164, List.forall_mem_cons.mpr ⟨f_me165, List.forall_mem_cons.mpr ⟨f_me166, List.forall_mem_cons.mpr ⟨f_me167, List.forall_mem_cons.mpr ⟨f_me168, List.forall_mem_cons.mpr ⟨f_me169, List.forall_mem_cons.mpr ⟨f_me170, List.forall_mem_cons.mpr ⟨f_me171, List.forall_mem_cons.mpr ⟨f_me172, List.forall_mem_cons.mpr ⟨f_me173, List.forall_mem_cons.mpr ⟨f_me174, List.forall_mem_cons.mpr ⟨f_me175, List.forall_mem_cons.mpr ⟨f_me176, List.forall_mem_cons.mpr ⟨f_me177, List.forall_mem_cons.mpr ⟨f_me178, List.forall_mem_cons.mpr ⟨f_me179, List.forall_mem_cons.mpr ⟨f_me180, List.forall_mem_cons.mpr ⟨f_me181, List.forall_mem_cons.mpr ⟨f_me182, List.forall_mem_cons.mpr ⟨f_me183, List.forall_mem_cons.mpr ⟨f_me184, List.forall_mem_cons.mpr ⟨f_me185, List.forall_mem_cons.mpr ⟨f_me186, List.forall_mem_cons.mpr ⟨f_me187, List.forall_mem_cons.mpr ⟨f_me188, List.forall_mem_cons.mpr ⟨f_me189, List.forall_mem_cons.mpr ⟨f_me190, List.forall_mem_cons.mpr ⟨f_me191, List.forall_mem_cons.mpr ⟨f_me192, List.forall_mem_cons.mpr ⟨f_me193, List.forall_mem_cons.mpr ⟨f_me194, List.forall_mem_cons.mpr ⟨f_me195, List.forall_mem_cons.mpr ⟨f_me196, List.forall_mem_cons.mpr ⟨f_me197, List.forall_mem_cons.mpr ⟨f_me198, List.forall_mem_cons.mpr ⟨f_me199, fun _ h => absurd h List.not_mem_nil⟩⟩⟩⟩⟩⟩⟩⟩⟩⟩⟩⟩⟩⟩⟩⟩⟩⟩⟩⟩⟩⟩⟩⟩⟩⟩⟩⟩⟩⟩⟩⟩⟩⟩⟩⟩⟩⟩⟩⟩
theorem f_me_200 : ∀ y ∈ [200, 201, 202, 203, 204, 205, 206, 207, 208, 209, 210, 211, 212, 213, 214, 215, 216, 217, 218, 219, 220, 221, 222, 223, 224, 225, 226, 227, 228, 229, 230, 231, 232, 233], F_me y := List.forall_mem_cons.mpr ⟨f_me200, List.forall_mem_cons.mpr ⟨f_me201, List.forall_mem_cons.mpr ⟨f_me202, List.forall_mem_cons.mpr ⟨f_me203, List.forall_mem_cons.mpr ⟨f_me204, List.forall_mem_cons.mpr ⟨f_me205, List.forall_mem_cons.mpr ⟨f_me206, List.forall_mem_cons.mpr ⟨f_me207, List.forall_mem_cons.mpr ⟨f_me208, List.forall_mem_cons.mpr ⟨f_me209, List.forall_mem_cons.mpr ⟨f_me210, List.forall_mem_cons.mpr ⟨f_me211, List.forall_mem_cons.mpr ⟨f_me212, List.forall_mem_cons.mpr ⟨f_me213, List.forall_mem_cons.mpr ⟨f_me214, List.forall_mem_cons.mpr ⟨f_me215, List.forall_mem_cons.mpr ⟨f_me216, List.forall_mem_cons.mpr ⟨f_me217, List.forall_mem_cons.mpr ⟨f_me218, List.forall_mem_cons.mpr ⟨f_me219, List.forall_mem_cons.mpr ⟨f_me220, List.forall_mem_cons.mpr ⟨f_me221, List.forall_mem_cons.mpr ⟨f_me222, List.forall_mem_cons.mpr ⟨f_me223, List.forall_mem_cons.mpr ⟨f_me224, List.forall_mem_cons.mpr ⟨f_me225, List.forall_mem_cons.mpr ⟨f_me226, List.forall_mem_cons.mpr ⟨f_me227, List.forall_mem_cons.mpr ⟨f_me228, List.forall_mem_cons.mpr ⟨f_me229, List.forall_mem_cons.mpr ⟨f_me230, List.forall_mem_cons.mpr ⟨f_me231, List.forall_mem_cons.mpr ⟨f_me232, List.forall_mem_cons.mpr ⟨f_me233, fun _ h => absurd h List.not_mem_nil⟩⟩⟩⟩⟩⟩⟩⟩⟩⟩⟩⟩⟩⟩⟩⟩⟩⟩⟩⟩⟩⟩⟩⟩⟩⟩⟩⟩⟩⟩⟩⟩⟩⟩
theorem f_me (y : Nat) (h : y < 234) : F_me y := by
  by_cases h0 : y < 40
  · exact f_me_0 y (by have h9 := List.mem_range.mpr h; simp only [List.mem_cons, List.not_mem_nil, or_false]; omega)
  by_cases h40 : y < 80
  · exact f_me_40 y (by have h9 := List.mem_range.mpr h; simp only [List.mem_cons, List.not_mem_nil, or_false]; omega)
  by_cases h80 : y < 120
  · exact f_me_80 y (by have h9 := List.mem_range.mpr h; simp only [List.mem_cons, List.not_mem_nil, or_false]; omega)
  by_cases h120 : y < 160
  · exact f_me_120 y (by have h9 := List.mem_range.mpr h; simp only [List.mem_cons, List.not_mem_nil, or_false]; omega)
  by_cases h160 : y < 200
  · exact f_me_160 y (by have h9 := List.mem_range.mpr h; simp only [List.mem_cons, List.not_mem_nil, or_false]; omega)
  by_cases h200 : y < 234
  · exact f_me_200 y (by have h9 := List.mem_range.mpr h; simp only [List.mem_cons, List.not_mem_nil, or_false]; omega)
  omega
def lk_f : List (Nat × Nat × Nat × Nat) := [(2, 9, 2, 0), (7, 9, 7, 2), (7, 15, 7, 0), (7, 19, 7, 1), (8, 9, 8, 0), (8, 15, 8, 4), (8, 19, 8, 5), (8, 28, 8, 6), (8, 31, 8, 7), (8, 34, 8, 8), (8, 37, 8, 9), (8, 40, 8, 10), (8, 43, 8, 11), (8, 46, 8, 12), (8, 49, 8, 1), (8, 53, 8, 2), (8, 56, 8, 3), (9, 9, 9, 0), (9, 15, 9, 1), (9, 19, 9, 4), (9, 26, 9, 3), (9, 32, 9, 2), (9, 49, 8, 0), (9, 69, 9, 5), (10, 32, 10, 0), (10, 36, 10, 1), (10, 39, 10, 2), (10, 42, 10, 3), (10, 49, 10, 4), (10, 56, 10, 5), (10, 63, 10, 6), (10, 88, 8, 4), (10, 95, 8, 5), (10, 101, 8, 1), (10, 105, 8, 2), (10, 149, 8, 7), (10, 152, 8, 8), (10, 155, 8, 9), (10, 158, 8, 10), (10, 161, 8, 11), (10, 164, 8, 6), (10, 181, 8, 12), (10, 206, 8, 3), (10, 209, 9, 1), (10, 230, 7, 1), (10, 233, 7, 2), (10, 241, 7, 0), (10, 268, 2, 0), (11, 7, 11, 0), (11, 13, 11, 1), (11, 16, 11, 2), (11, 19, 11, 3), (11, 22, 11, 4), (11, 25, 11, 6), (11, 29, 11, 7), (11, 32, 11, 13), (11, 35, 11, 14), (11, 38, 11, 15), (11, 42, 11, 16), (11, 220, 11, 8), (11, 231, 11, 10), (11, 234, 11, 9), (11, 246, 11, 12), (11, 257, 11, 11), (11, 317, 11, 5)]
set_option maxRecDepth 100000 in
theorem lk_f_0 : ∀ q ∈ ([(2, 9, 2, 0), (7, 9, 7, 2), (7, 15, 7, 0), (7, 19, 7, 1), (8, 9, 8, 0), (8, 15, 8, 4), (8, 19, 8, 5), (8, 28, 8, 6), (8, 31, 8, 7), (8, 34, 8, 8), (8, 37, 8, 9), (8, 40, 8, 10), (8, 43, 8, 11), (8, 46, 8, 12), (8, 49, 8, 1), (8, 53, 8, 2), (8, 56, 8, 3), (9, 9, 9, 0), (9, 15, 9, 1), (9, 19, 9, 4), (9, 26, 9, 3), (9, 32, 9, 2), (9, 49, 8, 0), (9, 69, 9, 5), (10, 32, 10, 0), (10, 36, 10, 1), (10, 39, 10, 2), (10, 42, 10, 3), (10, 49, 10, 4), (10, 56, 10, 5), (10, 63, 10, 6), (10, 88, 8, 4), (10, 95, 8, 5), (10, 101, 8, 1), (10, 105, 8, 2), (10, 149, 8, 7), (10, 152, 8, 8), (10, 155, 8, 9), (10, 158, 8, 10), (10, 161, 8, 11)] : List (Nat × Nat × Nat × Nat)), q.2.2.1 < 12 ∧ q.2.2.2 < sv_cN q.2.2.1 ∧ (sv_cT q.2.2.1 q.2.2.2).1 = sv_cn q.2.2.1 ∧ Cond.fieldLink (sv_cn q.1) q.2.1 (sv_cn q.2.2.1) (sv_cT q.2.2.1 q.2.2.2).2.1 (sv_cT q.2.2.1 q.2.2.2).2.2.1 ∈ lw_tbl := List.forall_mem_cons.mpr ⟨⟨by decide, by decide, rfl, tb_1 (List.mem_of_getElem? (i := 188) rfl)⟩, List.forall_mem_cons.mpr ⟨⟨by decide, by decide, rfl, tb_1 (List.mem_of_getElem? (i := 172) rfl)⟩, List.forall_mem_cons.mpr ⟨⟨by decide, by decide, rfl, tb_1 (List.mem_of_getElem? (i := 168) rfl)⟩, List.forall_mem_cons.mpr ⟨⟨by decide, by decide, rfl, tb_1 (List.mem_of_getElem? (i := 170) rfl)⟩, List.forall_mem_cons.mpr ⟨⟨by decide, by decide, rfl, tb_1 (List.mem_of_getElem? (i := 81) rfl)⟩, List.forall_mem_cons.mpr ⟨⟨by decide, by decide, rfl, tb_1 (List.mem_of_getElem? (i := 89) rfl)⟩, List.forall_mem_cons.mpr ⟨⟨by decide, by decide, rfl, tb_1 (List.mem_of_getElem? (i := 91) rfl)⟩, List.forall_mem_cons.mpr ⟨⟨by decide, by decide, rfl, tb_1 (List.mem_of_getElem? (i := 93) rfl)⟩, List.forall_mem_cons.mpr ⟨⟨by decide, by decide, rfl, tb_1 (List.mem_of_getElem? (i := 95) rfl)⟩, List.forall_mem_cons.mpr ⟨⟨by decide, by decide, rfl, tb_1 (List.mem_of_getElem? (i := 97) rfl)⟩, List.forall_mem_cons.mpr ⟨⟨by decide, by decide, rfl, tb_1 (List.mem_of_getElem? (i := 99) rfl)⟩, List.forall_mem_cons.mpr ⟨⟨by decide, by decide, rfl, tb_1 (List.mem_of_getElem? (i := 101) rfl)⟩, List.forall_mem_cons.mpr ⟨⟨by decide, by decide, rfl, tb_1 (List.mem_of_getElem? (i := 103) rfl)⟩, List.forall_mem_cons.mpr ⟨⟨by decide, by decide, rfl, tb_1 (List.mem_of_getElem? (i := 105) rfl)⟩, List.forall_mem_cons.mpr ⟨⟨by decide, by decide, rfl, tb_1 (List.mem_of_getElem? (i := 83) rfl)⟩, List.forall_mem_cons.mpr ⟨⟨by decide, by decide, rfl, tb_1 (List.mem_of_getElem? (i := 85) rfl)⟩, List.forall_mem_cons.mpr ⟨⟨by decide, by decide, rfl, tb_1 (List.mem_of_getElem? (i := 87) rfl)⟩, List.forall_mem_cons.mpr ⟨⟨by decide, by decide, rfl, tb_1 (List.mem_of_getElem? (i := 141) rfl)⟩, List.forall_mem_cons.mpr ⟨⟨by decide, by decide, rfl, tb_1 (List.mem_of_getElem? (i := 142) rfl)⟩, List.forall_mem_cons.mpr ⟨⟨by decide, by decide, rfl, tb_1 (List.mem_of_getElem? (i := 146) rfl)⟩, List.forall_mem_cons.mpr ⟨⟨by decide, by decide, rfl, tb_1 (List.mem_of_getElem? (i := 145) rfl)⟩, List.forall_mem_cons.mpr ⟨⟨by decide, by decide, rfl, tb_1 (List.mem_of_getElem? (i := 144) rfl)⟩, List.forall_mem_cons.mpr ⟨⟨by decide, by decide, rfl, tb_1 (List.mem_of_getElem? (i := 82) rfl)⟩, List.forall_mem_cons.mpr ⟨⟨by decide, by decide, rfl, tb_1 (List.mem_of_getElem? (i := 147) rfl)⟩, List.forall_mem_cons.mpr ⟨⟨by decide, by decide, rfl, tb_1 (List.mem_of_getElem? (i := 193) rfl)⟩, List.forall_mem_cons.mpr ⟨⟨by decide, by decide, rfl, tb_1 (List.mem_of_getElem? (i := 194) rfl)⟩, List.forall_mem_cons.mpr ⟨⟨by decide, by decide, rfl, tb_1 (List.mem_of_getElem? (i := 195) rfl)⟩, List.forall_mem_cons.mpr ⟨⟨by decide, by decide, rfl, tb_1 (List.mem_of_getElem? (i := 196) rfl)⟩, List.forall_mem_cons.mpr ⟨⟨by decide, by decide, rfl, tb_1 (List.mem_of_getElem? (i := 197) rfl)⟩, List.forall_mem_cons.mpr ⟨⟨by decide, by decide, rfl, tb_1 (List.mem_of_getElem? (i := 198) rfl)⟩, List.forall_mem_cons.mpr ⟨⟨by decide, by decide, rfl, tb_1 (List.mem_of_getElem? (i := 199) rfl)⟩, List.forall_mem_cons.mpr ⟨⟨by decide, by decide, rfl, tb_1 (List.mem_of_getElem? (i := 90) rfl)⟩, List.forall_mem_cons.mpr ⟨⟨by decide, by decide, rfl, tb_1 (List.mem_of_getElem? (i := 92) rfl)⟩, List.forall_mem_cons.mpr ⟨⟨by decide, by decide, rfl, tb_1 (List.mem_of_getElem? (i := 84) rfl)⟩, List.forall_mem_cons.mpr ⟨⟨by decide, by decide, rfl, tb_1 (List.mem_of_getElem? (i := 86) rfl)⟩, List.forall_mem_cons.mpr ⟨⟨by decide, by decide, rfl, tb_1 (List.mem_of_getElem? (i := 96) rfl)⟩, List.forall_mem_cons.mpr ⟨⟨by decide, by decide, rfl, tb_1 (List.mem_of_getElem? (i := 98) rfl)⟩, List.forall_mem_cons.mpr ⟨⟨by decide, by decide, rfl, tb_1 (List.mem_of_getElem? (i := 100) rfl)⟩, List.forall_mem_cons.mpr ⟨⟨by decide, by decide, rfl, tb_1 (List.mem_of_getElem? (i := 102) rfl)⟩, List.forall_mem_cons.mpr ⟨⟨by decide, by decide, rfl, tb_1 (List.mem_of_getElem? (i := 104) rfl)⟩, fun _ h => absurd h List.not_mem_nil⟩⟩⟩⟩⟩⟩⟩⟩⟩⟩⟩⟩⟩⟩⟩⟩⟩⟩⟩⟩⟩⟩⟩⟩⟩⟩⟩⟩⟩⟩⟩⟩⟩⟩⟩⟩⟩⟩⟩⟩
set_option maxRecDepth 100000 in
theorem lk_f_40 : ∀ q ∈ ([(10, 164, 8, 6), (10, 181, 8, 12), (10, 206, 8, 3), (10, 209, 9, 1), (10, 230, 7, 1), (10, 233, 7, 2), (10, 241, 7, 0), (10, 268, 2, 0), (11, 7, 11, 0), (11, 13, 11, 1), (11, 16, 11, 2), (11, 19, 11, 3), (11, 22, 11, 4), (11, 25, 11, 6), (11, 29, 11, 7), (11, 32, 11, 13), (11, 35, 11, 14), (11, 38, 11, 15), (11, 42, 11, 16), (11, 220, 11, 8), (11, 231, 11, 10), (11, 234, 11, 9), (11, 246, 11, 12), (11, 257, 11, 11), (11, 317, 11, 5)] : List (Nat × Nat × Nat × Nat)), q.2.2.1 < 12 ∧ q.2.2.2 < sv_cN q.2.2.1 ∧ (sv_cT q.2.2.1 q.2.2.2).1 = sv_cn q.2.2.1 ∧ Cond.fieldLink (sv_cn q.1) q.2.1 (sv_cn q.2.2.1) (sv_cT q.2.2.1 q.2.2.2).2.1 (sv_cT q.2.2.1 q.2.2.2).2.2.1 ∈ lw_tbl := List.forall_mem_cons.mpr ⟨⟨by decide, by decide, rfl, tb_1 (List.mem_of_getElem? (i := 94) rfl)⟩, List.forall_mem_cons.mpr ⟨⟨by decide, by decide, rfl, tb_1 (List.mem_of_getElem? (i := 106) rfl)⟩, List.forall_mem_cons.mpr ⟨⟨by decide, by decide, rfl, tb_1 (List.mem_of_getElem? (i := 88) rfl)⟩, List.forall_mem_cons.mpr ⟨⟨by decide, by decide, rfl, tb_1 (List.mem_of_getElem? (i := 143) rfl)⟩, List.forall_mem_cons.mpr ⟨⟨by decide, by decide, rfl, tb_1 (List.mem_of_getElem? (i := 171) rfl)⟩, List.forall_mem_cons.mpr ⟨⟨by decide, by decide, rfl, tb_1 (List.mem_of_getElem? (i := 173) rfl)⟩, List.forall_mem_cons.mpr ⟨⟨by decide, by decide, rfl, tb_1 (List.mem_of_getElem? (i := 169) rfl)⟩, List.forall_mem_cons.mpr ⟨⟨by decide, by decide, rfl, tb_1 (List.mem_of_getElem? (i := 189) rfl)⟩, List.forall_mem_cons.mpr ⟨⟨by decide, by decide, rfl, tb_4 (List.mem_of_getElem? (i := 75) rfl)⟩, List.forall_mem_cons.mpr ⟨⟨by decide, by decide, rfl, tb_4 (List.mem_of_getElem? (i := 76) rfl)⟩, List.forall_mem_cons.mpr ⟨⟨by decide, by decide, rfl, tb_4 (List.mem_of_getElem? (i := 77) rfl)⟩, List.forall_mem_cons.mpr ⟨⟨by decide, by decide, rfl, tb_4 (List.mem_of_getElem? (i := 78) rfl)⟩, List.forall_mem_cons.mpr ⟨⟨by decide, by decide, rfl, tb_4 (List.mem_of_getElem? (i := 79) rfl)⟩, List.forall_mem_cons.mpr ⟨⟨by decide, by decide, rfl, tb_4 (List.mem_of_getElem? (i := 81) rfl)⟩, List.forall_mem_cons.mpr ⟨⟨by decide, by decide, rfl, tb_4 (List.mem_of_getElem? (i := 82) rfl)⟩, List.forall_mem_cons.mpr ⟨⟨by decide, by decide, rfl, tb_4 (List.mem_of_getElem? (i := 88) rfl)⟩, List.forall_mem_cons.mpr ⟨⟨by decide, by decide, rfl, tb_4 (List.mem_of_getElem? (i := 89) rfl)⟩, List.forall_mem_cons.mpr ⟨⟨by decide, by decide, rfl, tb_4 (List.mem_of_getElem? (i := 90) rfl)⟩, List.forall_mem_cons.mpr ⟨⟨by decide, by decide, rfl, tb_4 (List.mem_of_getElem? (i := 91) rfl)⟩, List.forall_mem_cons.mpr ⟨⟨by decide, by decide, rfl, tb_4 (List.mem_of_getElem? (i := 83) rfl)⟩, List.forall_mem_cons.mpr ⟨⟨by decide, by decide, rfl, tb_4 (List.mem_of_getElem? (i := 85) rfl)⟩, List.forall_mem_cons.mpr ⟨⟨by decide, by decide, rfl, tb_4 (List.mem_of_getElem? (i := 84) rfl)⟩, List.forall_mem_cons.mpr ⟨⟨by decide, by decide, rfl, tb_4 (List.mem_of_getElem? (i := 87) rfl)⟩, List.forall_mem_cons.mpr ⟨⟨by decide, by decide, rfl, tb_4 (List.mem_of_getElem? (i := 86) rfl)⟩, List.forall_mem_cons.mpr ⟨⟨by decide, by decide, rfl, tb_4 (List.mem_of_getElem? (i := 80) rfl)⟩, fun _ h => absurd h List.not_mem_nil⟩⟩⟩⟩⟩⟩⟩⟩⟩⟩⟩⟩⟩⟩⟩⟩⟩⟩⟩⟩⟩⟩⟩⟩⟩
theorem lk_f_ok : ∀ q ∈ lk_f, q.2.2.1 < 12 ∧ q.2.2.2 < sv_cN q.2.2.1 ∧ (sv_cT q.2.2.1 q.2.2.2).1 = sv_cn q.2.2.1 ∧ Cond.fieldLink (sv_cn q.1) q.2.1 (sv_cn q.2.2.1) (sv_cT q.2.2.1 q.2.2.2).2.1 (sv_cT q.2.2.1 q.2.2.2).2.2.1 ∈ lw_tbl := by
  intro q hq
  have e : lk_f = ([(2, 9, 2, 0), (7, 9, 7, 2), (7, 15, 7, 0), (7, 19, 7, 1), (8, 9, 8, 0), (8, 15, 8, 4), (8, 19, 8, 5), (8, 28, 8, 6), (8, 31, 8, 7), (8, 34, 8, 8), (8, 37, 8, 9), (8, 40, 8, 10), (8, 43, 8, 11), (8, 46, 8, 12), (8, 49, 8, 1), (8, 53, 8, 2), (8, 56, 8, 3), (9, 9, 9, 0), (9, 15, 9, 1), (9, 19, 9, 4), (9, 26, 9, 3), (9, 32, 9, 2), (9, 49, 8, 0), (9, 69, 9, 5), (10, 32, 10, 0), (10, 36, 10, 1), (10, 39, 10, 2), (10, 42, 10, 3), (10, 49, 10, 4), (10, 56, 10, 5), (10, 63, 10, 6), (10, 88, 8, 4), (10, 95, 8, 5), (10, 101, 8, 1), (10, 105, 8, 2), (10, 149, 8, 7), (10, 152, 8, 8), (10, 155, 8, 9), (10, 158, 8, 10), (10, 161, 8, 11)] : List (Nat × Nat × Nat × Nat)) ++ (([(10, 164, 8, 6), (10, 181, 8, 12), (10, 206, 8, 3), (10, 209, 9, 1), (10, 230, 7, 1), (10, 233, 7, 2), (10, 241, 7, 0), (10, 268, 2, 0), (11, 7, 11, 0), (11, 13, 11, 1), (11, 16, 11, 2), (11, 19, 11, 3), (11, 22, 11, 4), (11, 25, 11, 6), (11, 29, 11, 7), (11, 32, 11, 13), (11, 35, 11, 14), (11, 38, 11, 15), (11, 42, 11, 16), (11, 220, 11, 8), (11, 231, 11, 10), (11, 234, 11, 9), (11, 246, 11, 12), (11, 257, 11, 11), (11, 317, 11, 5)] : List (Nat × Nat × Nat × Nat))) := rfl
  rw [e] at hq
  rcases List.mem_append.mp hq with hq | hq
  · exact lk_f_0 q hq
  exact lk_f_40 q hq
def lk_c : List (Nat × Nat × Nat) := [(10, 9, 5), (10, 12, 1), (10, 15, 0), (10, 18, 6), (10, 21, 4), (10, 24, 3), (10, 27, 8), (10, 46, 9), (10, 53, 7), (10, 60, 2), (12, 7, 10), (12, 10, 11)]
set_option maxRecDepth 100000 in
theorem lk_c_0 : ∀ q ∈ ([(10, 9, 5), (10, 12, 1), (10, 15, 0), (10, 18, 6), (10, 21, 4), (10, 24, 3), (10, 27, 8), (10, 46, 9), (10, 53, 7), (10, 60, 2), (12, 7, 10), (12, 10, 11)] : List (Nat × Nat × Nat)), q.2.2 < 12 ∧ Cond.classLink (sv_cn q.1) q.2.1 (sv_cn q.2.2) ∈ lw_tbl := List.forall_mem_cons.mpr ⟨⟨by decide, tb_1 (List.mem_of_getElem? (i := 29) rfl)⟩, List.forall_mem_cons.mpr ⟨⟨by decide, tb_1 (List.mem_of_getElem? (i := 37) rfl)⟩, List.forall_mem_cons.mpr ⟨⟨by decide, tb_1 (List.mem_of_getElem? (i := 44) rfl)⟩, List.forall_mem_cons.mpr ⟨⟨by decide, tb_1 (List.mem_of_getElem? (i := 51) rfl)⟩, List.forall_mem_cons.mpr ⟨⟨by decide, tb_1 (List.mem_of_getElem? (i := 58) rfl)⟩, List.forall_mem_cons.mpr ⟨⟨by decide, tb_1 (List.mem_of_getElem? (i := 65) rfl)⟩, List.forall_mem_cons.mpr ⟨⟨by decide, tb_1 (List.mem_of_getElem? (i := 72) rfl)⟩, List.forall_mem_cons.mpr ⟨⟨by decide, tb_1 (List.mem_of_getElem? (i := 135) rfl)⟩, List.forall_mem_cons.mpr ⟨⟨by decide, tb_1 (List.mem_of_getElem? (i := 161) rfl)⟩, List.forall_mem_cons.mpr ⟨⟨by decide, tb_1 (List.mem_of_getElem? (i := 182) rfl)⟩, List.forall_mem_cons.mpr ⟨⟨by decide, tb_1 (List.mem_of_getElem? (i := 21) rfl)⟩, List.forall_mem_cons.mpr ⟨⟨by decide, tb_4 (List.mem_of_getElem? (i := 69) rfl)⟩, fun _ h => absurd h List.not_mem_nil⟩⟩⟩⟩⟩⟩⟩⟩⟩⟩⟩⟩
theorem lk_c_ok : ∀ q ∈ lk_c, q.2.2 < 12 ∧ Cond.classLink (sv_cn q.1) q.2.1 (sv_cn q.2.2) ∈ lw_tbl := by
  intro q hq
  have e : lk_c = ([(10, 9, 5), (10, 12, 1), (10, 15, 0), (10, 18, 6), (10, 21, 4), (10, 24, 3), (10, 27, 8), (10, 46, 9), (10, 53, 7), (10, 60, 2), (12, 7, 10), (12, 10, 11)] : List (Nat × Nat × Nat)) := rfl
  rw [e] at hq
  exact lk_c_0 q hq
def lk_k : List (Nat × Nat × Int32) := [(2, 15, (-1000000001)), (10, 75, (-1000000001)), (10, 125, (-1000000002)), (10, 171, (-1000000003)), (10, 172, 99999), (10, 173, (-1000000005)), (10, 201, 59995), (10, 205, (-1000000004)), (10, 222, (-1000000007)), (10, 229, (-1000000006)), (11, 45, (-1000000001)), (11, 106, (-1000000002)), (11, 137, (-1000000003)), (11, 172, 99999), (11, 173, (-1000000005)), (11, 196, (-1000000004)), (11, 208, 999999), (11, 305, (-1000000007)), (11, 306, (-1000000006)), (14, 265, 1431655765), (14, 266, 858993459), (14, 267, 252645135)]
set_option maxRecDepth 100000 in
theorem lk_k_0 : ∀ q ∈ ([(2, 15, (-1000000001)), (10, 75, (-1000000001)), (10, 125, (-1000000002)), (10, 171, (-1000000003)), (10, 172, 99999), (10, 173, (-1000000005)), (10, 201, 59995), (10, 205, (-1000000004)), (10, 222, (-1000000007)), (10, 229, (-1000000006)), (11, 45, (-1000000001)), (11, 106, (-1000000002)), (11, 137, (-1000000003)), (11, 172, 99999), (11, 173, (-1000000005)), (11, 196, (-1000000004)), (11, 208, 999999), (11, 305, (-1000000007)), (11, 306, (-1000000006)), (14, 265, 1431655765), (14, 266, 858993459), (14, 267, 252645135)] : List (Nat × Nat × Int32)), Cond.constant (sv_cn q.1) q.2.1 q.2.2 ∈ lw_tbl := List.forall_mem_cons.mpr ⟨tb_1 (List.mem_of_getElem? (i := 230) rfl), List.forall_mem_cons.mpr ⟨tb_1 (List.mem_of_getElem? (i := 225) rfl), List.forall_mem_cons.mpr ⟨tb_2 (List.mem_of_getElem? (i := 53) rfl), List.forall_mem_cons.mpr ⟨tb_2 (List.mem_of_getElem? (i := 191) rfl), List.forall_mem_cons.mpr ⟨tb_2 (List.mem_of_getElem? (i := 196) rfl), List.forall_mem_cons.mpr ⟨tb_2 (List.mem_of_getElem? (i := 197) rfl), List.forall_mem_cons.mpr ⟨tb_3 (List.mem_of_getElem? (i := 70) rfl), List.forall_mem_cons.mpr ⟨tb_3 (List.mem_of_getElem? (i := 35) rfl), List.forall_mem_cons.mpr ⟨tb_3 (List.mem_of_getElem? (i := 234) rfl), List.forall_mem_cons.mpr ⟨tb_4 (List.mem_of_getElem? (i := 10) rfl), List.forall_mem_cons.mpr ⟨tb_4 (List.mem_of_getElem? (i := 146) rfl), List.forall_mem_cons.mpr ⟨tb_4 (List.mem_of_getElem? (i := 211) rfl), List.forall_mem_cons.mpr ⟨tb_5 (List.mem_of_getElem? (i := 25) rfl), List.forall_mem_cons.mpr ⟨tb_5 (List.mem_of_getElem? (i := 31) rfl), List.forall_mem_cons.mpr ⟨tb_5 (List.mem_of_getElem? (i := 32) rfl), List.forall_mem_cons.mpr ⟨tb_5 (List.mem_of_getElem? (i := 113) rfl), List.forall_mem_cons.mpr ⟨tb_5 (List.mem_of_getElem? (i := 142) rfl), List.forall_mem_cons.mpr ⟨tb_6 (List.mem_of_getElem? (i := 7) rfl), List.forall_mem_cons.mpr ⟨tb_6 (List.mem_of_getElem? (i := 16) rfl), List.forall_mem_cons.mpr ⟨tb_3 (List.mem_of_getElem? (i := 63) rfl), List.forall_mem_cons.mpr ⟨tb_3 (List.mem_of_getElem? (i := 64) rfl), List.forall_mem_cons.mpr ⟨tb_3 (List.mem_of_getElem? (i := 65) rfl), fun _ h => absurd h List.not_mem_nil⟩⟩⟩⟩⟩⟩⟩⟩⟩⟩⟩⟩⟩⟩⟩⟩⟩⟩⟩⟩⟩⟩
theorem lk_k_ok : ∀ q ∈ lk_k, Cond.constant (sv_cn q.1) q.2.1 q.2.2 ∈ lw_tbl := by
  intro q hq
  have e : lk_k = ([(2, 15, (-1000000001)), (10, 75, (-1000000001)), (10, 125, (-1000000002)), (10, 171, (-1000000003)), (10, 172, 99999), (10, 173, (-1000000005)), (10, 201, 59995), (10, 205, (-1000000004)), (10, 222, (-1000000007)), (10, 229, (-1000000006)), (11, 45, (-1000000001)), (11, 106, (-1000000002)), (11, 137, (-1000000003)), (11, 172, 99999), (11, 173, (-1000000005)), (11, 196, (-1000000004)), (11, 208, 999999), (11, 305, (-1000000007)), (11, 306, (-1000000006)), (14, 265, 1431655765), (14, 266, 858993459), (14, 267, 252645135)] : List (Nat × Nat × Int32)) := rfl
  rw [e] at hq
  exact lk_k_0 q hq
def lk_l : List (Nat × Nat × Int64) := [(11, 53, 29), (11, 59, 5), (11, 64, 99), (11, 77, 3), (11, 88, (-1)), (11, 114, 9), (11, 131, 9999), (11, 170, 100), (11, 177, 200), (11, 188, 2), (11, 200, 60), (11, 218, 4), (11, 223, 97), (11, 225, 122), (11, 227, 48), (11, 229, 57), (11, 253, 36028797018963967), (11, 255, 32), (11, 268, 441733), (11, 270, 143891634), (11, 272, 3274253490), (11, 274, 19516410020), (11, 276, 437899442), (11, 278, 9314051250), (11, 289, 4775), (11, 294, 642894004), (11, 323, 6), (12, 125, 4294967295)]
set_option maxRecDepth 100000 in
theorem lk_l_0 : ∀ q ∈ ([(11, 53, 29), (11, 59, 5), (11, 64, 99), (11, 77, 3), (11, 88, (-1)), (11, 114, 9), (11, 131, 9999), (11, 170, 100), (11, 177, 200), (11, 188, 2), (11, 200, 60), (11, 218, 4), (11, 223, 97), (11, 225, 122), (11, 227, 48), (11, 229, 57), (11, 253, 36028797018963967), (11, 255, 32), (11, 268, 441733), (11, 270, 143891634), (11, 272, 3274253490), (11, 274, 19516410020), (11, 276, 437899442), (11, 278, 9314051250), (11, 289, 4775), (11, 294, 642894004), (11, 323, 6), (12, 125, 4294967295)] : List (Nat × Nat × Int64)), Cond.constantLong (sv_cn q.1) q.2.1 q.2.2 ∈ lw_tbl := List.forall_mem_cons.mpr ⟨tb_4 (List.mem_of_getElem? (i := 138) rfl), List.forall_mem_cons.mpr ⟨tb_4 (List.mem_of_getElem? (i := 178) rfl), List.forall_mem_cons.mpr ⟨tb_4 (List.mem_of_getElem? (i := 134) rfl), List.forall_mem_cons.mpr ⟨tb_4 (List.mem_of_getElem? (i := 155) rfl), List.forall_mem_cons.mpr ⟨tb_4 (List.mem_of_getElem? (i := 179) rfl), List.forall_mem_cons.mpr ⟨tb_4 (List.mem_of_getElem? (i := 224) rfl), List.forall_mem_cons.mpr ⟨tb_5 (List.mem_of_getElem? (i := 13) rfl), List.forall_mem_cons.mpr ⟨tb_5 (List.mem_of_getElem? (i := 30) rfl), List.forall_mem_cons.mpr ⟨tb_5 (List.mem_of_getElem? (i := 83) rfl), List.forall_mem_cons.mpr ⟨tb_5 (List.mem_of_getElem? (i := 84) rfl), List.forall_mem_cons.mpr ⟨tb_5 (List.mem_of_getElem? (i := 133) rfl), List.forall_mem_cons.mpr ⟨tb_5 (List.mem_of_getElem? (i := 171) rfl), List.forall_mem_cons.mpr ⟨tb_5 (List.mem_of_getElem? (i := 191) rfl), List.forall_mem_cons.mpr ⟨tb_5 (List.mem_of_getElem? (i := 192) rfl), List.forall_mem_cons.mpr ⟨tb_5 (List.mem_of_getElem? (i := 196) rfl), List.forall_mem_cons.mpr ⟨tb_5 (List.mem_of_getElem? (i := 197) rfl), List.forall_mem_cons.mpr ⟨tb_5 (List.mem_of_getElem? (i := 210) rfl), List.forall_mem_cons.mpr ⟨tb_5 (List.mem_of_getElem? (i := 211) rfl), List.forall_mem_cons.mpr ⟨tb_5 (List.mem_of_getElem? (i := 212) rfl), List.forall_mem_cons.mpr ⟨tb_5 (List.mem_of_getElem? (i := 213) rfl), List.forall_mem_cons.mpr ⟨tb_5 (List.mem_of_getElem? (i := 214) rfl), List.forall_mem_cons.mpr ⟨tb_5 (List.mem_of_getElem? (i := 215) rfl), List.forall_mem_cons.mpr ⟨tb_5 (List.mem_of_getElem? (i := 216) rfl), List.forall_mem_cons.mpr ⟨tb_5 (List.mem_of_getElem? (i := 217) rfl), List.forall_mem_cons.mpr ⟨tb_5 (List.mem_of_getElem? (i := 230) rfl), List.forall_mem_cons.mpr ⟨tb_5 (List.mem_of_getElem? (i := 235) rfl), List.forall_mem_cons.mpr ⟨tb_6 (List.mem_of_getElem? (i := 64) rfl), List.forall_mem_cons.mpr ⟨tb_6 (List.mem_of_getElem? (i := 65) rfl), fun _ h => absurd h List.not_mem_nil⟩⟩⟩⟩⟩⟩⟩⟩⟩⟩⟩⟩⟩⟩⟩⟩⟩⟩⟩⟩⟩⟩⟩⟩⟩⟩⟩⟩
theorem lk_l_ok : ∀ q ∈ lk_l, Cond.constantLong (sv_cn q.1) q.2.1 q.2.2 ∈ lw_tbl := by
  intro q hq
  have e : lk_l = ([(11, 53, 29), (11, 59, 5), (11, 64, 99), (11, 77, 3), (11, 88, (-1)), (11, 114, 9), (11, 131, 9999), (11, 170, 100), (11, 177, 200), (11, 188, 2), (11, 200, 60), (11, 218, 4), (11, 223, 97), (11, 225, 122), (11, 227, 48), (11, 229, 57), (11, 253, 36028797018963967), (11, 255, 32), (11, 268, 441733), (11, 270, 143891634), (11, 272, 3274253490), (11, 274, 19516410020), (11, 276, 437899442), (11, 278, 9314051250), (11, 289, 4775), (11, 294, 642894004), (11, 323, 6), (12, 125, 4294967295)] : List (Nat × Nat × Int64)) := rfl
  rw [e] at hq
  exact lk_l_0 q hq
def lk_s : List (Nat × Nat × Nat) := [(10, 118, 121), (10, 146, 125), (10, 167, 126), (10, 196, 231), (10, 219, 122), (10, 67, 119), (10, 71, 118), (10, 92, 120), (11, 103, 146), (11, 133, 170), (11, 138, 147), (11, 185, 182), (11, 202, 193), (11, 240, 203), (11, 243, 204), (11, 302, 215), (11, 310, 217), (11, 46, 140), (11, 50, 139), (11, 55, 132), (11, 66, 143), (11, 85, 144), (7, 22, 232), (8, 22, 233), (9, 102, 79), (9, 96, 78)]
set_option maxRecDepth 100000 in
theorem lk_s_0 : ∀ q ∈ ([(10, 118, 121), (10, 146, 125), (10, 167, 126), (10, 196, 231), (10, 219, 122), (10, 67, 119), (10, 71, 118), (10, 92, 120), (11, 103, 146), (11, 133, 170), (11, 138, 147), (11, 185, 182), (11, 202, 193), (11, 240, 203), (11, 243, 204), (11, 302, 215), (11, 310, 217), (11, 46, 140), (11, 50, 139), (11, 55, 132), (11, 66, 143), (11, 85, 144), (7, 22, 232), (8, 22, 233), (9, 102, 79), (9, 96, 78)] : List (Nat × Nat × Nat)), Cond.methodLink (sv_cn q.1) q.2.1 (sv_y q.2.2) ∈ lw_tbl ∧ Cond.static (sv_y q.2.2) ∈ lw_tbl ∧ q.2.2 < 234 := List.forall_mem_cons.mpr ⟨⟨tb_2 (List.mem_of_getElem? (i := 46) rfl), tb_2 (List.mem_of_getElem? (i := 47) rfl), by decide⟩, List.forall_mem_cons.mpr ⟨⟨tb_2 (List.mem_of_getElem? (i := 177) rfl), tb_2 (List.mem_of_getElem? (i := 178) rfl), by decide⟩, List.forall_mem_cons.mpr ⟨⟨tb_2 (List.mem_of_getElem? (i := 188) rfl), tb_2 (List.mem_of_getElem? (i := 189) rfl), by decide⟩, List.forall_mem_cons.mpr ⟨⟨tb_3 (List.mem_of_getElem? (i := 60) rfl), tb_3 (List.mem_of_getElem? (i := 61) rfl), by decide⟩, List.forall_mem_cons.mpr ⟨⟨tb_3 (List.mem_of_getElem? (i := 231) rfl), tb_3 (List.mem_of_getElem? (i := 232) rfl), by decide⟩, List.forall_mem_cons.mpr ⟨⟨tb_1 (List.mem_of_getElem? (i := 219) rfl), tb_1 (List.mem_of_getElem? (i := 220) rfl), by decide⟩, List.forall_mem_cons.mpr ⟨⟨tb_1 (List.mem_of_getElem? (i := 222) rfl), tb_1 (List.mem_of_getElem? (i := 223) rfl), by decide⟩, List.forall_mem_cons.mpr ⟨⟨tb_2 (List.mem_of_getElem? (i := 19) rfl), tb_2 (List.mem_of_getElem? (i := 20) rfl), by decide⟩, List.forall_mem_cons.mpr ⟨⟨tb_4 (List.mem_of_getElem? (i := 208) rfl), tb_4 (List.mem_of_getElem? (i := 209) rfl), by decide⟩, List.forall_mem_cons.mpr ⟨⟨tb_5 (List.mem_of_getElem? (i := 22) rfl), tb_5 (List.mem_of_getElem? (i := 23) rfl), by decide⟩, List.forall_mem_cons.mpr ⟨⟨tb_5 (List.mem_of_getElem? (i := 49) rfl), tb_5 (List.mem_of_getElem? (i := 50) rfl), by decide⟩, List.forall_mem_cons.mpr ⟨⟨tb_5 (List.mem_of_getElem? (i := 80) rfl), tb_5 (List.mem_of_getElem? (i := 81) rfl), by decide⟩, List.forall_mem_cons.mpr ⟨⟨tb_5 (List.mem_of_getElem? (i := 130) rfl), tb_5 (List.mem_of_getElem? (i := 131) rfl), by decide⟩, List.forall_mem_cons.mpr ⟨⟨tb_5 (List.mem_of_getElem? (i := 188) rfl), tb_5 (List.mem_of_getElem? (i := 189) rfl), by decide⟩, List.forall_mem_cons.mpr ⟨⟨tb_5 (List.mem_of_getElem? (i := 193) rfl), tb_5 (List.mem_of_getElem? (i := 194) rfl), by decide⟩, List.forall_mem_cons.mpr ⟨⟨tb_6 (List.mem_of_getElem? (i := 4) rfl), tb_6 (List.mem_of_getElem? (i := 5) rfl), by decide⟩, List.forall_mem_cons.mpr ⟨⟨tb_6 (List.mem_of_getElem? (i := 17) rfl), tb_6 (List.mem_of_getElem? (i := 18) rfl), by decide⟩, List.forall_mem_cons.mpr ⟨⟨tb_4 (List.mem_of_getElem? (i := 164) rfl), tb_4 (List.mem_of_getElem? (i := 165) rfl), by decide⟩, List.forall_mem_cons.mpr ⟨⟨tb_4 (List.mem_of_getElem? (i := 139) rfl), tb_4 (List.mem_of_getElem? (i := 140) rfl), by decide⟩, List.forall_mem_cons.mpr ⟨⟨tb_4 (List.mem_of_getElem? (i := 131) rfl), tb_4 (List.mem_of_getElem? (i := 132) rfl), by decide⟩, List.forall_mem_cons.mpr ⟨⟨tb_4 (List.mem_of_getElem? (i := 135) rfl), tb_4 (List.mem_of_getElem? (i := 136) rfl), by decide⟩, List.forall_mem_cons.mpr ⟨⟨tb_4 (List.mem_of_getElem? (i := 175) rfl), tb_4 (List.mem_of_getElem? (i := 176) rfl), by decide⟩, List.forall_mem_cons.mpr ⟨⟨tb_3 (List.mem_of_getElem? (i := 239) rfl), tb_4 (List.mem_of_getElem? (i := 0) rfl), by decide⟩, List.forall_mem_cons.mpr ⟨⟨tb_1 (List.mem_of_getElem? (i := 78) rfl), tb_1 (List.mem_of_getElem? (i := 79) rfl), by decide⟩, List.forall_mem_cons.mpr ⟨⟨tb_3 (List.mem_of_getElem? (i := 118) rfl), tb_3 (List.mem_of_getElem? (i := 119) rfl), by decide⟩, List.forall_mem_cons.mpr ⟨⟨tb_3 (List.mem_of_getElem? (i := 111) rfl), tb_3 (List.mem_of_getElem? (i := 112) rfl), by decide⟩, fun _ h => absurd h List.not_mem_nil⟩⟩⟩⟩⟩⟩⟩⟩⟩⟩⟩⟩⟩⟩⟩⟩⟩⟩⟩⟩⟩⟩⟩⟩⟩⟩
theorem lk_s_ok : ∀ q ∈ lk_s, Cond.methodLink (sv_cn q.1) q.2.1 (sv_y q.2.2) ∈ lw_tbl ∧ Cond.static (sv_y q.2.2) ∈ lw_tbl ∧ q.2.2 < 234 := by
  intro q hq
  have e : lk_s = ([(10, 118, 121), (10, 146, 125), (10, 167, 126), (10, 196, 231), (10, 219, 122), (10, 67, 119), (10, 71, 118), (10, 92, 120), (11, 103, 146), (11, 133, 170), (11, 138, 147), (11, 185, 182), (11, 202, 193), (11, 240, 203), (11, 243, 204), (11, 302, 215), (11, 310, 217), (11, 46, 140), (11, 50, 139), (11, 55, 132), (11, 66, 143), (11, 85, 144), (7, 22, 232), (8, 22, 233), (9, 102, 79), (9, 96, 78)] : List (Nat × Nat × Nat)) := rfl
  rw [e] at hq
  exact lk_s_0 q hq
def lk_v : List (Nat × Nat × Nat × Nat) := [(10, 108, 8, 51), (10, 112, 8, 50), (10, 115, 8, 52), (10, 121, 8, 42), (10, 126, 8, 43), (10, 130, 10, 123), (10, 133, 10, 128), (10, 136, 8, 47), (10, 174, 8, 56), (10, 177, 8, 41), (10, 184, 8, 53), (10, 187, 10, 129), (10, 190, 8, 54), (10, 193, 8, 55), (10, 202, 8, 45), (10, 212, 9, 67), (10, 215, 9, 68), (10, 223, 7, 37), (10, 226, 7, 36), (10, 237, 7, 39), (10, 244, 7, 38), (10, 254, 10, 124), (10, 257, 8, 57), (10, 261, 10, 130), (10, 265, 2, 11), (10, 271, 8, 49), (10, 274, 8, 48), (10, 76, 2, 10), (10, 80, 10, 127), (10, 84, 8, 44), (10, 98, 8, 46), (11, 100, 11, 151), (11, 107, 11, 164), (11, 111, 11, 145), (11, 116, 11, 159), (11, 119, 11, 160), (11, 122, 11, 161), (11, 125, 11, 162), (11, 128, 11, 163), (11, 141, 11, 172), (11, 144, 11, 174), (11, 147, 11, 142), (11, 150, 11, 173), (11, 154, 11, 176), (11, 158, 11, 177), (11, 161, 11, 178), (11, 164, 11, 175), (11, 167, 11, 179), (11, 174, 11, 180), (11, 179, 11, 136), (11, 182, 11, 137), (11, 190, 11, 183), (11, 193, 11, 188), (11, 197, 11, 189), (11, 205, 11, 185), (11, 209, 11, 184), (11, 212, 11, 134), (11, 215, 11, 135), (11, 237, 11, 202), (11, 250, 11, 205), (11, 260, 11, 206), (11, 264, 11, 207), (11, 280, 11, 208), (11, 283, 11, 209), (11, 286, 11, 210), (11, 291, 11, 211), (11, 296, 11, 212), (11, 299, 11, 213), (11, 307, 11, 218), (11, 314, 11, 223), (11, 320, 11, 228), (11, 61, 11, 141), (11, 70, 11, 138), (11, 73, 11, 133), (11, 79, 11, 153), (11, 82, 11, 150), (11, 90, 11, 155), (11, 93, 11, 149), (11, 97, 11, 148), (12, 100, 10, 102), (12, 103, 11, 198), (12, 104, 10, 103), (12, 107, 11, 199), (12, 108, 10, 104), (12, 111, 11, 200), (12, 112, 10, 105), (12, 116, 11, 201), (12, 117, 10, 106), (12, 120, 11, 214), (12, 121, 10, 107), (12, 124, 11, 216), (12, 127, 10, 108), (12, 13, 10, 81), (12, 131, 11, 219), (12, 132, 10, 109), (12, 136, 11, 220), (12, 137, 10, 110), (12, 140, 11, 221), (12, 141, 10, 111), (12, 144, 11, 222), (12, 145, 10, 112), (12, 148, 11, 224), (12, 149, 10, 113), (12, 152, 11, 225), (12, 153, 10, 114), (12, 156, 11, 226), (12, 157, 10, 115), (12, 160, 11, 227), (12, 161, 10, 116), (12, 164, 11, 229), (12, 165, 10, 117), (12, 168, 11, 230), (12, 17, 11, 152), (12, 18, 10, 82), (12, 22, 11, 154), (12, 23, 10, 83), (12, 26, 11, 156), (12, 27, 10, 84), (12, 31, 11, 157), (12, 32, 10, 85), (12, 35, 11, 158), (12, 36, 10, 86), (12, 39, 11, 165), (12, 40, 10, 87), (12, 43, 11, 166), (12, 44, 10, 88), (12, 47, 11, 167), (12, 48, 10, 89), (12, 51, 11, 168), (12, 52, 10, 90), (12, 55, 11, 169), (12, 56, 10, 91), (12, 59, 11, 171), (12, 60, 10, 92), (12, 63, 11, 181), (12, 64, 10, 93), (12, 67, 11, 186), (12, 68, 10, 94), (12, 71, 11, 187), (12, 72, 10, 95), (12, 75, 11, 190), (12, 76, 10, 96), (12, 79, 11, 191), (12, 80, 10, 97), (12, 83, 11, 192), (12, 84, 10, 98), (12, 87, 11, 194), (12, 88, 10, 99), (12, 91, 11, 195), (12, 92, 10, 100), (12, 95, 11, 196), (12, 96, 10, 101), (12, 99, 11, 197), (8, 102, 8, 61), (8, 115, 8, 62), (8, 119, 8, 65), (8, 125, 8, 44), (8, 65, 8, 47), (8, 75, 8, 57), (8, 79, 8, 45), (8, 83, 8, 48), (8, 87, 8, 58), (8, 90, 8, 64), (8, 93, 8, 59), (8, 96, 8, 60), (8, 99, 8, 63), (9, 105, 9, 77), (9, 22, 9, 69), (9, 29, 9, 75), (9, 37, 9, 74), (9, 41, 9, 70), (9, 46, 9, 71), (9, 61, 9, 72), (9, 65, 9, 73), (9, 72, 8, 44), (9, 76, 8, 46), (9, 79, 8, 42), (9, 83, 8, 43), (9, 99, 9, 76)]
set_option maxRecDepth 100000 in
theorem lk_v_0 : ∀ q ∈ ([(10, 108, 8, 51), (10, 112, 8, 50), (10, 115, 8, 52), (10, 121, 8, 42), (10, 126, 8, 43), (10, 130, 10, 123), (10, 133, 10, 128), (10, 136, 8, 47), (10, 174, 8, 56), (10, 177, 8, 41), (10, 184, 8, 53), (10, 187, 10, 129), (10, 190, 8, 54), (10, 193, 8, 55), (10, 202, 8, 45), (10, 212, 9, 67), (10, 215, 9, 68), (10, 223, 7, 37), (10, 226, 7, 36), (10, 237, 7, 39), (10, 244, 7, 38), (10, 254, 10, 124), (10, 257, 8, 57), (10, 261, 10, 130), (10, 265, 2, 11), (10, 271, 8, 49), (10, 274, 8, 48), (10, 76, 2, 10), (10, 80, 10, 127), (10, 84, 8, 44), (10, 98, 8, 46), (11, 100, 11, 151), (11, 107, 11, 164), (11, 111, 11, 145), (11, 116, 11, 159), (11, 119, 11, 160), (11, 122, 11, 161), (11, 125, 11, 162), (11, 128, 11, 163), (11, 141, 11, 172)] : List (Nat × Nat × Nat × Nat)), Cond.methodLink (sv_cn q.1) q.2.1 (sv_y q.2.2.2) ∈ lw_tbl ∧ Cond.instanceMethod (sv_y q.2.2.2) ∈ lw_tbl ∧ Cond.selects (sv_cn q.2.2.1) (sv_y q.2.2.2) (sv_y q.2.2.2) ∈ lw_tbl ∧ q.2.2.1 < 12 ∧ sv_o q.2.2.2 = q.2.2.1 ∧ q.2.2.2 < 234 := List.forall_mem_cons.mpr ⟨⟨tb_2 (List.mem_of_getElem? (i := 34) rfl), tb_2 (List.mem_of_getElem? (i := 35) rfl), tb_2 (List.mem_of_getElem? (i := 36) rfl), by decide, rfl, by decide⟩, List.forall_mem_cons.mpr ⟨⟨tb_2 (List.mem_of_getElem? (i := 3) rfl), tb_2 (List.mem_of_getElem? (i := 4) rfl), tb_2 (List.mem_of_getElem? (i := 5) rfl), by decide, rfl, by decide⟩, List.forall_mem_cons.mpr ⟨⟨tb_2 (List.mem_of_getElem? (i := 38) rfl), tb_2 (List.mem_of_getElem? (i := 39) rfl), tb_2 (List.mem_of_getElem? (i := 40) rfl), by decide, rfl, by decide⟩, List.forall_mem_cons.mpr ⟨⟨tb_2 (List.mem_of_getElem? (i := 49) rfl), tb_2 (List.mem_of_getElem? (i := 50) rfl), tb_2 (List.mem_of_getElem? (i := 51) rfl), by decide, rfl, by decide⟩, List.forall_mem_cons.mpr ⟨⟨tb_2 (List.mem_of_getElem? (i := 54) rfl), tb_2 (List.mem_of_getElem? (i := 55) rfl), tb_2 (List.mem_of_getElem? (i := 56) rfl), by decide, rfl, by decide⟩, List.forall_mem_cons.mpr ⟨⟨tb_2 (List.mem_of_getElem? (i := 62) rfl), tb_2 (List.mem_of_getElem? (i := 64) rfl), tb_0 (List.mem_of_getElem? (i := 1) rfl), by decide, rfl, by decide⟩, List.forall_mem_cons.mpr ⟨⟨tb_2 (List.mem_of_getElem? (i := 66) rfl), tb_2 (List.mem_of_getElem? (i := 68) rfl), tb_0 (List.mem_of_getElem? (i := 2) rfl), by decide, rfl, by decide⟩, List.forall_mem_cons.mpr ⟨⟨tb_2 (List.mem_of_getElem? (i := 101) rfl), tb_2 (List.mem_of_getElem? (i := 75) rfl), tb_2 (List.mem_of_getElem? (i := 76) rfl), by decide, rfl, by decide⟩, List.forall_mem_cons.mpr ⟨⟨tb_2 (List.mem_of_getElem? (i := 198) rfl), tb_2 (List.mem_of_getElem? (i := 199) rfl), tb_2 (List.mem_of_getElem? (i := 200) rfl), by decide, rfl, by decide⟩, List.forall_mem_cons.mpr ⟨⟨tb_3 (List.mem_of_getElem? (i := 12) rfl), tb_3 (List.mem_of_getElem? (i := 13) rfl), tb_3 (List.mem_of_getElem? (i := 14) rfl), by decide, rfl, by decide⟩, List.forall_mem_cons.mpr ⟨⟨tb_3 (List.mem_of_getElem? (i := 27) rfl), tb_3 (List.mem_of_getElem? (i := 28) rfl), tb_3 (List.mem_of_getElem? (i := 29) rfl), by decide, rfl, by decide⟩, List.forall_mem_cons.mpr ⟨⟨tb_3 (List.mem_of_getElem? (i := 31) rfl), tb_3 (List.mem_of_getElem? (i := 33) rfl), tb_0 (List.mem_of_getElem? (i := 3) rfl), by decide, rfl, by decide⟩, List.forall_mem_cons.mpr ⟨⟨tb_3 (List.mem_of_getElem? (i := 40) rfl), tb_3 (List.mem_of_getElem? (i := 41) rfl), tb_3 (List.mem_of_getElem? (i := 42) rfl), by decide, rfl, by decide⟩, List.forall_mem_cons.mpr ⟨⟨tb_3 (List.mem_of_getElem? (i := 48) rfl), tb_3 (List.mem_of_getElem? (i := 49) rfl), tb_3 (List.mem_of_getElem? (i := 50) rfl), by decide, rfl, by decide⟩, List.forall_mem_cons.mpr ⟨⟨tb_1 (List.mem_of_getElem? (i := 235) rfl), tb_1 (List.mem_of_getElem? (i := 236) rfl), tb_1 (List.mem_of_getElem? (i := 237) rfl), by decide, rfl, by decide⟩, List.forall_mem_cons.mpr ⟨⟨tb_3 (List.mem_of_getElem? (i := 87) rfl), tb_3 (List.mem_of_getElem? (i := 88) rfl), tb_3 (List.mem_of_getElem? (i := 89) rfl), by decide, rfl, by decide⟩, List.forall_mem_cons.mpr ⟨⟨tb_3 (List.mem_of_getElem? (i := 99) rfl), tb_3 (List.mem_of_getElem? (i := 100) rfl), tb_3 (List.mem_of_getElem? (i := 101) rfl), by decide, rfl, by decide⟩, List.forall_mem_cons.mpr ⟨⟨tb_3 (List.mem_of_getElem? (i := 235) rfl), tb_3 (List.mem_of_getElem? (i := 236) rfl), tb_3 (List.mem_of_getElem? (i := 237) rfl), by decide, rfl, by decide⟩, List.forall_mem_cons.mpr ⟨⟨tb_4 (List.mem_of_getElem? (i := 6) rfl), tb_4 (List.mem_of_getElem? (i := 7) rfl), tb_4 (List.mem_of_getElem? (i := 8) rfl), by decide, rfl, by decide⟩, List.forall_mem_cons.mpr ⟨⟨tb_4 (List.mem_of_getElem? (i := 11) rfl), tb_4 (List.mem_of_getElem? (i := 12) rfl), tb_4 (List.mem_of_getElem? (i := 13) rfl), by decide, rfl, by decide⟩, List.forall_mem_cons.mpr ⟨⟨tb_4 (List.mem_of_getElem? (i := 19) rfl), tb_4 (List.mem_of_getElem? (i := 20) rfl), tb_4 (List.mem_of_getElem? (i := 21) rfl), by decide, rfl, by decide⟩, List.forall_mem_cons.mpr ⟨⟨tb_4 (List.mem_of_getElem? (i := 28) rfl), tb_4 (List.mem_of_getElem? (i := 30) rfl), tb_0 (List.mem_of_getElem? (i := 4) rfl), by decide, rfl, by decide⟩, List.forall_mem_cons.mpr ⟨⟨tb_4 (List.mem_of_getElem? (i := 36) rfl), tb_2 (List.mem_of_getElem? (i := 203) rfl), tb_2 (List.mem_of_getElem? (i := 204) rfl), by decide, rfl, by decide⟩, List.forall_mem_cons.mpr ⟨⟨tb_4 (List.mem_of_getElem? (i := 41) rfl), tb_4 (List.mem_of_getElem? (i := 43) rfl), tb_0 (List.mem_of_getElem? (i := 5) rfl), by decide, rfl, by decide⟩, List.forall_mem_cons.mpr ⟨⟨tb_4 (List.mem_of_getElem? (i := 65) rfl), tb_4 (List.mem_of_getElem? (i := 66) rfl), tb_4 (List.mem_of_getElem? (i := 67) rfl), by decide, rfl, by decide⟩, List.forall_mem_cons.mpr ⟨⟨tb_1 (List.mem_of_getElem? (i := 239) rfl), tb_2 (List.mem_of_getElem? (i := 0) rfl), tb_2 (List.mem_of_getElem? (i := 1) rfl), by decide, rfl, by decide⟩, List.forall_mem_cons.mpr ⟨⟨tb_2 (List.mem_of_getElem? (i := 70) rfl), tb_2 (List.mem_of_getElem? (i := 71) rfl), tb_2 (List.mem_of_getElem? (i := 72) rfl), by decide, rfl, by decide⟩, List.forall_mem_cons.mpr ⟨⟨tb_1 (List.mem_of_getElem? (i := 226) rfl), tb_1 (List.mem_of_getElem? (i := 227) rfl), tb_1 (List.mem_of_getElem? (i := 228) rfl), by decide, rfl, by decide⟩, List.forall_mem_cons.mpr ⟨⟨tb_1 (List.mem_of_getElem? (i := 231) rfl), tb_1 (List.mem_of_getElem? (i := 233) rfl), tb_0 (List.mem_of_getElem? (i := 0) rfl), by decide, rfl, by decide⟩, List.forall_mem_cons.mpr ⟨⟨tb_2 (List.mem_of_getElem? (i := 7) rfl), tb_2 (List.mem_of_getElem? (i := 8) rfl), tb_2 (List.mem_of_getElem? (i := 9) rfl), by decide, rfl, by decide⟩, List.forall_mem_cons.mpr ⟨⟨tb_2 (List.mem_of_getElem? (i := 22) rfl), tb_2 (List.mem_of_getElem? (i := 23) rfl), tb_2 (List.mem_of_getElem? (i := 24) rfl), by decide, rfl, by decide⟩, List.forall_mem_cons.mpr ⟨⟨tb_4 (List.mem_of_getElem? (i := 200) rfl), tb_4 (List.mem_of_getElem? (i := 202) rfl), tb_0 (List.mem_of_getElem? (i := 14) rfl), by decide, rfl, by decide⟩, List.forall_mem_cons.mpr ⟨⟨tb_4 (List.mem_of_getElem? (i := 212) rfl), tb_4 (List.mem_of_getElem? (i := 214) rfl), tb_0 (List.mem_of_getElem? (i := 15) rfl), by decide, rfl, by decide⟩, List.forall_mem_cons.mpr ⟨⟨tb_4 (List.mem_of_getElem? (i := 220) rfl), tb_4 (List.mem_of_getElem? (i := 222) rfl), tb_0 (List.mem_of_getElem? (i := 16) rfl), by decide, rfl, by decide⟩, List.forall_mem_cons.mpr ⟨⟨tb_4 (List.mem_of_getElem? (i := 225) rfl), tb_4 (List.mem_of_getElem? (i := 227) rfl), tb_0 (List.mem_of_getElem? (i := 17) rfl), by decide, rfl, by decide⟩, List.forall_mem_cons.mpr ⟨⟨tb_4 (List.mem_of_getElem? (i := 229) rfl), tb_4 (List.mem_of_getElem? (i := 231) rfl), tb_0 (List.mem_of_getElem? (i := 18) rfl), by decide, rfl, by decide⟩, List.forall_mem_cons.mpr ⟨⟨tb_4 (List.mem_of_getElem? (i := 233) rfl), tb_4 (List.mem_of_getElem? (i := 235) rfl), tb_0 (List.mem_of_getElem? (i := 19) rfl), by decide, rfl, by decide⟩, List.forall_mem_cons.mpr ⟨⟨tb_5 (List.mem_of_getElem? (i := 1) rfl), tb_5 (List.mem_of_getElem? (i := 3) rfl), tb_0 (List.mem_of_getElem? (i := 20) rfl), by decide, rfl, by decide⟩, List.forall_mem_cons.mpr ⟨⟨tb_5 (List.mem_of_getElem? (i := 5) rfl), tb_5 (List.mem_of_getElem? (i := 7) rfl), tb_0 (List.mem_of_getElem? (i := 21) rfl), by decide, rfl, by decide⟩, List.forall_mem_cons.mpr ⟨⟨tb_5 (List.mem_of_getElem? (i := 60) rfl), tb_5 (List.mem_of_getElem? (i := 62) rfl), tb_0 (List.mem_of_getElem? (i := 28) rfl), by decide, rfl, by decide⟩, fun _ h => absurd h List.not_mem_nil⟩⟩⟩⟩⟩⟩⟩⟩⟩⟩⟩⟩⟩⟩⟩⟩⟩⟩⟩⟩⟩⟩⟩⟩⟩⟩⟩⟩⟩⟩⟩⟩⟩⟩⟩⟩⟩⟩⟩⟩
set_option maxRecDepth 100000 in
theorem lk_v_40 : ∀ q ∈ ([(11, 144, 11, 174), (11, 147, 11, 142), (11, 150, 11, 173), (11, 154, 11, 176), (11, 158, 11, 177), (11, 161, 11, 178), (11, 164, 11, 175), (11, 167, 11, 179), (11, 174, 11, 180), (11, 179, 11, 136), (11, 182, 11, 137), (11, 190, 11, 183), (11, 193, 11, 188), (11, 197, 11, 189), (11, 205, 11, 185), (11, 209, 11, 184), (11, 212, 11, 134), (11, 215, 11, 135), (11, 237, 11, 202), (11, 250, 11, 205), (11, 260, 11, 206), (11, 264, 11, 207), (11, 280, 11, 208), (11, 283, 11, 209), (11, 286, 11, 210), (11, 291, 11, 211), (11, 296, 11, 212), (11, 299, 11, 213), (11, 307, 11, 218), (11, 314, 11, 223), (11, 320, 11, 228), (11, 61, 11, 141), (11, 70, 11, 138), (11, 73, 11, 133), (11, 79, 11, 153), (11, 82, 11, 150), (11, 90, 11, 155), (11, 93, 11, 149), (11, 97, 11, 148), (12, 100, 10, 102)] : List (Nat × Nat × Nat × Nat)), Cond.methodLink (sv_cn q.1) q.2.1 (sv_y q.2.2.2) ∈ lw_tbl ∧ Cond.instanceMethod (sv_y q.2.2.2) ∈ lw_tbl ∧ Cond.selects (sv_cn q.2.2.1) (sv_y q.2.2.2) (sv_y q.2.2.2) ∈ lw_tbl ∧ q.2.2.1 < 12 ∧ sv_o q.2.2.2 = q.2.2.1 ∧ q.2.2.2 < 234 := List.forall_mem_cons.mpr ⟨⟨tb_5 (List.mem_of_getElem? (i := 68) rfl), tb_5 (List.mem_of_getElem? (i := 70) rfl), tb_0 (List.mem_of_getElem? (i := 30) rfl), by decide, rfl, by decide⟩, List.forall_mem_cons.mpr ⟨⟨tb_5 (List.mem_of_getElem? (i := 72) rfl), tb_5 (List.mem_of_getElem? (i := 74) rfl), tb_0 (List.mem_of_getElem? (i := 31) rfl), by decide, rfl, by decide⟩, List.forall_mem_cons.mpr ⟨⟨tb_5 (List.mem_of_getElem? (i := 52) rfl), tb_5 (List.mem_of_getElem? (i := 54) rfl), tb_0 (List.mem_of_getElem? (i := 26) rfl), by decide, rfl, by decide⟩, List.forall_mem_cons.mpr ⟨⟨tb_5 (List.mem_of_getElem? (i := 45) rfl), tb_5 (List.mem_of_getElem? (i := 47) rfl), tb_0 (List.mem_of_getElem? (i := 25) rfl), by decide, rfl, by decide⟩, List.forall_mem_cons.mpr ⟨⟨tb_5 (List.mem_of_getElem? (i := 56) rfl), tb_5 (List.mem_of_getElem? (i := 58) rfl), tb_0 (List.mem_of_getElem? (i := 27) rfl), by decide, rfl, by decide⟩, List.forall_mem_cons.mpr ⟨⟨tb_5 (List.mem_of_getElem? (i := 41) rfl), tb_5 (List.mem_of_getElem? (i := 43) rfl), tb_0 (List.mem_of_getElem? (i := 24) rfl), by decide, rfl, by decide⟩, List.forall_mem_cons.mpr ⟨⟨tb_5 (List.mem_of_getElem? (i := 64) rfl), tb_5 (List.mem_of_getElem? (i := 66) rfl), tb_0 (List.mem_of_getElem? (i := 29) rfl), by decide, rfl, by decide⟩, List.forall_mem_cons.mpr ⟨⟨tb_5 (List.mem_of_getElem? (i := 37) rfl), tb_5 (List.mem_of_getElem? (i := 39) rfl), tb_0 (List.mem_of_getElem? (i := 23) rfl), by decide, rfl, by decide⟩, List.forall_mem_cons.mpr ⟨⟨tb_5 (List.mem_of_getElem? (i := 33) rfl), tb_5 (List.mem_of_getElem? (i := 35) rfl), tb_0 (List.mem_of_getElem? (i := 22) rfl), by decide, rfl, by decide⟩, List.forall_mem_cons.mpr ⟨⟨tb_5 (List.mem_of_getElem? (i := 89) rfl), tb_5 (List.mem_of_getElem? (i := 91) rfl), tb_0 (List.mem_of_getElem? (i := 33) rfl), by decide, rfl, by decide⟩, List.forall_mem_cons.mpr ⟨⟨tb_5 (List.mem_of_getElem? (i := 93) rfl), tb_5 (List.mem_of_getElem? (i := 95) rfl), tb_0 (List.mem_of_getElem? (i := 34) rfl), by decide, rfl, by decide⟩, List.forall_mem_cons.mpr ⟨⟨tb_5 (List.mem_of_getElem? (i := 85) rfl), tb_5 (List.mem_of_getElem? (i := 87) rfl), tb_0 (List.mem_of_getElem? (i := 32) rfl), by decide, rfl, by decide⟩, List.forall_mem_cons.mpr ⟨⟨tb_5 (List.mem_of_getElem? (i := 109) rfl), tb_5 (List.mem_of_getElem? (i := 111) rfl), tb_0 (List.mem_of_getElem? (i := 36) rfl), by decide, rfl, by decide⟩, List.forall_mem_cons.mpr ⟨⟨tb_5 (List.mem_of_getElem? (i := 105) rfl), tb_5 (List.mem_of_getElem? (i := 107) rfl), tb_0 (List.mem_of_getElem? (i := 35) rfl), by decide, rfl, by decide⟩, List.forall_mem_cons.mpr ⟨⟨tb_5 (List.mem_of_getElem? (i := 134) rfl), tb_5 (List.mem_of_getElem? (i := 136) rfl), tb_0 (List.mem_of_getElem? (i := 37) rfl), by decide, rfl, by decide⟩, List.forall_mem_cons.mpr ⟨⟨tb_5 (List.mem_of_getElem? (i := 143) rfl), tb_5 (List.mem_of_getElem? (i := 145) rfl), tb_0 (List.mem_of_getElem? (i := 38) rfl), by decide, rfl, by decide⟩, List.forall_mem_cons.mpr ⟨⟨tb_5 (List.mem_of_getElem? (i := 151) rfl), tb_5 (List.mem_of_getElem? (i := 153) rfl), tb_0 (List.mem_of_getElem? (i := 39) rfl), by decide, rfl, by decide⟩, List.forall_mem_cons.mpr ⟨⟨tb_5 (List.mem_of_getElem? (i := 155) rfl), tb_5 (List.mem_of_getElem? (i := 157) rfl), tb_0 (List.mem_of_getElem? (i := 40) rfl), by decide, rfl, by decide⟩, List.forall_mem_cons.mpr ⟨⟨tb_5 (List.mem_of_getElem? (i := 184) rfl), tb_5 (List.mem_of_getElem? (i := 186) rfl), tb_0 (List.mem_of_getElem? (i := 42) rfl), by decide, rfl, by decide⟩, List.forall_mem_cons.mpr ⟨⟨tb_5 (List.mem_of_getElem? (i := 180) rfl), tb_5 (List.mem_of_getElem? (i := 182) rfl), tb_0 (List.mem_of_getElem? (i := 41) rfl), by decide, rfl, by decide⟩, List.forall_mem_cons.mpr ⟨⟨tb_5 (List.mem_of_getElem? (i := 222) rfl), tb_5 (List.mem_of_getElem? (i := 224) rfl), tb_0 (List.mem_of_getElem? (i := 47) rfl), by decide, rfl, by decide⟩, List.forall_mem_cons.mpr ⟨⟨tb_5 (List.mem_of_getElem? (i := 206) rfl), tb_5 (List.mem_of_getElem? (i := 208) rfl), tb_0 (List.mem_of_getElem? (i := 45) rfl), by decide, rfl, by decide⟩, List.forall_mem_cons.mpr ⟨⟨tb_5 (List.mem_of_getElem? (i := 226) rfl), tb_5 (List.mem_of_getElem? (i := 228) rfl), tb_0 (List.mem_of_getElem? (i := 48) rfl), by decide, rfl, by decide⟩, List.forall_mem_cons.mpr ⟨⟨tb_5 (List.mem_of_getElem? (i := 202) rfl), tb_5 (List.mem_of_getElem? (i := 204) rfl), tb_0 (List.mem_of_getElem? (i := 44) rfl), by decide, rfl, by decide⟩, List.forall_mem_cons.mpr ⟨⟨tb_5 (List.mem_of_getElem? (i := 218) rfl), tb_5 (List.mem_of_getElem? (i := 220) rfl), tb_0 (List.mem_of_getElem? (i := 46) rfl), by decide, rfl, by decide⟩, List.forall_mem_cons.mpr ⟨⟨tb_5 (List.mem_of_getElem? (i := 231) rfl), tb_5 (List.mem_of_getElem? (i := 233) rfl), tb_0 (List.mem_of_getElem? (i := 49) rfl), by decide, rfl, by decide⟩, List.forall_mem_cons.mpr ⟨⟨tb_5 (List.mem_of_getElem? (i := 236) rfl), tb_5 (List.mem_of_getElem? (i := 238) rfl), tb_0 (List.mem_of_getElem? (i := 50) rfl), by decide, rfl, by decide⟩, List.forall_mem_cons.mpr ⟨⟨tb_5 (List.mem_of_getElem? (i := 198) rfl), tb_5 (List.mem_of_getElem? (i := 200) rfl), tb_0 (List.mem_of_getElem? (i := 43) rfl), by decide, rfl, by decide⟩, List.forall_mem_cons.mpr ⟨⟨tb_6 (List.mem_of_getElem? (i := 12) rfl), tb_6 (List.mem_of_getElem? (i := 14) rfl), tb_0 (List.mem_of_getElem? (i := 51) rfl), by decide, rfl, by decide⟩, List.forall_mem_cons.mpr ⟨⟨tb_6 (List.mem_of_getElem? (i := 36) rfl), tb_6 (List.mem_of_getElem? (i := 38) rfl), tb_0 (List.mem_of_getElem? (i := 52) rfl), by decide, rfl, by decide⟩, List.forall_mem_cons.mpr ⟨⟨tb_6 (List.mem_of_getElem? (i := 56) rfl), tb_6 (List.mem_of_getElem? (i := 58) rfl), tb_0 (List.mem_of_getElem? (i := 53) rfl), by decide, rfl, by decide⟩, List.forall_mem_cons.mpr ⟨⟨tb_4 (List.mem_of_getElem? (i := 160) rfl), tb_4 (List.mem_of_getElem? (i := 162) rfl), tb_0 (List.mem_of_getElem? (i := 9) rfl), by decide, rfl, by decide⟩, List.forall_mem_cons.mpr ⟨⟨tb_4 (List.mem_of_getElem? (i := 142) rfl), tb_4 (List.mem_of_getElem? (i := 144) rfl), tb_0 (List.mem_of_getElem? (i := 6) rfl), by decide, rfl, by decide⟩, List.forall_mem_cons.mpr ⟨⟨tb_4 (List.mem_of_getElem? (i := 147) rfl), tb_4 (List.mem_of_getElem? (i := 149) rfl), tb_0 (List.mem_of_getElem? (i := 7) rfl), by decide, rfl, by decide⟩, List.forall_mem_cons.mpr ⟨⟨tb_4 (List.mem_of_getElem? (i := 156) rfl), tb_4 (List.mem_of_getElem? (i := 158) rfl), tb_0 (List.mem_of_getElem? (i := 8) rfl), by decide, rfl, by decide⟩, List.forall_mem_cons.mpr ⟨⟨tb_4 (List.mem_of_getElem? (i := 167) rfl), tb_4 (List.mem_of_getElem? (i := 169) rfl), tb_0 (List.mem_of_getElem? (i := 10) rfl), by decide, rfl, by decide⟩, List.forall_mem_cons.mpr ⟨⟨tb_4 (List.mem_of_getElem? (i := 180) rfl), tb_4 (List.mem_of_getElem? (i := 182) rfl), tb_0 (List.mem_of_getElem? (i := 11) rfl), by decide, rfl, by decide⟩, List.forall_mem_cons.mpr ⟨⟨tb_4 (List.mem_of_getElem? (i := 192) rfl), tb_4 (List.mem_of_getElem? (i := 194) rfl), tb_0 (List.mem_of_getElem? (i := 12) rfl), by decide, rfl, by decide⟩, List.forall_mem_cons.mpr ⟨⟨tb_4 (List.mem_of_getElem? (i := 196) rfl), tb_4 (List.mem_of_getElem? (i := 198) rfl), tb_0 (List.mem_of_getElem? (i := 13) rfl), by decide, rfl, by decide⟩, List.forall_mem_cons.mpr ⟨⟨tb_3 (List.mem_of_getElem? (i := 75) rfl), tb_3 (List.mem_of_getElem? (i := 76) rfl), tb_3 (List.mem_of_getElem? (i := 77) rfl), by decide, rfl, by decide⟩, fun _ h => absurd h List.not_mem_nil⟩⟩⟩⟩⟩⟩⟩⟩⟩⟩⟩⟩⟩⟩⟩⟩⟩⟩⟩⟩⟩⟩⟩⟩⟩⟩⟩⟩⟩⟩⟩⟩⟩⟩⟩⟩⟩⟩⟩⟩
set_option maxRecDepth 100000 in
theorem lk_v_80 : ∀ q ∈ ([(12, 103, 11, 198), (12, 104, 10, 103), (12, 107, 11, 199), (12, 108, 10, 104), (12, 111, 11, 200), (12, 112, 10, 105), (12, 116, 11, 201), (12, 117, 10, 106), (12, 120, 11, 214), (12, 121, 10, 107), (12, 124, 11, 216), (12, 127, 10, 108), (12, 13, 10, 81), (12, 131, 11, 219), (12, 132, 10, 109), (12, 136, 11, 220), (12, 137, 10, 110), (12, 140, 11, 221), (12, 141, 10, 111), (12, 144, 11, 222), (12, 145, 10, 112), (12, 148, 11, 224), (12, 149, 10, 113), (12, 152, 11, 225), (12, 153, 10, 114), (12, 156, 11, 226), (12, 157, 10, 115), (12, 160, 11, 227), (12, 161, 10, 116), (12, 164, 11, 229), (12, 165, 10, 117), (12, 168, 11, 230), (12, 17, 11, 152), (12, 18, 10, 82), (12, 22, 11, 154), (12, 23, 10, 83), (12, 26, 11, 156), (12, 27, 10, 84), (12, 31, 11, 157), (12, 32, 10, 85)] : List (Nat × Nat × Nat × Nat)), Cond.methodLink (sv_cn q.1) q.2.1 (sv_y q.2.2.2) ∈ lw_tbl ∧ Cond.instanceMethod (sv_y q.2.2.2) ∈ lw_tbl ∧ Cond.selects (sv_cn q.2.2.1) (sv_y q.2.2.2) (sv_y q.2.2.2) ∈ lw_tbl ∧ q.2.2.1 < 12 ∧ sv_o q.2.2.2 = q.2.2.1 ∧ q.2.2.2 < 234 := List.forall_mem_cons.mpr ⟨⟨tb_5 (List.mem_of_getElem? (i := 159) rfl), tb_5 (List.mem_of_getElem? (i := 160) rfl), tb_5 (List.mem_of_getElem? (i := 161) rfl), by decide, rfl, by decide⟩, List.forall_mem_cons.mpr ⟨⟨tb_3 (List.mem_of_getElem? (i := 79) rfl), tb_3 (List.mem_of_getElem? (i := 80) rfl), tb_3 (List.mem_of_getElem? (i := 81) rfl), by decide, rfl, by decide⟩, List.forall_mem_cons.mpr ⟨⟨tb_5 (List.mem_of_getElem? (i := 163) rfl), tb_5 (List.mem_of_getElem? (i := 164) rfl), tb_5 (List.mem_of_getElem? (i := 165) rfl), by decide, rfl, by decide⟩, List.forall_mem_cons.mpr ⟨⟨tb_3 (List.mem_of_getElem? (i := 83) rfl), tb_3 (List.mem_of_getElem? (i := 84) rfl), tb_3 (List.mem_of_getElem? (i := 85) rfl), by decide, rfl, by decide⟩, List.forall_mem_cons.mpr ⟨⟨tb_5 (List.mem_of_getElem? (i := 167) rfl), tb_5 (List.mem_of_getElem? (i := 168) rfl), tb_5 (List.mem_of_getElem? (i := 169) rfl), by decide, rfl, by decide⟩, List.forall_mem_cons.mpr ⟨⟨tb_3 (List.mem_of_getElem? (i := 91) rfl), tb_3 (List.mem_of_getElem? (i := 92) rfl), tb_3 (List.mem_of_getElem? (i := 93) rfl), by decide, rfl, by decide⟩, List.forall_mem_cons.mpr ⟨⟨tb_5 (List.mem_of_getElem? (i := 172) rfl), tb_5 (List.mem_of_getElem? (i := 173) rfl), tb_5 (List.mem_of_getElem? (i := 174) rfl), by decide, rfl, by decide⟩, List.forall_mem_cons.mpr ⟨⟨tb_3 (List.mem_of_getElem? (i := 95) rfl), tb_3 (List.mem_of_getElem? (i := 96) rfl), tb_3 (List.mem_of_getElem? (i := 97) rfl), by decide, rfl, by decide⟩, List.forall_mem_cons.mpr ⟨⟨tb_5 (List.mem_of_getElem? (i := 176) rfl), tb_5 (List.mem_of_getElem? (i := 177) rfl), tb_5 (List.mem_of_getElem? (i := 178) rfl), by decide, rfl, by decide⟩, List.forall_mem_cons.mpr ⟨⟨tb_3 (List.mem_of_getElem? (i := 227) rfl), tb_3 (List.mem_of_getElem? (i := 228) rfl), tb_3 (List.mem_of_getElem? (i := 229) rfl), by decide, rfl, by decide⟩, List.forall_mem_cons.mpr ⟨⟨tb_6 (List.mem_of_getElem? (i := 0) rfl), tb_6 (List.mem_of_getElem? (i := 1) rfl), tb_6 (List.mem_of_getElem? (i := 2) rfl), by decide, rfl, by decide⟩, List.forall_mem_cons.mpr ⟨⟨tb_4 (List.mem_of_getElem? (i := 2) rfl), tb_4 (List.mem_of_getElem? (i := 3) rfl), tb_4 (List.mem_of_getElem? (i := 4) rfl), by decide, rfl, by decide⟩, List.forall_mem_cons.mpr ⟨⟨tb_1 (List.mem_of_getElem? (i := 215) rfl), tb_1 (List.mem_of_getElem? (i := 216) rfl), tb_1 (List.mem_of_getElem? (i := 217) rfl), by decide, rfl, by decide⟩, List.forall_mem_cons.mpr ⟨⟨tb_6 (List.mem_of_getElem? (i := 8) rfl), tb_6 (List.mem_of_getElem? (i := 9) rfl), tb_6 (List.mem_of_getElem? (i := 10) rfl), by decide, rfl, by decide⟩, List.forall_mem_cons.mpr ⟨⟨tb_4 (List.mem_of_getElem? (i := 15) rfl), tb_4 (List.mem_of_getElem? (i := 16) rfl), tb_4 (List.mem_of_getElem? (i := 17) rfl), by decide, rfl, by decide⟩, List.forall_mem_cons.mpr ⟨⟨tb_6 (List.mem_of_getElem? (i := 20) rfl), tb_6 (List.mem_of_getElem? (i := 21) rfl), tb_6 (List.mem_of_getElem? (i := 22) rfl), by decide, rfl, by decide⟩, List.forall_mem_cons.mpr ⟨⟨tb_4 (List.mem_of_getElem? (i := 24) rfl), tb_4 (List.mem_of_getElem? (i := 25) rfl), tb_4 (List.mem_of_getElem? (i := 26) rfl), by decide, rfl, by decide⟩, List.forall_mem_cons.mpr ⟨⟨tb_6 (List.mem_of_getElem? (i := 24) rfl), tb_6 (List.mem_of_getElem? (i := 25) rfl), tb_6 (List.mem_of_getElem? (i := 26) rfl), by decide, rfl, by decide⟩, List.forall_mem_cons.mpr ⟨⟨tb_4 (List.mem_of_getElem? (i := 32) rfl), tb_4 (List.mem_of_getElem? (i := 33) rfl), tb_4 (List.mem_of_getElem? (i := 34) rfl), by decide, rfl, by decide⟩, List.forall_mem_cons.mpr ⟨⟨tb_6 (List.mem_of_getElem? (i := 28) rfl), tb_6 (List.mem_of_getElem? (i := 29) rfl), tb_6 (List.mem_of_getElem? (i := 30) rfl), by decide, rfl, by decide⟩, List.forall_mem_cons.mpr ⟨⟨tb_4 (List.mem_of_getElem? (i := 37) rfl), tb_4 (List.mem_of_getElem? (i := 38) rfl), tb_4 (List.mem_of_getElem? (i := 39) rfl), by decide, rfl, by decide⟩, List.forall_mem_cons.mpr ⟨⟨tb_6 (List.mem_of_getElem? (i := 32) rfl), tb_6 (List.mem_of_getElem? (i := 33) rfl), tb_6 (List.mem_of_getElem? (i := 34) rfl), by decide, rfl, by decide⟩, List.forall_mem_cons.mpr ⟨⟨tb_4 (List.mem_of_getElem? (i := 45) rfl), tb_4 (List.mem_of_getElem? (i := 46) rfl), tb_4 (List.mem_of_getElem? (i := 47) rfl), by decide, rfl, by decide⟩, List.forall_mem_cons.mpr ⟨⟨tb_6 (List.mem_of_getElem? (i := 40) rfl), tb_6 (List.mem_of_getElem? (i := 41) rfl), tb_6 (List.mem_of_getElem? (i := 42) rfl), by decide, rfl, by decide⟩, List.forall_mem_cons.mpr ⟨⟨tb_4 (List.mem_of_getElem? (i := 49) rfl), tb_4 (List.mem_of_getElem? (i := 50) rfl), tb_4 (List.mem_of_getElem? (i := 51) rfl), by decide, rfl, by decide⟩, List.forall_mem_cons.mpr ⟨⟨tb_6 (List.mem_of_getElem? (i := 44) rfl), tb_6 (List.mem_of_getElem? (i := 45) rfl), tb_6 (List.mem_of_getElem? (i := 46) rfl), by decide, rfl, by decide⟩, List.forall_mem_cons.mpr ⟨⟨tb_4 (List.mem_of_getElem? (i := 53) rfl), tb_4 (List.mem_of_getElem? (i := 54) rfl), tb_4 (List.mem_of_getElem? (i := 55) rfl), by decide, rfl, by decide⟩, List.forall_mem_cons.mpr ⟨⟨tb_6 (List.mem_of_getElem? (i := 48) rfl), tb_6 (List.mem_of_getElem? (i := 49) rfl), tb_6 (List.mem_of_getElem? (i := 50) rfl), by decide, rfl, by decide⟩, List.forall_mem_cons.mpr ⟨⟨tb_4 (List.mem_of_getElem? (i := 57) rfl), tb_4 (List.mem_of_getElem? (i := 58) rfl), tb_4 (List.mem_of_getElem? (i := 59) rfl), by decide, rfl, by decide⟩, List.forall_mem_cons.mpr ⟨⟨tb_6 (List.mem_of_getElem? (i := 52) rfl), tb_6 (List.mem_of_getElem? (i := 53) rfl), tb_6 (List.mem_of_getElem? (i := 54) rfl), by decide, rfl, by decide⟩, List.forall_mem_cons.mpr ⟨⟨tb_4 (List.mem_of_getElem? (i := 61) rfl), tb_4 (List.mem_of_getElem? (i := 62) rfl), tb_4 (List.mem_of_getElem? (i := 63) rfl), by decide, rfl, by decide⟩, List.forall_mem_cons.mpr ⟨⟨tb_6 (List.mem_of_getElem? (i := 60) rfl), tb_6 (List.mem_of_getElem? (i := 61) rfl), tb_6 (List.mem_of_getElem? (i := 62) rfl), by decide, rfl, by decide⟩, List.forall_mem_cons.mpr ⟨⟨tb_4 (List.mem_of_getElem? (i := 127) rfl), tb_4 (List.mem_of_getElem? (i := 128) rfl), tb_4 (List.mem_of_getElem? (i := 129) rfl), by decide, rfl, by decide⟩, List.forall_mem_cons.mpr ⟨⟨tb_2 (List.mem_of_getElem? (i := 11) rfl), tb_2 (List.mem_of_getElem? (i := 12) rfl), tb_2 (List.mem_of_getElem? (i := 13) rfl), by decide, rfl, by decide⟩, List.forall_mem_cons.mpr ⟨⟨tb_4 (List.mem_of_getElem? (i := 151) rfl), tb_4 (List.mem_of_getElem? (i := 152) rfl), tb_4 (List.mem_of_getElem? (i := 153) rfl), by decide, rfl, by decide⟩, List.forall_mem_cons.mpr ⟨⟨tb_2 (List.mem_of_getElem? (i := 15) rfl), tb_2 (List.mem_of_getElem? (i := 16) rfl), tb_2 (List.mem_of_getElem? (i := 17) rfl), by decide, rfl, by decide⟩, List.forall_mem_cons.mpr ⟨⟨tb_4 (List.mem_of_getElem? (i := 171) rfl), tb_4 (List.mem_of_getElem? (i := 172) rfl), tb_4 (List.mem_of_getElem? (i := 173) rfl), by decide, rfl, by decide⟩, List.forall_mem_cons.mpr ⟨⟨tb_2 (List.mem_of_getElem? (i := 26) rfl), tb_2 (List.mem_of_getElem? (i := 27) rfl), tb_2 (List.mem_of_getElem? (i := 28) rfl), by decide, rfl, by decide⟩, List.forall_mem_cons.mpr ⟨⟨tb_4 (List.mem_of_getElem? (i := 184) rfl), tb_4 (List.mem_of_getElem? (i := 185) rfl), tb_4 (List.mem_of_getElem? (i := 186) rfl), by decide, rfl, by decide⟩, List.forall_mem_cons.mpr ⟨⟨tb_2 (List.mem_of_getElem? (i := 30) rfl), tb_2 (List.mem_of_getElem? (i := 31) rfl), tb_2 (List.mem_of_getElem? (i := 32) rfl), by decide, rfl, by decide⟩, fun _ h => absurd h List.not_mem_nil⟩⟩⟩⟩⟩⟩⟩⟩⟩⟩⟩⟩⟩⟩⟩⟩⟩⟩⟩⟩⟩⟩⟩⟩⟩⟩⟩⟩⟩⟩⟩⟩⟩⟩⟩⟩⟩⟩⟩⟩
set_option maxRecDepth 100000 in
theorem lk_v_120 : ∀ q ∈ ([(12, 35, 11, 158), (12, 36, 10, 86), (12, 39, 11, 165), (12, 40, 10, 87), (12, 43, 11, 166), (12, 44, 10, 88), (12, 47, 11, 167), (12, 48, 10, 89), (12, 51, 11, 168), (12, 52, 10, 90), (12, 55, 11, 169), (12, 56, 10, 91), (12, 59, 11, 171), (12, 60, 10, 92), (12, 63, 11, 181), (12, 64, 10, 93), (12, 67, 11, 186), (12, 68, 10, 94), (12, 71, 11, 187), (12, 72, 10, 95), (12, 75, 11, 190), (12, 76, 10, 96), (12, 79, 11, 191), (12, 80, 10, 97), (12, 83, 11, 192), (12, 84, 10, 98), (12, 87, 11, 194), (12, 88, 10, 99), (12, 91, 11, 195), (12, 92, 10, 100), (12, 95, 11, 196), (12, 96, 10, 101), (12, 99, 11, 197), (8, 102, 8, 61), (8, 115, 8, 62), (8, 119, 8, 65), (8, 125, 8, 44), (8, 65, 8, 47), (8, 75, 8, 57), (8, 79, 8, 45)] : List (Nat × Nat × Nat × Nat)), Cond.methodLink (sv_cn q.1) q.2.1 (sv_y q.2.2.2) ∈ lw_tbl ∧ Cond.instanceMethod (sv_y q.2.2.2) ∈ lw_tbl ∧ Cond.selects (sv_cn q.2.2.1) (sv_y q.2.2.2) (sv_y q.2.2.2) ∈ lw_tbl ∧ q.2.2.1 < 12 ∧ sv_o q.2.2.2 = q.2.2.1 ∧ q.2.2.2 < 234 := List.forall_mem_cons.mpr ⟨⟨tb_4 (List.mem_of_getElem? (i := 188) rfl), tb_4 (List.mem_of_getElem? (i := 189) rfl), tb_4 (List.mem_of_getElem? (i := 190) rfl), by decide, rfl, by decide⟩, List.forall_mem_cons.mpr ⟨⟨tb_2 (List.mem_of_getElem? (i := 42) rfl), tb_2 (List.mem_of_getElem? (i := 43) rfl), tb_2 (List.mem_of_getElem? (i := 44) rfl), by decide, rfl, by decide⟩, List.forall_mem_cons.mpr ⟨⟨tb_4 (List.mem_of_getElem? (i := 204) rfl), tb_4 (List.mem_of_getElem? (i := 205) rfl), tb_4 (List.mem_of_getElem? (i := 206) rfl), by decide, rfl, by decide⟩, List.forall_mem_cons.mpr ⟨⟨tb_2 (List.mem_of_getElem? (i := 58) rfl), tb_2 (List.mem_of_getElem? (i := 59) rfl), tb_2 (List.mem_of_getElem? (i := 60) rfl), by decide, rfl, by decide⟩, List.forall_mem_cons.mpr ⟨⟨tb_4 (List.mem_of_getElem? (i := 216) rfl), tb_4 (List.mem_of_getElem? (i := 217) rfl), tb_4 (List.mem_of_getElem? (i := 218) rfl), by decide, rfl, by decide⟩, List.forall_mem_cons.mpr ⟨⟨tb_2 (List.mem_of_getElem? (i := 133) rfl), tb_2 (List.mem_of_getElem? (i := 134) rfl), tb_2 (List.mem_of_getElem? (i := 135) rfl), by decide, rfl, by decide⟩, List.forall_mem_cons.mpr ⟨⟨tb_4 (List.mem_of_getElem? (i := 237) rfl), tb_4 (List.mem_of_getElem? (i := 238) rfl), tb_4 (List.mem_of_getElem? (i := 239) rfl), by decide, rfl, by decide⟩, List.forall_mem_cons.mpr ⟨⟨tb_2 (List.mem_of_getElem? (i := 173) rfl), tb_2 (List.mem_of_getElem? (i := 174) rfl), tb_2 (List.mem_of_getElem? (i := 175) rfl), by decide, rfl, by decide⟩, List.forall_mem_cons.mpr ⟨⟨tb_5 (List.mem_of_getElem? (i := 9) rfl), tb_5 (List.mem_of_getElem? (i := 10) rfl), tb_5 (List.mem_of_getElem? (i := 11) rfl), by decide, rfl, by decide⟩, List.forall_mem_cons.mpr ⟨⟨tb_2 (List.mem_of_getElem? (i := 180) rfl), tb_2 (List.mem_of_getElem? (i := 181) rfl), tb_2 (List.mem_of_getElem? (i := 182) rfl), by decide, rfl, by decide⟩, List.forall_mem_cons.mpr ⟨⟨tb_5 (List.mem_of_getElem? (i := 14) rfl), tb_5 (List.mem_of_getElem? (i := 15) rfl), tb_5 (List.mem_of_getElem? (i := 16) rfl), by decide, rfl, by decide⟩, List.forall_mem_cons.mpr ⟨⟨tb_2 (List.mem_of_getElem? (i := 184) rfl), tb_2 (List.mem_of_getElem? (i := 185) rfl), tb_2 (List.mem_of_getElem? (i := 186) rfl), by decide, rfl, by decide⟩, List.forall_mem_cons.mpr ⟨⟨tb_5 (List.mem_of_getElem? (i := 18) rfl), tb_5 (List.mem_of_getElem? (i := 19) rfl), tb_5 (List.mem_of_getElem? (i := 20) rfl), by decide, rfl, by decide⟩, List.forall_mem_cons.mpr ⟨⟨tb_2 (List.mem_of_getElem? (i := 192) rfl), tb_2 (List.mem_of_getElem? (i := 193) rfl), tb_2 (List.mem_of_getElem? (i := 194) rfl), by decide, rfl, by decide⟩, List.forall_mem_cons.mpr ⟨⟨tb_5 (List.mem_of_getElem? (i := 26) rfl), tb_5 (List.mem_of_getElem? (i := 27) rfl), tb_5 (List.mem_of_getElem? (i := 28) rfl), by decide, rfl, by decide⟩, List.forall_mem_cons.mpr ⟨⟨tb_3 (List.mem_of_getElem? (i := 8) rfl), tb_3 (List.mem_of_getElem? (i := 9) rfl), tb_3 (List.mem_of_getElem? (i := 10) rfl), by decide, rfl, by decide⟩, List.forall_mem_cons.mpr ⟨⟨tb_5 (List.mem_of_getElem? (i := 76) rfl), tb_5 (List.mem_of_getElem? (i := 77) rfl), tb_5 (List.mem_of_getElem? (i := 78) rfl), by decide, rfl, by decide⟩, List.forall_mem_cons.mpr ⟨⟨tb_3 (List.mem_of_getElem? (i := 19) rfl), tb_3 (List.mem_of_getElem? (i := 20) rfl), tb_3 (List.mem_of_getElem? (i := 21) rfl), by decide, rfl, by decide⟩, List.forall_mem_cons.mpr ⟨⟨tb_5 (List.mem_of_getElem? (i := 97) rfl), tb_5 (List.mem_of_getElem? (i := 98) rfl), tb_5 (List.mem_of_getElem? (i := 99) rfl), by decide, rfl, by decide⟩, List.forall_mem_cons.mpr ⟨⟨tb_3 (List.mem_of_getElem? (i := 23) rfl), tb_3 (List.mem_of_getElem? (i := 24) rfl), tb_3 (List.mem_of_getElem? (i := 25) rfl), by decide, rfl, by decide⟩, List.forall_mem_cons.mpr ⟨⟨tb_5 (List.mem_of_getElem? (i := 101) rfl), tb_5 (List.mem_of_getElem? (i := 102) rfl), tb_5 (List.mem_of_getElem? (i := 103) rfl), by decide, rfl, by decide⟩, List.forall_mem_cons.mpr ⟨⟨tb_3 (List.mem_of_getElem? (i := 36) rfl), tb_3 (List.mem_of_getElem? (i := 37) rfl), tb_3 (List.mem_of_getElem? (i := 38) rfl), by decide, rfl, by decide⟩, List.forall_mem_cons.mpr ⟨⟨tb_5 (List.mem_of_getElem? (i := 114) rfl), tb_5 (List.mem_of_getElem? (i := 115) rfl), tb_5 (List.mem_of_getElem? (i := 116) rfl), by decide, rfl, by decide⟩, List.forall_mem_cons.mpr ⟨⟨tb_3 (List.mem_of_getElem? (i := 44) rfl), tb_3 (List.mem_of_getElem? (i := 45) rfl), tb_3 (List.mem_of_getElem? (i := 46) rfl), by decide, rfl, by decide⟩, List.forall_mem_cons.mpr ⟨⟨tb_5 (List.mem_of_getElem? (i := 118) rfl), tb_5 (List.mem_of_getElem? (i := 119) rfl), tb_5 (List.mem_of_getElem? (i := 120) rfl), by decide, rfl, by decide⟩, List.forall_mem_cons.mpr ⟨⟨tb_3 (List.mem_of_getElem? (i := 52) rfl), tb_3 (List.mem_of_getElem? (i := 53) rfl), tb_3 (List.mem_of_getElem? (i := 54) rfl), by decide, rfl, by decide⟩, List.forall_mem_cons.mpr ⟨⟨tb_5 (List.mem_of_getElem? (i := 122) rfl), tb_5 (List.mem_of_getElem? (i := 123) rfl), tb_5 (List.mem_of_getElem? (i := 124) rfl), by decide, rfl, by decide⟩, List.forall_mem_cons.mpr ⟨⟨tb_3 (List.mem_of_getElem? (i := 56) rfl), tb_3 (List.mem_of_getElem? (i := 57) rfl), tb_3 (List.mem_of_getElem? (i := 58) rfl), by decide, rfl, by decide⟩, List.forall_mem_cons.mpr ⟨⟨tb_5 (List.mem_of_getElem? (i := 126) rfl), tb_5 (List.mem_of_getElem? (i := 127) rfl), tb_5 (List.mem_of_getElem? (i := 128) rfl), by decide, rfl, by decide⟩, List.forall_mem_cons.mpr ⟨⟨tb_3 (List.mem_of_getElem? (i := 66) rfl), tb_3 (List.mem_of_getElem? (i := 67) rfl), tb_3 (List.mem_of_getElem? (i := 68) rfl), by decide, rfl, by decide⟩, List.forall_mem_cons.mpr ⟨⟨tb_5 (List.mem_of_getElem? (i := 138) rfl), tb_5 (List.mem_of_getElem? (i := 139) rfl), tb_5 (List.mem_of_getElem? (i := 140) rfl), by decide, rfl, by decide⟩, List.forall_mem_cons.mpr ⟨⟨tb_3 (List.mem_of_getElem? (i := 71) rfl), tb_3 (List.mem_of_getElem? (i := 72) rfl), tb_3 (List.mem_of_getElem? (i := 73) rfl), by decide, rfl, by decide⟩, List.forall_mem_cons.mpr ⟨⟨tb_5 (List.mem_of_getElem? (i := 147) rfl), tb_5 (List.mem_of_getElem? (i := 148) rfl), tb_5 (List.mem_of_getElem? (i := 149) rfl), by decide, rfl, by decide⟩, List.forall_mem_cons.mpr ⟨⟨tb_2 (List.mem_of_getElem? (i := 231) rfl), tb_2 (List.mem_of_getElem? (i := 232) rfl), tb_2 (List.mem_of_getElem? (i := 233) rfl), by decide, rfl, by decide⟩, List.forall_mem_cons.mpr ⟨⟨tb_2 (List.mem_of_getElem? (i := 219) rfl), tb_2 (List.mem_of_getElem? (i := 220) rfl), tb_2 (List.mem_of_getElem? (i := 221) rfl), by decide, rfl, by decide⟩, List.forall_mem_cons.mpr ⟨⟨tb_2 (List.mem_of_getElem? (i := 239) rfl), tb_3 (List.mem_of_getElem? (i := 0) rfl), tb_3 (List.mem_of_getElem? (i := 1) rfl), by decide, rfl, by decide⟩, List.forall_mem_cons.mpr ⟨⟨tb_3 (List.mem_of_getElem? (i := 6) rfl), tb_2 (List.mem_of_getElem? (i := 8) rfl), tb_2 (List.mem_of_getElem? (i := 9) rfl), by decide, rfl, by decide⟩, List.forall_mem_cons.mpr ⟨⟨tb_2 (List.mem_of_getElem? (i := 74) rfl), tb_2 (List.mem_of_getElem? (i := 75) rfl), tb_2 (List.mem_of_getElem? (i := 76) rfl), by decide, rfl, by decide⟩, List.forall_mem_cons.mpr ⟨⟨tb_2 (List.mem_of_getElem? (i := 202) rfl), tb_2 (List.mem_of_getElem? (i := 203) rfl), tb_2 (List.mem_of_getElem? (i := 204) rfl), by decide, rfl, by decide⟩, List.forall_mem_cons.mpr ⟨⟨tb_3 (List.mem_of_getElem? (i := 4) rfl), tb_1 (List.mem_of_getElem? (i := 236) rfl), tb_1 (List.mem_of_getElem? (i := 237) rfl), by decide, rfl, by decide⟩, fun _ h => absurd h List.not_mem_nil⟩⟩⟩⟩⟩⟩⟩⟩⟩⟩⟩⟩⟩⟩⟩⟩⟩⟩⟩⟩⟩⟩⟩⟩⟩⟩⟩⟩⟩⟩⟩⟩⟩⟩⟩⟩⟩⟩⟩⟩
set_option maxRecDepth 100000 in
theorem lk_v_160 : ∀ q ∈ ([(8, 83, 8, 48), (8, 87, 8, 58), (8, 90, 8, 64), (8, 93, 8, 59), (8, 96, 8, 60), (8, 99, 8, 63), (9, 105, 9, 77), (9, 22, 9, 69), (9, 29, 9, 75), (9, 37, 9, 74), (9, 41, 9, 70), (9, 46, 9, 71), (9, 61, 9, 72), (9, 65, 9, 73), (9, 72, 8, 44), (9, 76, 8, 46), (9, 79, 8, 42), (9, 83, 8, 43), (9, 99, 9, 76)] : List (Nat × Nat × Nat × Nat)), Cond.methodLink (sv_cn q.1) q.2.1 (sv_y q.2.2.2) ∈ lw_tbl ∧ Cond.instanceMethod (sv_y q.2.2.2) ∈ lw_tbl ∧ Cond.selects (sv_cn q.2.2.1) (sv_y q.2.2.2) (sv_y q.2.2.2) ∈ lw_tbl ∧ q.2.2.1 < 12 ∧ sv_o q.2.2.2 = q.2.2.1 ∧ q.2.2.2 < 234 := List.forall_mem_cons.mpr ⟨⟨tb_2 (List.mem_of_getElem? (i := 206) rfl), tb_2 (List.mem_of_getElem? (i := 71) rfl), tb_2 (List.mem_of_getElem? (i := 72) rfl), by decide, rfl, by decide⟩, List.forall_mem_cons.mpr ⟨⟨tb_2 (List.mem_of_getElem? (i := 207) rfl), tb_2 (List.mem_of_getElem? (i := 208) rfl), tb_2 (List.mem_of_getElem? (i := 209) rfl), by decide, rfl, by decide⟩, List.forall_mem_cons.mpr ⟨⟨tb_2 (List.mem_of_getElem? (i := 235) rfl), tb_2 (List.mem_of_getElem? (i := 236) rfl), tb_2 (List.mem_of_getElem? (i := 237) rfl), by decide, rfl, by decide⟩, List.forall_mem_cons.mpr ⟨⟨tb_2 (List.mem_of_getElem? (i := 211) rfl), tb_2 (List.mem_of_getElem? (i := 212) rfl), tb_2 (List.mem_of_getElem? (i := 213) rfl), by decide, rfl, by decide⟩, List.forall_mem_cons.mpr ⟨⟨tb_2 (List.mem_of_getElem? (i := 223) rfl), tb_2 (List.mem_of_getElem? (i := 224) rfl), tb_2 (List.mem_of_getElem? (i := 225) rfl), by decide, rfl, by decide⟩, List.forall_mem_cons.mpr ⟨⟨tb_2 (List.mem_of_getElem? (i := 227) rfl), tb_2 (List.mem_of_getElem? (i := 228) rfl), tb_2 (List.mem_of_getElem? (i := 229) rfl), by decide, rfl, by decide⟩, List.forall_mem_cons.mpr ⟨⟨tb_3 (List.mem_of_getElem? (i := 121) rfl), tb_3 (List.mem_of_getElem? (i := 122) rfl), tb_3 (List.mem_of_getElem? (i := 123) rfl), by decide, rfl, by decide⟩, List.forall_mem_cons.mpr ⟨⟨tb_3 (List.mem_of_getElem? (i := 103) rfl), tb_3 (List.mem_of_getElem? (i := 104) rfl), tb_3 (List.mem_of_getElem? (i := 105) rfl), by decide, rfl, by decide⟩, List.forall_mem_cons.mpr ⟨⟨tb_3 (List.mem_of_getElem? (i := 107) rfl), tb_3 (List.mem_of_getElem? (i := 108) rfl), tb_3 (List.mem_of_getElem? (i := 109) rfl), by decide, rfl, by decide⟩, List.forall_mem_cons.mpr ⟨⟨tb_3 (List.mem_of_getElem? (i := 127) rfl), tb_3 (List.mem_of_getElem? (i := 128) rfl), tb_3 (List.mem_of_getElem? (i := 129) rfl), by decide, rfl, by decide⟩, List.forall_mem_cons.mpr ⟨⟨tb_3 (List.mem_of_getElem? (i := 179) rfl), tb_3 (List.mem_of_getElem? (i := 180) rfl), tb_3 (List.mem_of_getElem? (i := 181) rfl), by decide, rfl, by decide⟩, List.forall_mem_cons.mpr ⟨⟨tb_3 (List.mem_of_getElem? (i := 189) rfl), tb_3 (List.mem_of_getElem? (i := 190) rfl), tb_3 (List.mem_of_getElem? (i := 191) rfl), by decide, rfl, by decide⟩, List.forall_mem_cons.mpr ⟨⟨tb_3 (List.mem_of_getElem? (i := 220) rfl), tb_3 (List.mem_of_getElem? (i := 221) rfl), tb_3 (List.mem_of_getElem? (i := 222) rfl), by decide, rfl, by decide⟩, List.forall_mem_cons.mpr ⟨⟨tb_3 (List.mem_of_getElem? (i := 183) rfl), tb_3 (List.mem_of_getElem? (i := 184) rfl), tb_3 (List.mem_of_getElem? (i := 185) rfl), by decide, rfl, by decide⟩, List.forall_mem_cons.mpr ⟨⟨tb_3 (List.mem_of_getElem? (i := 187) rfl), tb_2 (List.mem_of_getElem? (i := 8) rfl), tb_2 (List.mem_of_getElem? (i := 9) rfl), by decide, rfl, by decide⟩, List.forall_mem_cons.mpr ⟨⟨tb_3 (List.mem_of_getElem? (i := 193) rfl), tb_2 (List.mem_of_getElem? (i := 23) rfl), tb_2 (List.mem_of_getElem? (i := 24) rfl), by decide, rfl, by decide⟩, List.forall_mem_cons.mpr ⟨⟨tb_3 (List.mem_of_getElem? (i := 224) rfl), tb_2 (List.mem_of_getElem? (i := 50) rfl), tb_2 (List.mem_of_getElem? (i := 51) rfl), by decide, rfl, by decide⟩, List.forall_mem_cons.mpr ⟨⟨tb_3 (List.mem_of_getElem? (i := 225) rfl), tb_2 (List.mem_of_getElem? (i := 55) rfl), tb_2 (List.mem_of_getElem? (i := 56) rfl), by decide, rfl, by decide⟩, List.forall_mem_cons.mpr ⟨⟨tb_3 (List.mem_of_getElem? (i := 114) rfl), tb_3 (List.mem_of_getElem? (i := 115) rfl), tb_3 (List.mem_of_getElem? (i := 116) rfl), by decide, rfl, by decide⟩, fun _ h => absurd h List.not_mem_nil⟩⟩⟩⟩⟩⟩⟩⟩⟩⟩⟩⟩⟩⟩⟩⟩⟩⟩⟩
theorem lk_v_ok : ∀ q ∈ lk_v, Cond.methodLink (sv_cn q.1) q.2.1 (sv_y q.2.2.2) ∈ lw_tbl ∧ Cond.instanceMethod (sv_y q.2.2.2) ∈ lw_tbl ∧ Cond.selects (sv_cn q.2.2.1) (sv_y q.2.2.2) (sv_y q.2.2.2) ∈ lw_tbl ∧ q.2.2.1 < 12 ∧ sv_o q.2.2.2 = q.2.2.1 ∧ q.2.2.2 < 234 := by
  intro q hq
  have e : lk_v = ([(10, 108, 8, 51), (10, 112, 8, 50), (10, 115, 8, 52), (10, 121, 8, 42), (10, 126, 8, 43), (10, 130, 10, 123), (10, 133, 10, 128), (10, 136, 8, 47), (10, 174, 8, 56), (10, 177, 8, 41), (10, 184, 8, 53), (10, 187, 10, 129), (10, 190, 8, 54), (10, 193, 8, 55), (10, 202, 8, 45), (10, 212, 9, 67), (10, 215, 9, 68), (10, 223, 7, 37), (10, 226, 7, 36), (10, 237, 7, 39), (10, 244, 7, 38), (10, 254, 10, 124), (10, 257, 8, 57), (10, 261, 10, 130), (10, 265, 2, 11), (10, 271, 8, 49), (10, 274, 8, 48), (10, 76, 2, 10), (10, 80, 10, 127), (10, 84, 8, 44), (10, 98, 8, 46), (11, 100, 11, 151), (11, 107, 11, 164), (11, 111, 11, 145), (11, 116, 11, 159), (11, 119, 11, 160), (11, 122, 11, 161), (11, 125, 11, 162), (11, 128, 11, 163), (11, 141, 11, 172)] : List (Nat × Nat × Nat × Nat)) ++ (([(11, 144, 11, 174), (11, 147, 11, 142), (11, 150, 11, 173), (11, 154, 11, 176), (11, 158, 11, 177), (11, 161, 11, 178), (11, 164, 11, 175), (11, 167, 11, 179), (11, 174, 11, 180), (11, 179, 11, 136), (11, 182, 11, 137), (11, 190, 11, 183), (11, 193, 11, 188), (11, 197, 11, 189), (11, 205, 11, 185), (11, 209, 11, 184), (11, 212, 11, 134), (11, 215, 11, 135), (11, 237, 11, 202), (11, 250, 11, 205), (11, 260, 11, 206), (11, 264, 11, 207), (11, 280, 11, 208), (11, 283, 11, 209), (11, 286, 11, 210), (11, 291, 11, 211), (11, 296, 11, 212), (11, 299, 11, 213), (11, 307, 11, 218), (11, 314, 11, 223), (11, 320, 11, 228), (11, 61, 11, 141), (11, 70, 11, 138), (11, 73, 11, 133), (11, 79, 11, 153), (11, 82, 11, 150), (11, 90, 11, 155), (11, 93, 11, 149), (11, 97, 11, 148), (12, 100, 10, 102)] : List (Nat × Nat × Nat × Nat)) ++ (([(12, 103, 11, 198), (12, 104, 10, 103), (12, 107, 11, 199), (12, 108, 10, 104), (12, 111, 11, 200), (12, 112, 10, 105), (12, 116, 11, 201), (12, 117, 10, 106), (12, 120, 11, 214), (12, 121, 10, 107), (12, 124, 11, 216), (12, 127, 10, 108), (12, 13, 10, 81), (12, 131, 11, 219), (12, 132, 10, 109), (12, 136, 11, 220), (12, 137, 10, 110), (12, 140, 11, 221), (12, 141, 10, 111), (12, 144, 11, 222), (12, 145, 10, 112), (12, 148, 11, 224), (12, 149, 10, 113), (12, 152, 11, 225), (12, 153, 10, 114), (12, 156, 11, 226), (12, 157, 10, 115), (12, 160, 11, 227), (12, 161, 10, 116), (12, 164, 11, 229), (12, 165, 10, 117), (12, 168, 11, 230), (12, 17, 11, 152), (12, 18, 10, 82), (12, 22, 11, 154), (12, 23, 10, 83), (12, 26, 11, 156), (12, 27, 10, 84), (12, 31, 11, 157), (12, 32, 10, 85)] : List (Nat × Nat × Nat × Nat)) ++ (([(12, 35, 11, 158), (12, 36, 10, 86), (12, 39, 11, 165), (12, 40, 10, 87), (12, 43, 11, 166), (12, 44, 10, 88), (12, 47, 11, 167), (12, 48, 10, 89), (12, 51, 11, 168), (12, 52, 10, 90), (12, 55, 11, 169), (12, 56, 10, 91), (12, 59, 11, 171), (12, 60, 10, 92), (12, 63, 11, 181), (12, 64, 10, 93), (12, 67, 11, 186), (12, 68, 10, 94), (12, 71, 11, 187), (12, 72, 10, 95), (12, 75, 11, 190), (12, 76, 10, 96), (12, 79, 11, 191), (12, 80, 10, 97), (12, 83, 11, 192), (12, 84, 10, 98), (12, 87, 11, 194), (12, 88, 10, 99), (12, 91, 11, 195), (12, 92, 10, 100), (12, 95, 11, 196), (12, 96, 10, 101), (12, 99, 11, 197), (8, 102, 8, 61), (8, 115, 8, 62), (8, 119, 8, 65), (8, 125, 8, 44), (8, 65, 8, 47), (8, 75, 8, 57), (8, 79, 8, 45)] : List (Nat × Nat × Nat × Nat)) ++ (([(8, 83, 8, 48), (8, 87, 8, 58), (8, 90, 8, 64), (8, 93, 8, 59), (8, 96, 8, 60), (8, 99, 8, 63), (9, 105, 9, 77), (9, 22, 9, 69), (9, 29, 9, 75), (9, 37, 9, 74), (9, 41, 9, 70), (9, 46, 9, 71), (9, 61, 9, 72), (9, 65, 9, 73), (9, 72, 8, 44), (9, 76, 8, 46), (9, 79, 8, 42), (9, 83, 8, 43), (9, 99, 9, 76)] : List (Nat × Nat × Nat × Nat)))))) := rfl
  rw [e] at hq
  rcases List.mem_append.mp hq with hq | hq
  · exact lk_v_0 q hq
  rcases List.mem_append.mp hq with hq | hq
  · exact lk_v_40 q hq
  rcases List.mem_append.mp hq with hq | hq
  · exact lk_v_80 q hq
  rcases List.mem_append.mp hq with hq | hq
  · exact lk_v_120 q hq
  exact lk_v_160 q hq
def lk_d : List (Nat × Nat × Nat × Nat × Nat) := [(10, 140, 0, 26, 26), (10, 140, 1, 8, 26), (10, 140, 3, 26, 26), (10, 140, 4, 8, 26), (10, 140, 5, 26, 26), (10, 140, 6, 33, 26), (10, 143, 0, 3, 27), (10, 143, 1, 27, 27), (10, 143, 3, 15, 27), (10, 143, 4, 20, 27), (10, 143, 5, 27, 27), (10, 143, 6, 34, 27), (10, 277, 0, 24, 24), (10, 277, 1, 6, 24), (10, 277, 3, 24, 24), (10, 277, 4, 6, 24), (10, 277, 5, 24, 24), (10, 277, 6, 31, 24), (10, 280, 0, 25, 25), (10, 280, 1, 7, 25), (10, 280, 3, 25, 25), (10, 280, 4, 19, 25), (10, 280, 5, 25, 25), (10, 280, 6, 32, 25), (8, 111, 0, 3, 27), (8, 111, 1, 27, 27), (8, 111, 3, 15, 27), (8, 111, 4, 20, 27), (8, 111, 5, 27, 27), (8, 111, 6, 34, 27), (8, 122, 0, 24, 24), (8, 122, 1, 6, 24), (8, 122, 3, 24, 24), (8, 122, 4, 6, 24), (8, 122, 5, 24, 24), (8, 122, 6, 31, 24), (8, 128, 0, 26, 26), (8, 128, 1, 8, 26), (8, 128, 3, 26, 26), (8, 128, 4, 8, 26), (8, 128, 5, 26, 26), (8, 128, 6, 33, 26), (8, 131, 0, 25, 25), (8, 131, 1, 7, 25), (8, 131, 3, 25, 25), (8, 131, 4, 19, 25), (8, 131, 5, 25, 25), (8, 131, 6, 32, 25), (8, 69, 0, 2, 23), (8, 69, 1, 23, 23), (8, 69, 3, 14, 23), (8, 69, 4, 18, 23), (8, 69, 5, 23, 23), (8, 69, 6, 30, 23), (9, 55, 0, 1, 22), (9, 55, 1, 5, 22), (9, 55, 3, 13, 22), (9, 55, 4, 17, 22), (9, 55, 5, 22, 22), (9, 55, 6, 29, 22)]
set_option maxRecDepth 100000 in
theorem lk_d_0 : ∀ q ∈ ([(10, 140, 0, 26, 26), (10, 140, 1, 8, 26), (10, 140, 3, 26, 26), (10, 140, 4, 8, 26), (10, 140, 5, 26, 26), (10, 140, 6, 33, 26), (10, 143, 0, 3, 27), (10, 143, 1, 27, 27), (10, 143, 3, 15, 27), (10, 143, 4, 20, 27), (10, 143, 5, 27, 27), (10, 143, 6, 34, 27), (10, 277, 0, 24, 24), (10, 277, 1, 6, 24), (10, 277, 3, 24, 24), (10, 277, 4, 6, 24), (10, 277, 5, 24, 24), (10, 277, 6, 31, 24), (10, 280, 0, 25, 25), (10, 280, 1, 7, 25), (10, 280, 3, 25, 25), (10, 280, 4, 19, 25), (10, 280, 5, 25, 25), (10, 280, 6, 32, 25), (8, 111, 0, 3, 27), (8, 111, 1, 27, 27), (8, 111, 3, 15, 27), (8, 111, 4, 20, 27), (8, 111, 5, 27, 27), (8, 111, 6, 34, 27), (8, 122, 0, 24, 24), (8, 122, 1, 6, 24), (8, 122, 3, 24, 24), (8, 122, 4, 6, 24), (8, 122, 5, 24, 24), (8, 122, 6, 31, 24), (8, 128, 0, 26, 26), (8, 128, 1, 8, 26), (8, 128, 3, 26, 26), (8, 128, 4, 8, 26)] : List (Nat × Nat × Nat × Nat × Nat)), Cond.methodLink (sv_cn q.1) q.2.1 (sv_y q.2.2.2.2) ∈ lw_tbl ∧ Cond.sameMethod (sv_y q.2.2.2.2).cls (sv_y q.2.2.2.2).cls (sv_y q.2.2.2.2).name (sv_y q.2.2.2.2).desc ∈ lw_tbl ∧ Cond.selects (sv_cn q.2.2.1) (sv_y q.2.2.2.2) (sv_y q.2.2.2.1) ∈ lw_tbl ∧ Cond.instanceMethod (sv_y q.2.2.2.1) ∈ lw_tbl ∧ Cond.instanceMethod (sv_y q.2.2.2.2) ∈ lw_tbl ∧ q.2.2.1 < 12 ∧ q.2.2.2.1 < 234 ∧ q.2.2.2.2 < 234 ∧ sv_n q.2.2.2.1 = sv_n q.2.2.2.2 := List.forall_mem_cons.mpr ⟨⟨tb_2 (List.mem_of_getElem? (i := 137) rfl), tb_2 (List.mem_of_getElem? (i := 140) rfl), tb_2 (List.mem_of_getElem? (i := 141) rfl), tb_2 (List.mem_of_getElem? (i := 138) rfl), tb_2 (List.mem_of_getElem? (i := 138) rfl), by decide, by decide, by decide, rfl⟩, List.forall_mem_cons.mpr ⟨⟨tb_2 (List.mem_of_getElem? (i := 137) rfl), tb_2 (List.mem_of_getElem? (i := 140) rfl), tb_2 (List.mem_of_getElem? (i := 142) rfl), tb_2 (List.mem_of_getElem? (i := 143) rfl), tb_2 (List.mem_of_getElem? (i := 138) rfl), by decide, by decide, by decide, rfl⟩, List.forall_mem_cons.mpr ⟨⟨tb_2 (List.mem_of_getElem? (i := 137) rfl), tb_2 (List.mem_of_getElem? (i := 140) rfl), tb_2 (List.mem_of_getElem? (i := 145) rfl), tb_2 (List.mem_of_getElem? (i := 138) rfl), tb_2 (List.mem_of_getElem? (i := 138) rfl), by decide, by decide, by decide, rfl⟩, List.forall_mem_cons.mpr ⟨⟨tb_2 (List.mem_of_getElem? (i := 137) rfl), tb_2 (List.mem_of_getElem? (i := 140) rfl), tb_2 (List.mem_of_getElem? (i := 146) rfl), tb_2 (List.mem_of_getElem? (i := 143) rfl), tb_2 (List.mem_of_getElem? (i := 138) rfl), by decide, by decide, by decide, rfl⟩, List.forall_mem_cons.mpr ⟨⟨tb_2 (List.mem_of_getElem? (i := 137) rfl), tb_2 (List.mem_of_getElem? (i := 140) rfl), tb_2 (List.mem_of_getElem? (i := 139) rfl), tb_2 (List.mem_of_getElem? (i := 138) rfl), tb_2 (List.mem_of_getElem? (i := 138) rfl), by decide, by decide, by decide, rfl⟩, List.forall_mem_cons.mpr ⟨⟨tb_2 (List.mem_of_getElem? (i := 137) rfl), tb_2 (List.mem_of_getElem? (i := 140) rfl), tb_2 (List.mem_of_getElem? (i := 147) rfl), tb_2 (List.mem_of_getElem? (i := 148) rfl), tb_2 (List.mem_of_getElem? (i := 138) rfl), by decide, by decide, by decide, rfl⟩, List.forall_mem_cons.mpr ⟨⟨tb_2 (List.mem_of_getElem? (i := 151) rfl), tb_2 (List.mem_of_getElem? (i := 154) rfl), tb_2 (List.mem_of_getElem? (i := 155) rfl), tb_2 (List.mem_of_getElem? (i := 156) rfl), tb_2 (List.mem_of_getElem? (i := 152) rfl), by decide, by decide, by decide, rfl⟩, List.forall_mem_cons.mpr ⟨⟨tb_2 (List.mem_of_getElem? (i := 151) rfl), tb_2 (List.mem_of_getElem? (i := 154) rfl), tb_2 (List.mem_of_getElem? (i := 158) rfl), tb_2 (List.mem_of_getElem? (i := 152) rfl), tb_2 (List.mem_of_getElem? (i := 152) rfl), by decide, by decide, by decide, rfl⟩, List.forall_mem_cons.mpr ⟨⟨tb_2 (List.mem_of_getElem? (i := 151) rfl), tb_2 (List.mem_of_getElem? (i := 154) rfl), tb_2 (List.mem_of_getElem? (i := 159) rfl), tb_2 (List.mem_of_getElem? (i := 160) rfl), tb_2 (List.mem_of_getElem? (i := 152) rfl), by decide, by decide, by decide, rfl⟩, List.forall_mem_cons.mpr ⟨⟨tb_2 (List.mem_of_getElem? (i := 151) rfl), tb_2 (List.mem_of_getElem? (i := 154) rfl), tb_2 (List.mem_of_getElem? (i := 163) rfl), tb_2 (List.mem_of_getElem? (i := 164) rfl), tb_2 (List.mem_of_getElem? (i := 152) rfl), by decide, by decide, by decide, rfl⟩, List.forall_mem_cons.mpr ⟨⟨tb_2 (List.mem_of_getElem? (i := 151) rfl), tb_2 (List.mem_of_getElem? (i := 154) rfl), tb_2 (List.mem_of_getElem? (i := 153) rfl), tb_2 (List.mem_of_getElem? (i := 152) rfl), tb_2 (List.mem_of_getElem? (i := 152) rfl), by decide, by decide, by decide, rfl⟩, List.forall_mem_cons.mpr ⟨⟨tb_2 (List.mem_of_getElem? (i := 151) rfl), tb_2 (List.mem_of_getElem? (i := 154) rfl), tb_2 (List.mem_of_getElem? (i := 169) rfl), tb_2 (List.mem_of_getElem? (i := 170) rfl), tb_2 (List.mem_of_getElem? (i := 152) rfl), by decide, by decide, by decide, rfl⟩, List.forall_mem_cons.mpr ⟨⟨tb_2 (List.mem_of_getElem? (i := 102) rfl), tb_2 (List.mem_of_getElem? (i := 105) rfl), tb_2 (List.mem_of_getElem? (i := 106) rfl), tb_2 (List.mem_of_getElem? (i := 103) rfl), tb_2 (List.mem_of_getElem? (i := 103) rfl), by decide, by decide, by decide, rfl⟩, List.forall_mem_cons.mpr ⟨⟨tb_2 (List.mem_of_getElem? (i := 102) rfl), tb_2 (List.mem_of_getElem? (i := 105) rfl), tb_2 (List.mem_of_getElem? (i := 107) rfl), tb_2 (List.mem_of_getElem? (i := 108) rfl), tb_2 (List.mem_of_getElem? (i := 103) rfl), by decide, by decide, by decide, rfl⟩, List.forall_mem_cons.mpr ⟨⟨tb_2 (List.mem_of_getElem? (i := 102) rfl), tb_2 (List.mem_of_getElem? (i := 105) rfl), tb_2 (List.mem_of_getElem? (i := 110) rfl), tb_2 (List.mem_of_getElem? (i := 103) rfl), tb_2 (List.mem_of_getElem? (i := 103) rfl), by decide, by decide, by decide, rfl⟩, List.forall_mem_cons.mpr ⟨⟨tb_2 (List.mem_of_getElem? (i := 102) rfl), tb_2 (List.mem_of_getElem? (i := 105) rfl), tb_2 (List.mem_of_getElem? (i := 111) rfl), tb_2 (List.mem_of_getElem? (i := 108) rfl), tb_2 (List.mem_of_getElem? (i := 103) rfl), by decide, by decide, by decide, rfl⟩, List.forall_mem_cons.mpr ⟨⟨tb_2 (List.mem_of_getElem? (i := 102) rfl), tb_2 (List.mem_of_getElem? (i := 105) rfl), tb_2 (List.mem_of_getElem? (i := 104) rfl), tb_2 (List.mem_of_getElem? (i := 103) rfl), tb_2 (List.mem_of_getElem? (i := 103) rfl), by decide, by decide, by decide, rfl⟩, List.forall_mem_cons.mpr ⟨⟨tb_2 (List.mem_of_getElem? (i := 102) rfl), tb_2 (List.mem_of_getElem? (i := 105) rfl), tb_2 (List.mem_of_getElem? (i := 112) rfl), tb_2 (List.mem_of_getElem? (i := 113) rfl), tb_2 (List.mem_of_getElem? (i := 103) rfl), by decide, by decide, by decide, rfl⟩, List.forall_mem_cons.mpr ⟨⟨tb_2 (List.mem_of_getElem? (i := 116) rfl), tb_2 (List.mem_of_getElem? (i := 119) rfl), tb_2 (List.mem_of_getElem? (i := 120) rfl), tb_2 (List.mem_of_getElem? (i := 117) rfl), tb_2 (List.mem_of_getElem? (i := 117) rfl), by decide, by decide, by decide, rfl⟩, List.forall_mem_cons.mpr ⟨⟨tb_2 (List.mem_of_getElem? (i := 116) rfl), tb_2 (List.mem_of_getElem? (i := 119) rfl), tb_2 (List.mem_of_getElem? (i := 121) rfl), tb_2 (List.mem_of_getElem? (i := 122) rfl), tb_2 (List.mem_of_getElem? (i := 117) rfl), by decide, by decide, by decide, rfl⟩, List.forall_mem_cons.mpr ⟨⟨tb_2 (List.mem_of_getElem? (i := 116) rfl), tb_2 (List.mem_of_getElem? (i := 119) rfl), tb_2 (List.mem_of_getElem? (i := 124) rfl), tb_2 (List.mem_of_getElem? (i := 117) rfl), tb_2 (List.mem_of_getElem? (i := 117) rfl), by decide, by decide, by decide, rfl⟩, List.forall_mem_cons.mpr ⟨⟨tb_2 (List.mem_of_getElem? (i := 116) rfl), tb_2 (List.mem_of_getElem? (i := 119) rfl), tb_2 (List.mem_of_getElem? (i := 125) rfl), tb_2 (List.mem_of_getElem? (i := 126) rfl), tb_2 (List.mem_of_getElem? (i := 117) rfl), by decide, by decide, by decide, rfl⟩, List.forall_mem_cons.mpr ⟨⟨tb_2 (List.mem_of_getElem? (i := 116) rfl), tb_2 (List.mem_of_getElem? (i := 119) rfl), tb_2 (List.mem_of_getElem? (i := 118) rfl), tb_2 (List.mem_of_getElem? (i := 117) rfl), tb_2 (List.mem_of_getElem? (i := 117) rfl), by decide, by decide, by decide, rfl⟩, List.forall_mem_cons.mpr ⟨⟨tb_2 (List.mem_of_getElem? (i := 116) rfl), tb_2 (List.mem_of_getElem? (i := 119) rfl), tb_2 (List.mem_of_getElem? (i := 129) rfl), tb_2 (List.mem_of_getElem? (i := 130) rfl), tb_2 (List.mem_of_getElem? (i := 117) rfl), by decide, by decide, by decide, rfl⟩, List.forall_mem_cons.mpr ⟨⟨tb_2 (List.mem_of_getElem? (i := 218) rfl), tb_2 (List.mem_of_getElem? (i := 154) rfl), tb_2 (List.mem_of_getElem? (i := 155) rfl), tb_2 (List.mem_of_getElem? (i := 156) rfl), tb_2 (List.mem_of_getElem? (i := 152) rfl), by decide, by decide, by decide, rfl⟩, List.forall_mem_cons.mpr ⟨⟨tb_2 (List.mem_of_getElem? (i := 218) rfl), tb_2 (List.mem_of_getElem? (i := 154) rfl), tb_2 (List.mem_of_getElem? (i := 158) rfl), tb_2 (List.mem_of_getElem? (i := 152) rfl), tb_2 (List.mem_of_getElem? (i := 152) rfl), by decide, by decide, by decide, rfl⟩, List.forall_mem_cons.mpr ⟨⟨tb_2 (List.mem_of_getElem? (i := 218) rfl), tb_2 (List.mem_of_getElem? (i := 154) rfl), tb_2 (List.mem_of_getElem? (i := 159) rfl), tb_2 (List.mem_of_getElem? (i := 160) rfl), tb_2 (List.mem_of_getElem? (i := 152) rfl), by decide, by decide, by decide, rfl⟩, List.forall_mem_cons.mpr ⟨⟨tb_2 (List.mem_of_getElem? (i := 218) rfl), tb_2 (List.mem_of_getElem? (i := 154) rfl), tb_2 (List.mem_of_getElem? (i := 163) rfl), tb_2 (List.mem_of_getElem? (i := 164) rfl), tb_2 (List.mem_of_getElem? (i := 152) rfl), by decide, by decide, by decide, rfl⟩, List.forall_mem_cons.mpr ⟨⟨tb_2 (List.mem_of_getElem? (i := 218) rfl), tb_2 (List.mem_of_getElem? (i := 154) rfl), tb_2 (List.mem_of_getElem? (i := 153) rfl), tb_2 (List.mem_of_getElem? (i := 152) rfl), tb_2 (List.mem_of_getElem? (i := 152) rfl), by decide, by decide, by decide, rfl⟩, List.forall_mem_cons.mpr ⟨⟨tb_2 (List.mem_of_getElem? (i := 218) rfl), tb_2 (List.mem_of_getElem? (i := 154) rfl), tb_2 (List.mem_of_getElem? (i := 169) rfl), tb_2 (List.mem_of_getElem? (i := 170) rfl), tb_2 (List.mem_of_getElem? (i := 152) rfl), by decide, by decide, by decide, rfl⟩, List.forall_mem_cons.mpr ⟨⟨tb_3 (List.mem_of_getElem? (i := 5) rfl), tb_2 (List.mem_of_getElem? (i := 105) rfl), tb_2 (List.mem_of_getElem? (i := 106) rfl), tb_2 (List.mem_of_getElem? (i := 103) rfl), tb_2 (List.mem_of_getElem? (i := 103) rfl), by decide, by decide, by decide, rfl⟩, List.forall_mem_cons.mpr ⟨⟨tb_3 (List.mem_of_getElem? (i := 5) rfl), tb_2 (List.mem_of_getElem? (i := 105) rfl), tb_2 (List.mem_of_getElem? (i := 107) rfl), tb_2 (List.mem_of_getElem? (i := 108) rfl), tb_2 (List.mem_of_getElem? (i := 103) rfl), by decide, by decide, by decide, rfl⟩, List.forall_mem_cons.mpr ⟨⟨tb_3 (List.mem_of_getElem? (i := 5) rfl), tb_2 (List.mem_of_getElem? (i := 105) rfl), tb_2 (List.mem_of_getElem? (i := 110) rfl), tb_2 (List.mem_of_getElem? (i := 103) rfl), tb_2 (List.mem_of_getElem? (i := 103) rfl), by decide, by decide, by decide, rfl⟩, List.forall_mem_cons.mpr ⟨⟨tb_3 (List.mem_of_getElem? (i := 5) rfl), tb_2 (List.mem_of_getElem? (i := 105) rfl), tb_2 (List.mem_of_getElem? (i := 111) rfl), tb_2 (List.mem_of_getElem? (i := 108) rfl), tb_2 (List.mem_of_getElem? (i := 103) rfl), by decide, by decide, by decide, rfl⟩, List.forall_mem_cons.mpr ⟨⟨tb_3 (List.mem_of_getElem? (i := 5) rfl), tb_2 (List.mem_of_getElem? (i := 105) rfl), tb_2 (List.mem_of_getElem? (i := 104) rfl), tb_2 (List.mem_of_getElem? (i := 103) rfl), tb_2 (List.mem_of_getElem? (i := 103) rfl), by decide, by decide, by decide, rfl⟩, List.forall_mem_cons.mpr ⟨⟨tb_3 (List.mem_of_getElem? (i := 5) rfl), tb_2 (List.mem_of_getElem? (i := 105) rfl), tb_2 (List.mem_of_getElem? (i := 112) rfl), tb_2 (List.mem_of_getElem? (i := 113) rfl), tb_2 (List.mem_of_getElem? (i := 103) rfl), by decide, by decide, by decide, rfl⟩, List.forall_mem_cons.mpr ⟨⟨tb_3 (List.mem_of_getElem? (i := 7) rfl), tb_2 (List.mem_of_getElem? (i := 140) rfl), tb_2 (List.mem_of_getElem? (i := 141) rfl), tb_2 (List.mem_of_getElem? (i := 138) rfl), tb_2 (List.mem_of_getElem? (i := 138) rfl), by decide, by decide, by decide, rfl⟩, List.forall_mem_cons.mpr ⟨⟨tb_3 (List.mem_of_getElem? (i := 7) rfl), tb_2 (List.mem_of_getElem? (i := 140) rfl), tb_2 (List.mem_of_getElem? (i := 142) rfl), tb_2 (List.mem_of_getElem? (i := 143) rfl), tb_2 (List.mem_of_getElem? (i := 138) rfl), by decide, by decide, by decide, rfl⟩, List.forall_mem_cons.mpr ⟨⟨tb_3 (List.mem_of_getElem? (i := 7) rfl), tb_2 (List.mem_of_getElem? (i := 140) rfl), tb_2 (List.mem_of_getElem? (i := 145) rfl), tb_2 (List.mem_of_getElem? (i := 138) rfl), tb_2 (List.mem_of_getElem? (i := 138) rfl), by decide, by decide, by decide, rfl⟩, List.forall_mem_cons.mpr ⟨⟨tb_3 (List.mem_of_getElem? (i := 7) rfl), tb_2 (List.mem_of_getElem? (i := 140) rfl), tb_2 (List.mem_of_getElem? (i := 146) rfl), tb_2 (List.mem_of_getElem? (i := 143) rfl), tb_2 (List.mem_of_getElem? (i := 138) rfl), by decide, by decide, by decide, rfl⟩, fun _ h => absurd h List.not_mem_nil⟩⟩⟩⟩⟩⟩⟩⟩⟩⟩⟩⟩⟩⟩⟩⟩⟩⟩⟩⟩⟩⟩⟩⟩⟩⟩⟩⟩⟩⟩⟩⟩⟩⟩⟩⟩⟩⟩⟩⟩
set_option maxRecDepth 100000 in
theorem lk_d_40 : ∀ q ∈ ([(8, 128, 5, 26, 26), (8, 128, 6, 33, 26), (8, 131, 0, 25, 25), (8, 131, 1, 7, 25), (8, 131, 3, 25, 25), (8, 131, 4, 19, 25), (8, 131, 5, 25, 25), (8, 131, 6, 32, 25), (8, 69, 0, 2, 23), (8, 69, 1, 23, 23), (8, 69, 3, 14, 23), (8, 69, 4, 18, 23), (8, 69, 5, 23, 23), (8, 69, 6, 30, 23), (9, 55, 0, 1, 22), (9, 55, 1, 5, 22), (9, 55, 3, 13, 22), (9, 55, 4, 17, 22), (9, 55, 5, 22, 22), (9, 55, 6, 29, 22)] : List (Nat × Nat × Nat × Nat × Nat)), Cond.methodLink (sv_cn q.1) q.2.1 (sv_y q.2.2.2.2) ∈ lw_tbl ∧ Cond.sameMethod (sv_y q.2.2.2.2).cls (sv_y q.2.2.2.2).cls (sv_y q.2.2.2.2).name (sv_y q.2.2.2.2).desc ∈ lw_tbl ∧ Cond.selects (sv_cn q.2.2.1) (sv_y q.2.2.2.2) (sv_y q.2.2.2.1) ∈ lw_tbl ∧ Cond.instanceMethod (sv_y q.2.2.2.1) ∈ lw_tbl ∧ Cond.instanceMethod (sv_y q.2.2.2.2) ∈ lw_tbl ∧ q.2.2.1 < 12 ∧ q.2.2.2.1 < 234 ∧ q.2.2.2.2 < 234 ∧ sv_n q.2.2.2.1 = sv_n q.2.2.2.2 := List.forall_mem_cons.mpr ⟨⟨tb_3 (List.mem_of_getElem? (i := 7) rfl), tb_2 (List.mem_of_getElem? (i := 140) rfl), tb_2 (List.mem_of_getElem? (i := 139) rfl), tb_2 (List.mem_of_getElem? (i := 138) rfl), tb_2 (List.mem_of_getElem? (i := 138) rfl), by decide, by decide, by decide, rfl⟩, List.forall_mem_cons.mpr ⟨⟨tb_3 (List.mem_of_getElem? (i := 7) rfl), tb_2 (List.mem_of_getElem? (i := 140) rfl), tb_2 (List.mem_of_getElem? (i := 147) rfl), tb_2 (List.mem_of_getElem? (i := 148) rfl), tb_2 (List.mem_of_getElem? (i := 138) rfl), by decide, by decide, by decide, rfl⟩, List.forall_mem_cons.mpr ⟨⟨tb_3 (List.mem_of_getElem? (i := 3) rfl), tb_2 (List.mem_of_getElem? (i := 119) rfl), tb_2 (List.mem_of_getElem? (i := 120) rfl), tb_2 (List.mem_of_getElem? (i := 117) rfl), tb_2 (List.mem_of_getElem? (i := 117) rfl), by decide, by decide, by decide, rfl⟩, List.forall_mem_cons.mpr ⟨⟨tb_3 (List.mem_of_getElem? (i := 3) rfl), tb_2 (List.mem_of_getElem? (i := 119) rfl), tb_2 (List.mem_of_getElem? (i := 121) rfl), tb_2 (List.mem_of_getElem? (i := 122) rfl), tb_2 (List.mem_of_getElem? (i := 117) rfl), by decide, by decide, by decide, rfl⟩, List.forall_mem_cons.mpr ⟨⟨tb_3 (List.mem_of_getElem? (i := 3) rfl), tb_2 (List.mem_of_getElem? (i := 119) rfl), tb_2 (List.mem_of_getElem? (i := 124) rfl), tb_2 (List.mem_of_getElem? (i := 117) rfl), tb_2 (List.mem_of_getElem? (i := 117) rfl), by decide, by decide, by decide, rfl⟩, List.forall_mem_cons.mpr ⟨⟨tb_3 (List.mem_of_getElem? (i := 3) rfl), tb_2 (List.mem_of_getElem? (i := 119) rfl), tb_2 (List.mem_of_getElem? (i := 125) rfl), tb_2 (List.mem_of_getElem? (i := 126) rfl), tb_2 (List.mem_of_getElem? (i := 117) rfl), by decide, by decide, by decide, rfl⟩, List.forall_mem_cons.mpr ⟨⟨tb_3 (List.mem_of_getElem? (i := 3) rfl), tb_2 (List.mem_of_getElem? (i := 119) rfl), tb_2 (List.mem_of_getElem? (i := 118) rfl), tb_2 (List.mem_of_getElem? (i := 117) rfl), tb_2 (List.mem_of_getElem? (i := 117) rfl), by decide, by decide, by decide, rfl⟩, List.forall_mem_cons.mpr ⟨⟨tb_3 (List.mem_of_getElem? (i := 3) rfl), tb_2 (List.mem_of_getElem? (i := 119) rfl), tb_2 (List.mem_of_getElem? (i := 129) rfl), tb_2 (List.mem_of_getElem? (i := 130) rfl), tb_2 (List.mem_of_getElem? (i := 117) rfl), by decide, by decide, by decide, rfl⟩, List.forall_mem_cons.mpr ⟨⟨tb_2 (List.mem_of_getElem? (i := 78) rfl), tb_2 (List.mem_of_getElem? (i := 81) rfl), tb_2 (List.mem_of_getElem? (i := 82) rfl), tb_2 (List.mem_of_getElem? (i := 83) rfl), tb_2 (List.mem_of_getElem? (i := 79) rfl), by decide, by decide, by decide, rfl⟩, List.forall_mem_cons.mpr ⟨⟨tb_2 (List.mem_of_getElem? (i := 78) rfl), tb_2 (List.mem_of_getElem? (i := 81) rfl), tb_2 (List.mem_of_getElem? (i := 86) rfl), tb_2 (List.mem_of_getElem? (i := 79) rfl), tb_2 (List.mem_of_getElem? (i := 79) rfl), by decide, by decide, by decide, rfl⟩, List.forall_mem_cons.mpr ⟨⟨tb_2 (List.mem_of_getElem? (i := 78) rfl), tb_2 (List.mem_of_getElem? (i := 81) rfl), tb_2 (List.mem_of_getElem? (i := 87) rfl), tb_2 (List.mem_of_getElem? (i := 88) rfl), tb_2 (List.mem_of_getElem? (i := 79) rfl), by decide, by decide, by decide, rfl⟩, List.forall_mem_cons.mpr ⟨⟨tb_2 (List.mem_of_getElem? (i := 78) rfl), tb_2 (List.mem_of_getElem? (i := 81) rfl), tb_2 (List.mem_of_getElem? (i := 91) rfl), tb_2 (List.mem_of_getElem? (i := 92) rfl), tb_2 (List.mem_of_getElem? (i := 79) rfl), by decide, by decide, by decide, rfl⟩, List.forall_mem_cons.mpr ⟨⟨tb_2 (List.mem_of_getElem? (i := 78) rfl), tb_2 (List.mem_of_getElem? (i := 81) rfl), tb_2 (List.mem_of_getElem? (i := 80) rfl), tb_2 (List.mem_of_getElem? (i := 79) rfl), tb_2 (List.mem_of_getElem? (i := 79) rfl), by decide, by decide, by decide, rfl⟩, List.forall_mem_cons.mpr ⟨⟨tb_2 (List.mem_of_getElem? (i := 78) rfl), tb_2 (List.mem_of_getElem? (i := 81) rfl), tb_2 (List.mem_of_getElem? (i := 97) rfl), tb_2 (List.mem_of_getElem? (i := 98) rfl), tb_2 (List.mem_of_getElem? (i := 79) rfl), by decide, by decide, by decide, rfl⟩, List.forall_mem_cons.mpr ⟨⟨tb_3 (List.mem_of_getElem? (i := 194) rfl), tb_3 (List.mem_of_getElem? (i := 197) rfl), tb_3 (List.mem_of_getElem? (i := 198) rfl), tb_3 (List.mem_of_getElem? (i := 199) rfl), tb_3 (List.mem_of_getElem? (i := 195) rfl), by decide, by decide, by decide, rfl⟩, List.forall_mem_cons.mpr ⟨⟨tb_3 (List.mem_of_getElem? (i := 194) rfl), tb_3 (List.mem_of_getElem? (i := 197) rfl), tb_3 (List.mem_of_getElem? (i := 202) rfl), tb_3 (List.mem_of_getElem? (i := 203) rfl), tb_3 (List.mem_of_getElem? (i := 195) rfl), by decide, by decide, by decide, rfl⟩, List.forall_mem_cons.mpr ⟨⟨tb_3 (List.mem_of_getElem? (i := 194) rfl), tb_3 (List.mem_of_getElem? (i := 197) rfl), tb_3 (List.mem_of_getElem? (i := 206) rfl), tb_3 (List.mem_of_getElem? (i := 207) rfl), tb_3 (List.mem_of_getElem? (i := 195) rfl), by decide, by decide, by decide, rfl⟩, List.forall_mem_cons.mpr ⟨⟨tb_3 (List.mem_of_getElem? (i := 194) rfl), tb_3 (List.mem_of_getElem? (i := 197) rfl), tb_3 (List.mem_of_getElem? (i := 210) rfl), tb_3 (List.mem_of_getElem? (i := 211) rfl), tb_3 (List.mem_of_getElem? (i := 195) rfl), by decide, by decide, by decide, rfl⟩, List.forall_mem_cons.mpr ⟨⟨tb_3 (List.mem_of_getElem? (i := 194) rfl), tb_3 (List.mem_of_getElem? (i := 197) rfl), tb_3 (List.mem_of_getElem? (i := 196) rfl), tb_3 (List.mem_of_getElem? (i := 195) rfl), tb_3 (List.mem_of_getElem? (i := 195) rfl), by decide, by decide, by decide, rfl⟩, List.forall_mem_cons.mpr ⟨⟨tb_3 (List.mem_of_getElem? (i := 194) rfl), tb_3 (List.mem_of_getElem? (i := 197) rfl), tb_3 (List.mem_of_getElem? (i := 214) rfl), tb_3 (List.mem_of_getElem? (i := 215) rfl), tb_3 (List.mem_of_getElem? (i := 195) rfl), by decide, by decide, by decide, rfl⟩, fun _ h => absurd h List.not_mem_nil⟩⟩⟩⟩⟩⟩⟩⟩⟩⟩⟩⟩⟩⟩⟩⟩⟩⟩⟩⟩
theorem lk_d_ok : ∀ q ∈ lk_d, Cond.methodLink (sv_cn q.1) q.2.1 (sv_y q.2.2.2.2) ∈ lw_tbl ∧ Cond.sameMethod (sv_y q.2.2.2.2).cls (sv_y q.2.2.2.2).cls (sv_y q.2.2.2.2).name (sv_y q.2.2.2.2).desc ∈ lw_tbl ∧ Cond.selects (sv_cn q.2.2.1) (sv_y q.2.2.2.2) (sv_y q.2.2.2.1) ∈ lw_tbl ∧ Cond.instanceMethod (sv_y q.2.2.2.1) ∈ lw_tbl ∧ Cond.instanceMethod (sv_y q.2.2.2.2) ∈ lw_tbl ∧ q.2.2.1 < 12 ∧ q.2.2.2.1 < 234 ∧ q.2.2.2.2 < 234 ∧ sv_n q.2.2.2.1 = sv_n q.2.2.2.2 := by
  intro q hq
  have e : lk_d = ([(10, 140, 0, 26, 26), (10, 140, 1, 8, 26), (10, 140, 3, 26, 26), (10, 140, 4, 8, 26), (10, 140, 5, 26, 26), (10, 140, 6, 33, 26), (10, 143, 0, 3, 27), (10, 143, 1, 27, 27), (10, 143, 3, 15, 27), (10, 143, 4, 20, 27), (10, 143, 5, 27, 27), (10, 143, 6, 34, 27), (10, 277, 0, 24, 24), (10, 277, 1, 6, 24), (10, 277, 3, 24, 24), (10, 277, 4, 6, 24), (10, 277, 5, 24, 24), (10, 277, 6, 31, 24), (10, 280, 0, 25, 25), (10, 280, 1, 7, 25), (10, 280, 3, 25, 25), (10, 280, 4, 19, 25), (10, 280, 5, 25, 25), (10, 280, 6, 32, 25), (8, 111, 0, 3, 27), (8, 111, 1, 27, 27), (8, 111, 3, 15, 27), (8, 111, 4, 20, 27), (8, 111, 5, 27, 27), (8, 111, 6, 34, 27), (8, 122, 0, 24, 24), (8, 122, 1, 6, 24), (8, 122, 3, 24, 24), (8, 122, 4, 6, 24), (8, 122, 5, 24, 24), (8, 122, 6, 31, 24), (8, 128, 0, 26, 26), (8, 128, 1, 8, 26), (8, 128, 3, 26, 26), (8, 128, 4, 8, 26)] : List (Nat × Nat × Nat × Nat × Nat)) ++ (([(8, 128, 5, 26, 26), (8, 128, 6, 33, 26), (8, 131, 0, 25, 25), (8, 131, 1, 7, 25), (8, 131, 3, 25, 25), (8, 131, 4, 19, 25), (8, 131, 5, 25, 25), (8, 131, 6, 32, 25), (8, 69, 0, 2, 23), (8, 69, 1, 23, 23), (8, 69, 3, 14, 23), (8, 69, 4, 18, 23), (8, 69, 5, 23, 23), (8, 69, 6, 30, 23), (9, 55, 0, 1, 22), (9, 55, 1, 5, 22), (9, 55, 3, 13, 22), (9, 55, 4, 17, 22), (9, 55, 5, 22, 22), (9, 55, 6, 29, 22)] : List (Nat × Nat × Nat × Nat × Nat))) := rfl
  rw [e] at hq
  rcases List.mem_append.mp hq with hq | hq
  · exact lk_d_0 q hq
  exact lk_d_40 q hq
def lk_i : List (Nat × Nat × Nat) := [(10, 29, 40), (10, 48, 66), (10, 55, 35), (10, 62, 9), (12, 12, 131), (12, 9, 80)]
set_option maxRecDepth 100000 in
theorem lk_i_0 : ∀ q ∈ ([(10, 29, 40), (10, 48, 66), (10, 55, 35), (10, 62, 9), (12, 12, 131), (12, 9, 80)] : List (Nat × Nat × Nat)), Cond.methodLink (sv_cn q.1) q.2.1 (sv_y q.2.2) ∈ lw_tbl ∧ Cond.instanceMethod (sv_y q.2.2) ∈ lw_tbl ∧ (sv_y q.2.2).name = "<init>" ∧ sv_r q.2.2 = none ∧ q.2.2 < 234 := List.forall_mem_cons.mpr ⟨⟨tb_1 (List.mem_of_getElem? (i := 74) rfl), tb_1 (List.mem_of_getElem? (i := 75) rfl), rfl, rfl, by decide⟩, List.forall_mem_cons.mpr ⟨⟨tb_1 (List.mem_of_getElem? (i := 137) rfl), tb_1 (List.mem_of_getElem? (i := 138) rfl), rfl, rfl, by decide⟩, List.forall_mem_cons.mpr ⟨⟨tb_1 (List.mem_of_getElem? (i := 164) rfl), tb_1 (List.mem_of_getElem? (i := 165) rfl), rfl, rfl, by decide⟩, List.forall_mem_cons.mpr ⟨⟨tb_1 (List.mem_of_getElem? (i := 184) rfl), tb_1 (List.mem_of_getElem? (i := 185) rfl), rfl, rfl, by decide⟩, List.forall_mem_cons.mpr ⟨⟨tb_4 (List.mem_of_getElem? (i := 71) rfl), tb_4 (List.mem_of_getElem? (i := 72) rfl), rfl, rfl, by decide⟩, List.forall_mem_cons.mpr ⟨⟨tb_1 (List.mem_of_getElem? (i := 23) rfl), tb_1 (List.mem_of_getElem? (i := 24) rfl), rfl, rfl, by decide⟩, fun _ h => absurd h List.not_mem_nil⟩⟩⟩⟩⟩⟩
theorem lk_i_ok : ∀ q ∈ lk_i, Cond.methodLink (sv_cn q.1) q.2.1 (sv_y q.2.2) ∈ lw_tbl ∧ Cond.instanceMethod (sv_y q.2.2) ∈ lw_tbl ∧ (sv_y q.2.2).name = "<init>" ∧ sv_r q.2.2 = none ∧ q.2.2 < 234 := by
  intro q hq
  have e : lk_i = ([(10, 29, 40), (10, 48, 66), (10, 55, 35), (10, 62, 9), (12, 12, 131), (12, 9, 80)] : List (Nat × Nat × Nat)) := rfl
  rw [e] at hq
  exact lk_i_0 q hq
def lk_n : List (Nat × Nat × Nat) := [(0, 1, 21), (1, 1, 21), (10, 11, 21), (10, 14, 4), (10, 17, 0), (10, 20, 28), (10, 23, 16), (10, 26, 12), (3, 1, 0), (4, 1, 4), (6, 1, 21)]
set_option maxRecDepth 100000 in
theorem lk_n_0 : ∀ q ∈ ([(0, 1, 21), (1, 1, 21), (10, 11, 21), (10, 14, 4), (10, 17, 0), (10, 20, 28), (10, 23, 16), (10, 26, 12), (3, 1, 0), (4, 1, 4), (6, 1, 21)] : List (Nat × Nat × Nat)), Cond.methodLinkNest (sv_cn q.1) q.2.1 (sv_y q.2.2) "MoleSecrets" ∈ lw_tbl ∧ Cond.instanceMethod (sv_y q.2.2) ∈ lw_tbl ∧ (sv_y q.2.2).name = "<init>" ∧ sv_r q.2.2 = none ∧ q.2.2 < 234 := List.forall_mem_cons.mpr ⟨⟨tb_1 (List.mem_of_getElem? (i := 49) rfl), tb_1 (List.mem_of_getElem? (i := 33) rfl), rfl, rfl, by decide⟩, List.forall_mem_cons.mpr ⟨⟨tb_1 (List.mem_of_getElem? (i := 42) rfl), tb_1 (List.mem_of_getElem? (i := 33) rfl), rfl, rfl, by decide⟩, List.forall_mem_cons.mpr ⟨⟨tb_1 (List.mem_of_getElem? (i := 32) rfl), tb_1 (List.mem_of_getElem? (i := 33) rfl), rfl, rfl, by decide⟩, List.forall_mem_cons.mpr ⟨⟨tb_1 (List.mem_of_getElem? (i := 39) rfl), tb_1 (List.mem_of_getElem? (i := 40) rfl), rfl, rfl, by decide⟩, List.forall_mem_cons.mpr ⟨⟨tb_1 (List.mem_of_getElem? (i := 46) rfl), tb_1 (List.mem_of_getElem? (i := 47) rfl), rfl, rfl, by decide⟩, List.forall_mem_cons.mpr ⟨⟨tb_1 (List.mem_of_getElem? (i := 53) rfl), tb_1 (List.mem_of_getElem? (i := 54) rfl), rfl, rfl, by decide⟩, List.forall_mem_cons.mpr ⟨⟨tb_1 (List.mem_of_getElem? (i := 60) rfl), tb_1 (List.mem_of_getElem? (i := 61) rfl), rfl, rfl, by decide⟩, List.forall_mem_cons.mpr ⟨⟨tb_1 (List.mem_of_getElem? (i := 67) rfl), tb_1 (List.mem_of_getElem? (i := 68) rfl), rfl, rfl, by decide⟩, List.forall_mem_cons.mpr ⟨⟨tb_1 (List.mem_of_getElem? (i := 70) rfl), tb_1 (List.mem_of_getElem? (i := 47) rfl), rfl, rfl, by decide⟩, List.forall_mem_cons.mpr ⟨⟨tb_1 (List.mem_of_getElem? (i := 63) rfl), tb_1 (List.mem_of_getElem? (i := 40) rfl), rfl, rfl, by decide⟩, List.forall_mem_cons.mpr ⟨⟨tb_1 (List.mem_of_getElem? (i := 56) rfl), tb_1 (List.mem_of_getElem? (i := 33) rfl), rfl, rfl, by decide⟩, fun _ h => absurd h List.not_mem_nil⟩⟩⟩⟩⟩⟩⟩⟩⟩⟩⟩
theorem lk_n_ok : ∀ q ∈ lk_n, Cond.methodLinkNest (sv_cn q.1) q.2.1 (sv_y q.2.2) "MoleSecrets" ∈ lw_tbl ∧ Cond.instanceMethod (sv_y q.2.2) ∈ lw_tbl ∧ (sv_y q.2.2).name = "<init>" ∧ sv_r q.2.2 = none ∧ q.2.2 < 234 := by
  intro q hq
  have e : lk_n = ([(0, 1, 21), (1, 1, 21), (10, 11, 21), (10, 14, 4), (10, 17, 0), (10, 20, 28), (10, 23, 16), (10, 26, 12), (3, 1, 0), (4, 1, 4), (6, 1, 21)] : List (Nat × Nat × Nat)) := rfl
  rw [e] at hq
  exact lk_n_0 q hq
def lk_u : List (Nat × Nat × Nat) := [(0, 9, 23), (3, 13, 3), (3, 9, 2), (4, 13, 7)]
set_option maxRecDepth 100000 in
theorem lk_u_0 : ∀ q ∈ ([(0, 9, 23), (3, 13, 3), (3, 9, 2), (4, 13, 7)] : List (Nat × Nat × Nat)), Cond.methodLink (sv_cn q.1) q.2.1 (sv_y q.2.2) ∈ lw_tbl ∧ Cond.sameMethod (sv_y q.2.2).cls (sv_y q.2.2).cls (sv_y q.2.2).name (sv_y q.2.2).desc ∈ lw_tbl ∧ Cond.superclass (sv_cn q.1) (sv_y q.2.2).cls ∈ lw_tbl ∧ Cond.instanceMethod (sv_y q.2.2) ∈ lw_tbl ∧ (sv_y q.2.2).name ≠ "<init>" ∧ q.2.2 < 234 := List.forall_mem_cons.mpr ⟨⟨tb_2 (List.mem_of_getElem? (i := 85) rfl), tb_2 (List.mem_of_getElem? (i := 81) rfl), tb_1 (List.mem_of_getElem? (i := 50) rfl), tb_2 (List.mem_of_getElem? (i := 79) rfl), by decide +kernel, by decide⟩, List.forall_mem_cons.mpr ⟨⟨tb_2 (List.mem_of_getElem? (i := 162) rfl), tb_6 (List.mem_of_getElem? (i := 68) rfl), tb_1 (List.mem_of_getElem? (i := 71) rfl), tb_2 (List.mem_of_getElem? (i := 156) rfl), by decide +kernel, by decide⟩, List.forall_mem_cons.mpr ⟨⟨tb_2 (List.mem_of_getElem? (i := 90) rfl), tb_6 (List.mem_of_getElem? (i := 66) rfl), tb_1 (List.mem_of_getElem? (i := 71) rfl), tb_2 (List.mem_of_getElem? (i := 83) rfl), by decide +kernel, by decide⟩, List.forall_mem_cons.mpr ⟨⟨tb_2 (List.mem_of_getElem? (i := 128) rfl), tb_6 (List.mem_of_getElem? (i := 67) rfl), tb_1 (List.mem_of_getElem? (i := 64) rfl), tb_2 (List.mem_of_getElem? (i := 122) rfl), by decide +kernel, by decide⟩, fun _ h => absurd h List.not_mem_nil⟩⟩⟩⟩
theorem lk_u_ok : ∀ q ∈ lk_u, Cond.methodLink (sv_cn q.1) q.2.1 (sv_y q.2.2) ∈ lw_tbl ∧ Cond.sameMethod (sv_y q.2.2).cls (sv_y q.2.2).cls (sv_y q.2.2).name (sv_y q.2.2).desc ∈ lw_tbl ∧ Cond.superclass (sv_cn q.1) (sv_y q.2.2).cls ∈ lw_tbl ∧ Cond.instanceMethod (sv_y q.2.2) ∈ lw_tbl ∧ (sv_y q.2.2).name ≠ "<init>" ∧ q.2.2 < 234 := by
  intro q hq
  have e : lk_u = ([(0, 9, 23), (3, 13, 3), (3, 9, 2), (4, 13, 7)] : List (Nat × Nat × Nat)) := rfl
  rw [e] at hq
  exact lk_u_0 q hq
def lk_w : List (Nat × Nat × Nat) := [(4, 17, 27), (4, 9, 23)]
set_option maxRecDepth 100000 in
theorem lk_w_0 : ∀ q ∈ ([(4, 17, 27), (4, 9, 23)] : List (Nat × Nat × Nat)), q.1 = 4 ∧ Cond.methodLink (sv_cn 4) q.2.1 ⟨sv_cn 1, (sv_y q.2.2).name, (sv_y q.2.2).desc⟩ ∈ lw_tbl ∧ Cond.sameMethod (sv_cn 1) (sv_cn 5) (sv_y q.2.2).name (sv_y q.2.2).desc ∈ lw_tbl ∧ Cond.superclass (sv_cn 4) (sv_cn 1) ∈ lw_tbl ∧ Cond.superclass (sv_cn 1) (sv_cn 5) ∈ lw_tbl ∧ Cond.instanceMethod (sv_y q.2.2) ∈ lw_tbl ∧ (sv_y q.2.2).name ≠ "<init>" ∧ (sv_y q.2.2).cls = sv_cn 5 ∧ q.2.2 < 234 := List.forall_mem_cons.mpr ⟨⟨rfl, tb_2 (List.mem_of_getElem? (i := 166) rfl), tb_2 (List.mem_of_getElem? (i := 167) rfl), tb_1 (List.mem_of_getElem? (i := 64) rfl), tb_1 (List.mem_of_getElem? (i := 43) rfl), tb_2 (List.mem_of_getElem? (i := 152) rfl), by decide +kernel, rfl, by decide⟩, List.forall_mem_cons.mpr ⟨⟨rfl, tb_2 (List.mem_of_getElem? (i := 94) rfl), tb_2 (List.mem_of_getElem? (i := 95) rfl), tb_1 (List.mem_of_getElem? (i := 64) rfl), tb_1 (List.mem_of_getElem? (i := 43) rfl), tb_2 (List.mem_of_getElem? (i := 79) rfl), by decide +kernel, rfl, by decide⟩, fun _ h => absurd h List.not_mem_nil⟩⟩
theorem lk_w_ok : ∀ q ∈ lk_w, q.1 = 4 ∧ Cond.methodLink (sv_cn 4) q.2.1 ⟨sv_cn 1, (sv_y q.2.2).name, (sv_y q.2.2).desc⟩ ∈ lw_tbl ∧ Cond.sameMethod (sv_cn 1) (sv_cn 5) (sv_y q.2.2).name (sv_y q.2.2).desc ∈ lw_tbl ∧ Cond.superclass (sv_cn 4) (sv_cn 1) ∈ lw_tbl ∧ Cond.superclass (sv_cn 1) (sv_cn 5) ∈ lw_tbl ∧ Cond.instanceMethod (sv_y q.2.2) ∈ lw_tbl ∧ (sv_y q.2.2).name ≠ "<init>" ∧ (sv_y q.2.2).cls = sv_cn 5 ∧ q.2.2 < 234 := by
  intro q hq
  have e : lk_w = ([(4, 17, 27), (4, 9, 23)] : List (Nat × Nat × Nat)) := rfl
  rw [e] at hq
  exact lk_w_0 q hq
def lk_o : List (Nat × Nat) := [(10, 3), (11, 1), (2, 3), (5, 1), (7, 3), (8, 3), (9, 3)]
set_option maxRecDepth 100000 in
theorem lk_o_0 : ∀ q ∈ ([(10, 3), (11, 1), (2, 3), (5, 1), (7, 3), (8, 3), (9, 3)] : List (Nat × Nat)), Cond.methodLink (sv_cn q.1) q.2 objectInit ∈ lw_tbl := List.forall_mem_cons.mpr ⟨tb_1 (List.mem_of_getElem? (i := 26) rfl), List.forall_mem_cons.mpr ⟨tb_4 (List.mem_of_getElem? (i := 74) rfl), List.forall_mem_cons.mpr ⟨tb_1 (List.mem_of_getElem? (i := 187) rfl), List.forall_mem_cons.mpr ⟨tb_1 (List.mem_of_getElem? (i := 35) rfl), List.forall_mem_cons.mpr ⟨tb_1 (List.mem_of_getElem? (i := 167) rfl), List.forall_mem_cons.mpr ⟨tb_1 (List.mem_of_getElem? (i := 77) rfl), List.forall_mem_cons.mpr ⟨tb_1 (List.mem_of_getElem? (i := 140) rfl), fun _ h => absurd h List.not_mem_nil⟩⟩⟩⟩⟩⟩⟩
theorem lk_o_ok : ∀ q ∈ lk_o, Cond.methodLink (sv_cn q.1) q.2 objectInit ∈ lw_tbl := by
  intro q hq
  have e : lk_o = ([(10, 3), (11, 1), (2, 3), (5, 1), (7, 3), (8, 3), (9, 3)] : List (Nat × Nat)) := rfl
  rw [e] at hq
  exact lk_o_0 q hq
def lk_y : List (Nat × Nat) := [(10, 248), (8, 59)]
set_option maxRecDepth 100000 in
theorem lk_y_0 : ∀ q ∈ ([(10, 248), (8, 59)] : List (Nat × Nat)), Cond.methodLink (sv_cn q.1) q.2 arraycopyName ∈ lw_tbl := List.forall_mem_cons.mpr ⟨tb_4 (List.mem_of_getElem? (i := 23) rfl), List.forall_mem_cons.mpr ⟨tb_3 (List.mem_of_getElem? (i := 16) rfl), fun _ h => absurd h List.not_mem_nil⟩⟩
theorem lk_y_ok : ∀ q ∈ lk_y, Cond.methodLink (sv_cn q.1) q.2 arraycopyName ∈ lw_tbl := by
  intro q hq
  have e : lk_y = ([(10, 248), (8, 59)] : List (Nat × Nat)) := rfl
  rw [e] at hq
  exact lk_y_0 q hq
def lk_m : List (Nat × Nat) := [(8, 105), (9, 108)]
set_option maxRecDepth 100000 in
theorem lk_m_0 : ∀ q ∈ ([(8, 105), (9, 108)] : List (Nat × Nat)), Cond.methodLink (sv_cn q.1) q.2 Lib.Math.min.name ∈ lw_tbl := List.forall_mem_cons.mpr ⟨tb_2 (List.mem_of_getElem? (i := 215) rfl), List.forall_mem_cons.mpr ⟨tb_3 (List.mem_of_getElem? (i := 125) rfl), fun _ h => absurd h List.not_mem_nil⟩⟩
theorem lk_m_ok : ∀ q ∈ lk_m, Cond.methodLink (sv_cn q.1) q.2 Lib.Math.min.name ∈ lw_tbl := by
  intro q hq
  have e : lk_m = ([(8, 105), (9, 108)] : List (Nat × Nat)) := rfl
  rw [e] at hq
  exact lk_m_0 q hq
def lk_t : List (Nat × Nat × Nat) := [(9, 87, 500), (9, 92, 501)]
set_option maxRecDepth 100000 in
theorem lk_t_0 : ∀ q ∈ ([(9, 87, 500), (9, 92, 501)] : List (Nat × Nat × Nat)), Cond.methodLink (sv_cn q.1) q.2.1 (sv_y q.2.2) ∈ lw_tbl ∧ (q.2.2 = 500 ∨ q.2.2 = 501) := List.forall_mem_cons.mpr ⟨⟨tb_3 (List.mem_of_getElem? (i := 131) rfl), by decide⟩, List.forall_mem_cons.mpr ⟨⟨tb_3 (List.mem_of_getElem? (i := 141) rfl), by decide⟩, fun _ h => absurd h List.not_mem_nil⟩⟩
theorem lk_t_ok : ∀ q ∈ lk_t, Cond.methodLink (sv_cn q.1) q.2.1 (sv_y q.2.2) ∈ lw_tbl ∧ (q.2.2 = 500 ∨ q.2.2 = 501) := by
  intro q hq
  have e : lk_t = ([(9, 87, 500), (9, 92, 501)] : List (Nat × Nat × Nat)) := rfl
  rw [e] at hq
  exact lk_t_0 q hq
theorem lk_x1 : Cond.instanceMethod objectInit ∈ lw_tbl := tb_1 (List.mem_of_getElem? (i := 27) rfl)
theorem lk_x2 : Cond.code objectInit ⟨#[0xb1]⟩ 1 none ∈ lw_tbl := tb_1 (List.mem_of_getElem? (i := 28) rfl)
theorem lk_x3 : Cond.native arraycopyName ∈ lw_tbl ∧ Cond.static arraycopyName ∈ lw_tbl ∧ Cond.initialized "java/lang/System" ∈ lw_tbl := ⟨tb_3 (List.mem_of_getElem? (i := 18) rfl), tb_3 (List.mem_of_getElem? (i := 17) rfl), tb_1 (List.mem_of_getElem? (i := 15) rfl)⟩
theorem lk_x5 : Cond.static Lib.Math.min.name ∈ lw_tbl ∧ Cond.initialized "java/lang/Math" ∈ lw_tbl ∧ Cond.code Lib.Math.min.name Lib.Math.min.code 2 (some .int) ∈ lw_tbl := ⟨tb_2 (List.mem_of_getElem? (i := 216) rfl), tb_1 (List.mem_of_getElem? (i := 14) rfl), tb_2 (List.mem_of_getElem? (i := 217) rfl)⟩
theorem lk_x4 : Cond.arrayClass .int ∈ lw_tbl ∧ Cond.arrayClass .long ∈ lw_tbl := ⟨tb_1 (List.mem_of_getElem? (i := 134) rfl), tb_1 (List.mem_of_getElem? (i := 181) rfl)⟩
