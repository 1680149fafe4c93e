/-! DATA OF THE METHODS, printed by program (wip/whole/gen2.py) -/
def gR : Nat → String := fun y => match y with
  | 0 => RX0
  | 1 => RX1
  | 2 => RX2
  | 3 => RX3
  | 4 => RX4
  | 5 => RX5
  | 6 => RX6
  | 7 => RX7
  | 8 => RX8
  | 9 => RX9
  | 10 => RX10
  | 11 => RX11
  | _ => "java/lang/Math"
def gN : Nat → MethodName := fun y => match y with
  | 0 => yX0_init
  | 1 => yX0_insert
  | 2 => yX0_delete
  | 3 => yX0_serverAt
  | 4 => yX0_handleAt
  | 5 => yX0_mayMake
  | 6 => yX0_firstMaker
  | 7 => yX1_init
  | 8 => yX1_begin
  | 9 => yX1_put
  | 10 => yX1_byteAt
  | 11 => yX1_byteOrLength
  | 12 => yX1_number
  | 13 => yX2_init
  | 14 => yX2_indexOf
  | 15 => yX2_placeAt
  | 16 => yX2_addPlace
  | 17 => yX2_dropPlace
  | 18 => yX2_members
  | 19 => yX3_init
  | 20 => yX3_begin
  | 21 => yX3_serverNow
  | 22 => yX3_handleNow
  | 23 => yX3_goOn
  | 24 => yX4_init
  | 25 => yX4_readFrom
  | 26 => yX4_push
  | 27 => yX4_name
  | 28 => yX5_init
  | 29 => yX6_init
  | 30 => yX6_begin
  | 31 => yX6_end
  | 32 => yX6_leastFree
  | 33 => yX6_openFiles
  | 34 => yX7_init
  | 35 => yX7_newHandle
  | 36 => yX7_handlesInUse
  | 37 => yX7_attach
  | 38 => yX7_walkSame
  | 39 => yX7_walkName
  | 40 => yX7_openFile
  | 41 => yX7_makeFile
  | 42 => yX7_tellByte
  | 43 => yX7_putByte
  | 44 => yX7_clunk
  | 45 => yX7_dropFile
  | 46 => yX7_tellFile
  | 47 => yX7_ask
  | 48 => yX7_agree
  | 49 => yX7_describe
  | 50 => yX7_refuse
  | 51 => yX7_fileOf
  | 52 => yX7_stand
  | 53 => yX7_fileIn
  | 54 => yX7_letterIn
  | 55 => yX7_forget
  | 56 => yX8_init
  | 57 => yX8_append
  | 58 => yX8_character
  | 59 => yX8_copyFrom
  | 60 => yX9_init
  | 61 => yX9_byteAtPlace
  | 62 => yX10_init
  | 63 => yX10_type
  | 64 => yX10_keep
  | 65 => yX10_open
  | 66 => yX10_create
  | 67 => yX10_read
  | 68 => yX10_write
  | 69 => yX10_close
  | 70 => yX10_remove
  | 71 => yX10_stat
  | 72 => yX10_bind
  | 73 => yX10_mount
  | 74 => yX10_unmount
  | 75 => yX10_fork
  | 76 => yX10_exit
  | 77 => yX10_wire
  | 78 => yX10_server
  | 79 => yX10_process
  | 80 => yX10_isServer
  | 81 => yX10_isHow
  | 82 => yX10_isBeginning
  | 83 => yX10_to
  | 84 => yX10_processOf
  | 85 => yX10_openedFile
  | 86 => yX10_rowFor
  | 87 => yX10_takePaths
  | 88 => yX10_refuseWalk
  | 89 => yX10_refuseOpening
  | 90 => yX10_refuseMaking
  | 91 => yX10_walkOrRefuse
  | 92 => yX10_walkNames
  | 93 => yX10_standing
  | 94 => yX10_walkFirst
  | 95 => yX10_letGo
  | 96 => yX10_clunkAll
  | 97 => yX10_ownHandle
  | 98 => yX10_takeHandles
  | 99 => yX10_copyHandles
  | 100 => yX10_openHandles
  | 101 => yX10_makeFile
  | 102 => yX10_closeFile
  | 103 => yX10_join
  | 104 => yX10_refuseJoining
  | 105 => yX10_newMembers
  | 106 => yX10_oldMembers
  | 107 => yX10_leastAbsent
  | 108 => yX10_processes
  | 109 => yX10_unusedSpace
  | 110 => yX10_copySpace
  | 111 => yX10_emptySpace
  | 112 => yX11_init
  | 113 => yX11_thrown
  | 114 => yX11_outside
  | 115 => yX11_number
  | 116 => yX11_back
  | 117 => yX11_ask
  | 118 => yX11_wrong
  | 119 => yX11_tell
  | 120 => yX11_sent
  | 121 => yX11_fileOf
  | 122 => yX11_fresh
  | 123 => yX11_attach
  | 124 => yX11_inside
  | 125 => yX11_walkOne
  | 126 => yX11_openOne
  | 127 => yX11_files
  | 128 => yX11_createOne
  | 129 => yX11_listed
  | 130 => yX11_readOne
  | 131 => yX11_writeOne
  | 132 => yX11_clunk
  | 133 => yX11_removeOne
  | 134 => yX11_statOne
  | 135 => yX11_type
  | 136 => yX11_keep
  | 137 => yX11_charAt
  | 138 => yX11_parsed
  | 139 => yX11_forget
  | 140 => yX11_placeOf
  | 141 => yX11_walk
  | 142 => yX11_isDirectory
  | 143 => yX11_own
  | 144 => yX11_isProcess
  | 145 => yX11_isOpen
  | 146 => yX11_opened
  | 147 => yX11_freeFile
  | 148 => yX11_addOpen
  | 149 => yX11_code
  | 150 => yX11_opening
  | 151 => yX11_open
  | 152 => yX11_creating
  | 153 => yX11_create
  | 154 => yX11_read
  | 155 => yX11_write
  | 156 => yX11_closing
  | 157 => yX11_close
  | 158 => yX11_remove
  | 159 => yX11_stat
  | 160 => yX11_isHow
  | 161 => yX11_putMember
  | 162 => yX11_clunkMembers
  | 163 => yX11_bound
  | 164 => yX11_bind
  | 165 => yX11_mount
  | 166 => yX11_dropPlace
  | 167 => yX11_unmount
  | 168 => yX11_users
  | 169 => yX11_processes
  | 170 => yX11_fork
  | 171 => yX11_exit
  | 172 => yX11_wire
  | 173 => yX11_server
  | 174 => yX11_process
  | 175 => Lib.Math.max.name
  | 176 => Lib.Math.min.name
  | _ => yX0_init
def gB : Nat → ByteArray := fun y => match y with
  | 0 => cX0_init
  | 1 => cX0_insert
  | 2 => cX0_delete
  | 3 => cX0_serverAt
  | 4 => cX0_handleAt
  | 5 => cX0_mayMake
  | 6 => cX0_firstMaker
  | 7 => cX1_init
  | 8 => cX1_begin
  | 9 => cX1_put
  | 10 => cX1_byteAt
  | 11 => cX1_byteOrLength
  | 12 => cX1_number
  | 13 => cX2_init
  | 14 => cX2_indexOf
  | 15 => cX2_placeAt
  | 16 => cX2_addPlace
  | 17 => cX2_dropPlace
  | 18 => cX2_members
  | 19 => cX3_init
  | 20 => cX3_begin
  | 21 => cX3_serverNow
  | 22 => cX3_handleNow
  | 23 => cX3_goOn
  | 24 => cX4_init
  | 25 => cX4_readFrom
  | 26 => cX4_push
  | 27 => cX4_name
  | 28 => cX5_init
  | 29 => cX6_init
  | 30 => cX6_begin
  | 31 => cX6_end
  | 32 => cX6_leastFree
  | 33 => cX6_openFiles
  | 34 => cX7_init
  | 35 => cX7_newHandle
  | 36 => cX7_handlesInUse
  | 37 => cX7_attach
  | 38 => cX7_walkSame
  | 39 => cX7_walkName
  | 40 => cX7_openFile
  | 41 => cX7_makeFile
  | 42 => cX7_tellByte
  | 43 => cX7_putByte
  | 44 => cX7_clunk
  | 45 => cX7_dropFile
  | 46 => cX7_tellFile
  | 47 => cX7_ask
  | 48 => cX7_agree
  | 49 => cX7_describe
  | 50 => cX7_refuse
  | 51 => cX7_fileOf
  | 52 => cX7_stand
  | 53 => cX7_fileIn
  | 54 => cX7_letterIn
  | 55 => cX7_forget
  | 56 => cX8_init
  | 57 => cX8_append
  | 58 => cX8_character
  | 59 => cX8_copyFrom
  | 60 => cX9_init
  | 61 => cX9_byteAtPlace
  | 62 => cX10_init
  | 63 => cX10_type
  | 64 => cX10_keep
  | 65 => cX10_open
  | 66 => cX10_create
  | 67 => cX10_read
  | 68 => cX10_write
  | 69 => cX10_close
  | 70 => cX10_remove
  | 71 => cX10_stat
  | 72 => cX10_bind
  | 73 => cX10_mount
  | 74 => cX10_unmount
  | 75 => cX10_fork
  | 76 => cX10_exit
  | 77 => cX10_wire
  | 78 => cX10_server
  | 79 => cX10_process
  | 80 => cX10_isServer
  | 81 => cX10_isHow
  | 82 => cX10_isBeginning
  | 83 => cX10_to
  | 84 => cX10_processOf
  | 85 => cX10_openedFile
  | 86 => cX10_rowFor
  | 87 => cX10_takePaths
  | 88 => cX10_refuseWalk
  | 89 => cX10_refuseOpening
  | 90 => cX10_refuseMaking
  | 91 => cX10_walkOrRefuse
  | 92 => cX10_walkNames
  | 93 => cX10_standing
  | 94 => cX10_walkFirst
  | 95 => cX10_letGo
  | 96 => cX10_clunkAll
  | 97 => cX10_ownHandle
  | 98 => cX10_takeHandles
  | 99 => cX10_copyHandles
  | 100 => cX10_openHandles
  | 101 => cX10_makeFile
  | 102 => cX10_closeFile
  | 103 => cX10_join
  | 104 => cX10_refuseJoining
  | 105 => cX10_newMembers
  | 106 => cX10_oldMembers
  | 107 => cX10_leastAbsent
  | 108 => cX10_processes
  | 109 => cX10_unusedSpace
  | 110 => cX10_copySpace
  | 111 => cX10_emptySpace
  | 112 => cX11_init
  | 113 => cX11_thrown
  | 114 => cX11_outside
  | 115 => cX11_number
  | 116 => cX11_back
  | 117 => cX11_ask
  | 118 => cX11_wrong
  | 119 => cX11_tell
  | 120 => cX11_sent
  | 121 => cX11_fileOf
  | 122 => cX11_fresh
  | 123 => cX11_attach
  | 124 => cX11_inside
  | 125 => cX11_walkOne
  | 126 => cX11_openOne
  | 127 => cX11_files
  | 128 => cX11_createOne
  | 129 => cX11_listed
  | 130 => cX11_readOne
  | 131 => cX11_writeOne
  | 132 => cX11_clunk
  | 133 => cX11_removeOne
  | 134 => cX11_statOne
  | 135 => cX11_type
  | 136 => cX11_keep
  | 137 => cX11_charAt
  | 138 => cX11_parsed
  | 139 => cX11_forget
  | 140 => cX11_placeOf
  | 141 => cX11_walk
  | 142 => cX11_isDirectory
  | 143 => cX11_own
  | 144 => cX11_isProcess
  | 145 => cX11_isOpen
  | 146 => cX11_opened
  | 147 => cX11_freeFile
  | 148 => cX11_addOpen
  | 149 => cX11_code
  | 150 => cX11_opening
  | 151 => cX11_open
  | 152 => cX11_creating
  | 153 => cX11_create
  | 154 => cX11_read
  | 155 => cX11_write
  | 156 => cX11_closing
  | 157 => cX11_close
  | 158 => cX11_remove
  | 159 => cX11_stat
  | 160 => cX11_isHow
  | 161 => cX11_putMember
  | 162 => cX11_clunkMembers
  | 163 => cX11_bound
  | 164 => cX11_bind
  | 165 => cX11_mount
  | 166 => cX11_dropPlace
  | 167 => cX11_unmount
  | 168 => cX11_users
  | 169 => cX11_processes
  | 170 => cX11_fork
  | 171 => cX11_exit
  | 172 => cX11_wire
  | 173 => cX11_server
  | 174 => cX11_process
  | 175 => Lib.Math.max.code
  | 176 => Lib.Math.min.code
  | _ => cX0_init
def gRt : Nat → Option FieldType := fun y => match y with
  | 0 => none
  | 1 => none
  | 2 => none
  | 3 => (some .int)
  | 4 => (some .int)
  | 5 => (some .boolean)
  | 6 => (some .int)
  | 7 => none
  | 8 => none
  | 9 => none
  | 10 => (some .int)
  | 11 => (some .int)
  | 12 => (some .int)
  | 13 => none
  | 14 => (some .int)
  | 15 => (some (.object "NameSpaces$Place"))
  | 16 => (some (.object "NameSpaces$Handles"))
  | 17 => none
  | 18 => (some .int)
  | 19 => none
  | 20 => none
  | 21 => (some .int)
  | 22 => (some .int)
  | 23 => (some .boolean)
  | 24 => none
  | 25 => none
  | 26 => none
  | 27 => (some .char)
  | 28 => none
  | 29 => none
  | 30 => none
  | 31 => none
  | 32 => (some .int)
  | 33 => (some .int)
  | 34 => none
  | 35 => (some .int)
  | 36 => (some .int)
  | 37 => none
  | 38 => (some .int)
  | 39 => (some .char)
  | 40 => (some .char)
  | 41 => (some .char)
  | 42 => (some .char)
  | 43 => (some .char)
  | 44 => none
  | 45 => (some .char)
  | 46 => (some .char)
  | 47 => none
  | 48 => (some .char)
  | 49 => (some .char)
  | 50 => (some .char)
  | 51 => (some (.object "NameSpaces$TreeFile"))
  | 52 => none
  | 53 => (some (.object "NameSpaces$TreeFile"))
  | 54 => (some .int)
  | 55 => none
  | 56 => none
  | 57 => (some .boolean)
  | 58 => (some .char)
  | 59 => none
  | 60 => none
  | 61 => (some .int)
  | 62 => none
  | 63 => (some .int)
  | 64 => (some .int)
  | 65 => (some .int)
  | 66 => (some .int)
  | 67 => (some .int)
  | 68 => (some .int)
  | 69 => (some .int)
  | 70 => (some .int)
  | 71 => (some .int)
  | 72 => (some .int)
  | 73 => (some .int)
  | 74 => (some .int)
  | 75 => (some .int)
  | 76 => (some .int)
  | 77 => (some .int)
  | 78 => (some .int)
  | 79 => (some .int)
  | 80 => (some .boolean)
  | 81 => (some .boolean)
  | 82 => (some .boolean)
  | 83 => (some (.object "NameSpaces$Server"))
  | 84 => (some (.object "NameSpaces$Proc"))
  | 85 => (some (.object "NameSpaces$OpenFile"))
  | 86 => (some (.object "NameSpaces$OpenFile"))
  | 87 => (some (.object "NameSpaces$Proc"))
  | 88 => none
  | 89 => none
  | 90 => none
  | 91 => none
  | 92 => (some .char)
  | 93 => (some (.object "NameSpaces$Handles"))
  | 94 => (some .char)
  | 95 => none
  | 96 => none
  | 97 => (some .int)
  | 98 => none
  | 99 => none
  | 100 => (some .char)
  | 101 => none
  | 102 => none
  | 103 => (some .int)
  | 104 => none
  | 105 => (some (.object "NameSpaces$Handles"))
  | 106 => (some (.object "NameSpaces$Handles"))
  | 107 => (some .int)
  | 108 => (some .int)
  | 109 => (some (.object "NameSpaces$NameSpace"))
  | 110 => none
  | 111 => none
  | 112 => none
  | 113 => (some .int)
  | 114 => (some .boolean)
  | 115 => none
  | 116 => none
  | 117 => none
  | 118 => none
  | 119 => none
  | 120 => none
  | 121 => (some .int)
  | 122 => (some .int)
  | 123 => none
  | 124 => (some .int)
  | 125 => none
  | 126 => none
  | 127 => (some .int)
  | 128 => none
  | 129 => (some .int)
  | 130 => none
  | 131 => none
  | 132 => none
  | 133 => none
  | 134 => none
  | 135 => (some .int)
  | 136 => (some .int)
  | 137 => (some .int)
  | 138 => (some .boolean)
  | 139 => none
  | 140 => (some .int)
  | 141 => (some .int)
  | 142 => (some .boolean)
  | 143 => none
  | 144 => (some .boolean)
  | 145 => (some .boolean)
  | 146 => (some .int)
  | 147 => (some .int)
  | 148 => none
  | 149 => (some .int)
  | 150 => (some .int)
  | 151 => (some .int)
  | 152 => (some .int)
  | 153 => (some .int)
  | 154 => (some .int)
  | 155 => (some .int)
  | 156 => none
  | 157 => (some .int)
  | 158 => (some .int)
  | 159 => (some .int)
  | 160 => (some .boolean)
  | 161 => none
  | 162 => none
  | 163 => (some .int)
  | 164 => (some .int)
  | 165 => (some .int)
  | 166 => none
  | 167 => (some .int)
  | 168 => (some .int)
  | 169 => (some .int)
  | 170 => (some .int)
  | 171 => (some .int)
  | 172 => (some .int)
  | 173 => (some .int)
  | 174 => (some .int)
  | 175 => (some .int)
  | 176 => (some .int)
  | _ => none
def gCn : Nat → Nat := fun y => match y with
  | 0 => 0
  | 1 => 0
  | 2 => 0
  | 3 => 0
  | 4 => 0
  | 5 => 0
  | 6 => 0
  | 7 => 1
  | 8 => 1
  | 9 => 1
  | 10 => 1
  | 11 => 1
  | 12 => 1
  | 13 => 2
  | 14 => 2
  | 15 => 2
  | 16 => 2
  | 17 => 2
  | 18 => 2
  | 19 => 3
  | 20 => 3
  | 21 => 3
  | 22 => 3
  | 23 => 3
  | 24 => 4
  | 25 => 4
  | 26 => 4
  | 27 => 4
  | 28 => 5
  | 29 => 6
  | 30 => 6
  | 31 => 6
  | 32 => 6
  | 33 => 6
  | 34 => 7
  | 35 => 7
  | 36 => 7
  | 37 => 7
  | 38 => 7
  | 39 => 7
  | 40 => 7
  | 41 => 7
  | 42 => 7
  | 43 => 7
  | 44 => 7
  | 45 => 7
  | 46 => 7
  | 47 => 7
  | 48 => 7
  | 49 => 7
  | 50 => 7
  | 51 => 7
  | 52 => 7
  | 53 => 7
  | 54 => 7
  | 55 => 7
  | 56 => 8
  | 57 => 8
  | 58 => 8
  | 59 => 8
  | 60 => 9
  | 61 => 9
  | 62 => 10
  | 63 => 10
  | 64 => 10
  | 65 => 10
  | 66 => 10
  | 67 => 10
  | 68 => 10
  | 69 => 10
  | 70 => 10
  | 71 => 10
  | 72 => 10
  | 73 => 10
  | 74 => 10
  | 75 => 10
  | 76 => 10
  | 77 => 10
  | 78 => 10
  | 79 => 10
  | 80 => 10
  | 81 => 10
  | 82 => 10
  | 83 => 10
  | 84 => 10
  | 85 => 10
  | 86 => 10
  | 87 => 10
  | 88 => 10
  | 89 => 10
  | 90 => 10
  | 91 => 10
  | 92 => 10
  | 93 => 10
  | 94 => 10
  | 95 => 10
  | 96 => 10
  | 97 => 10
  | 98 => 10
  | 99 => 10
  | 100 => 10
  | 101 => 10
  | 102 => 10
  | 103 => 10
  | 104 => 10
  | 105 => 10
  | 106 => 10
  | 107 => 10
  | 108 => 10
  | 109 => 10
  | 110 => 10
  | 111 => 10
  | 112 => 11
  | 113 => 11
  | 114 => 11
  | 115 => 11
  | 116 => 11
  | 117 => 11
  | 118 => 11
  | 119 => 11
  | 120 => 11
  | 121 => 11
  | 122 => 11
  | 123 => 11
  | 124 => 11
  | 125 => 11
  | 126 => 11
  | 127 => 11
  | 128 => 11
  | 129 => 11
  | 130 => 11
  | 131 => 11
  | 132 => 11
  | 133 => 11
  | 134 => 11
  | 135 => 11
  | 136 => 11
  | 137 => 11
  | 138 => 11
  | 139 => 11
  | 140 => 11
  | 141 => 11
  | 142 => 11
  | 143 => 11
  | 144 => 11
  | 145 => 11
  | 146 => 11
  | 147 => 11
  | 148 => 11
  | 149 => 11
  | 150 => 11
  | 151 => 11
  | 152 => 11
  | 153 => 11
  | 154 => 11
  | 155 => 11
  | 156 => 11
  | 157 => 11
  | 158 => 11
  | 159 => 11
  | 160 => 11
  | 161 => 11
  | 162 => 11
  | 163 => 11
  | 164 => 11
  | 165 => 11
  | 166 => 11
  | 167 => 11
  | 168 => 11
  | 169 => 11
  | 170 => 11
  | 171 => 11
  | 172 => 11
  | 173 => 11
  | 174 => 11
  | 175 => 12
  | 176 => 12
  | _ => 0
def gF : Nat → Nat := fun y => match y with
  | 0 => 1
  | 1 => 0
  | 2 => 0
  | 3 => 0
  | 4 => 0
  | 5 => 0
  | 6 => 0
  | 7 => 1
  | 8 => 0
  | 9 => 0
  | 10 => 0
  | 11 => 1
  | 12 => 1
  | 13 => 3
  | 14 => 0
  | 15 => 0
  | 16 => 1
  | 17 => 0
  | 18 => 0
  | 19 => 2
  | 20 => 0
  | 21 => 1
  | 22 => 1
  | 23 => 0
  | 24 => 1
  | 25 => 1
  | 26 => 0
  | 27 => 0
  | 28 => 2
  | 29 => 3
  | 30 => 0
  | 31 => 0
  | 32 => 0
  | 33 => 0
  | 34 => 3
  | 35 => 0
  | 36 => 0
  | 37 => 2
  | 38 => 2
  | 39 => 2
  | 40 => 2
  | 41 => 2
  | 42 => 2
  | 43 => 2
  | 44 => 2
  | 45 => 2
  | 46 => 2
  | 47 => 1
  | 48 => 1
  | 49 => 1
  | 50 => 1
  | 51 => 0
  | 52 => 0
  | 53 => 0
  | 54 => 0
  | 55 => 0
  | 56 => 1
  | 57 => 0
  | 58 => 0
  | 59 => 1
  | 60 => 1
  | 61 => 0
  | 62 => 4
  | 63 => 6
  | 64 => 2
  | 65 => 8
  | 66 => 8
  | 67 => 8
  | 68 => 8
  | 69 => 8
  | 70 => 8
  | 71 => 8
  | 72 => 8
  | 73 => 8
  | 74 => 8
  | 75 => 7
  | 76 => 7
  | 77 => 2
  | 78 => 1
  | 79 => 1
  | 80 => 0
  | 81 => 0
  | 82 => 0
  | 83 => 0
  | 84 => 6
  | 85 => 7
  | 86 => 6
  | 87 => 7
  | 88 => 6
  | 89 => 6
  | 90 => 6
  | 91 => 7
  | 92 => 4
  | 93 => 1
  | 94 => 3
  | 95 => 3
  | 96 => 3
  | 97 => 3
  | 98 => 4
  | 99 => 3
  | 100 => 4
  | 101 => 7
  | 102 => 4
  | 103 => 7
  | 104 => 6
  | 105 => 4
  | 106 => 4
  | 107 => 0
  | 108 => 0
  | 109 => 0
  | 110 => 4
  | 111 => 4
  | 112 => 3
  | 113 => 0
  | 114 => 0
  | 115 => 0
  | 116 => 0
  | 117 => 1
  | 118 => 1
  | 119 => 1
  | 120 => 0
  | 121 => 0
  | 122 => 0
  | 123 => 2
  | 124 => 0
  | 125 => 2
  | 126 => 2
  | 127 => 0
  | 128 => 2
  | 129 => 0
  | 130 => 2
  | 131 => 2
  | 132 => 2
  | 133 => 2
  | 134 => 2
  | 135 => 0
  | 136 => 0
  | 137 => 0
  | 138 => 1
  | 139 => 0
  | 140 => 0
  | 141 => 3
  | 142 => 1
  | 143 => 3
  | 144 => 0
  | 145 => 1
  | 146 => 0
  | 147 => 0
  | 148 => 0
  | 149 => 0
  | 150 => 4
  | 151 => 5
  | 152 => 4
  | 153 => 5
  | 154 => 3
  | 155 => 3
  | 156 => 3
  | 157 => 4
  | 158 => 4
  | 159 => 4
  | 160 => 0
  | 161 => 0
  | 162 => 3
  | 163 => 4
  | 164 => 5
  | 165 => 5
  | 166 => 0
  | 167 => 4
  | 168 => 0
  | 169 => 0
  | 170 => 3
  | 171 => 4
  | 172 => 1
  | 173 => 1
  | 174 => 1
  | 175 => 0
  | 176 => 0
  | _ => 0
def gLo : Nat → Nat := fun y => match y with
  | 0 => 12
  | 1 => 0
  | 2 => 0
  | 3 => 0
  | 4 => 0
  | 5 => 0
  | 6 => 0
  | 7 => 12
  | 8 => 0
  | 9 => 0
  | 10 => 0
  | 11 => 21
  | 12 => 21
  | 13 => 52
  | 14 => 0
  | 15 => 0
  | 16 => 21
  | 17 => 0
  | 18 => 0
  | 19 => 32
  | 20 => 0
  | 21 => 21
  | 22 => 21
  | 23 => 0
  | 24 => 12
  | 25 => 21
  | 26 => 0
  | 27 => 0
  | 28 => 32
  | 29 => 52
  | 30 => 0
  | 31 => 0
  | 32 => 0
  | 33 => 0
  | 34 => 66
  | 35 => 0
  | 36 => 0
  | 37 => 45
  | 38 => 45
  | 39 => 45
  | 40 => 45
  | 41 => 45
  | 42 => 45
  | 43 => 45
  | 44 => 45
  | 45 => 45
  | 46 => 45
  | 47 => 23
  | 48 => 21
  | 49 => 23
  | 50 => 23
  | 51 => 0
  | 52 => 0
  | 53 => 0
  | 54 => 0
  | 55 => 0
  | 56 => 12
  | 57 => 0
  | 58 => 0
  | 59 => 18
  | 60 => 12
  | 61 => 0
  | 62 => 86
  | 63 => 82
  | 64 => 39
  | 65 => 148
  | 66 => 148
  | 67 => 126
  | 68 => 126
  | 69 => 126
  | 70 => 148
  | 71 => 148
  | 72 => 153
  | 73 => 153
  | 74 => 148
  | 75 => 115
  | 76 => 111
  | 77 => 42
  | 78 => 22
  | 79 => 22
  | 80 => 0
  | 81 => 0
  | 82 => 0
  | 83 => 0
  | 84 => 82
  | 85 => 103
  | 86 => 82
  | 87 => 103
  | 88 => 82
  | 89 => 82
  | 90 => 82
  | 91 => 124
  | 92 => 97
  | 93 => 25
  | 94 => 70
  | 95 => 66
  | 96 => 66
  | 97 => 67
  | 98 => 91
  | 99 => 67
  | 100 => 88
  | 101 => 102
  | 102 => 88
  | 103 => 124
  | 104 => 82
  | 105 => 88
  | 106 => 88
  | 107 => 0
  | 108 => 0
  | 109 => 0
  | 110 => 91
  | 111 => 88
  | 112 => 68
  | 113 => 0
  | 114 => 0
  | 115 => 0
  | 116 => 0
  | 117 => 23
  | 118 => 23
  | 119 => 23
  | 120 => 0
  | 121 => 0
  | 122 => 0
  | 123 => 46
  | 124 => 0
  | 125 => 46
  | 126 => 46
  | 127 => 0
  | 128 => 46
  | 129 => 0
  | 130 => 46
  | 131 => 46
  | 132 => 46
  | 133 => 46
  | 134 => 46
  | 135 => 0
  | 136 => 0
  | 137 => 0
  | 138 => 23
  | 139 => 0
  | 140 => 0
  | 141 => 71
  | 142 => 22
  | 143 => 71
  | 144 => 0
  | 145 => 21
  | 146 => 0
  | 147 => 0
  | 148 => 0
  | 149 => 0
  | 150 => 100
  | 151 => 132
  | 152 => 100
  | 153 => 129
  | 154 => 70
  | 155 => 71
  | 156 => 68
  | 157 => 90
  | 158 => 100
  | 159 => 100
  | 160 => 0
  | 161 => 0
  | 162 => 68
  | 163 => 100
  | 164 => 128
  | 165 => 128
  | 166 => 0
  | 167 => 100
  | 168 => 0
  | 169 => 0
  | 170 => 71
  | 171 => 90
  | 172 => 22
  | 173 => 23
  | 174 => 23
  | 175 => 0
  | 176 => 0
  | _ => 0
def gTT : Nat → u_T := fun y => match y with
  | 0 => TX0
  | 1 => TX1
  | 2 => TX2
  | 3 => TX3
  | 4 => TX4
  | 5 => TX5
  | 6 => TX6
  | 7 => TX7
  | 8 => TX8
  | 9 => TX9
  | 10 => TX10
  | 11 => TX11
  | _ => TX0
def gTy : Nat → Nat → FieldType := fun y => match y with
  | 0 => tyX0
  | 1 => tyX1
  | 2 => tyX2
  | 3 => tyX3
  | 4 => tyX4
  | 5 => tyX5
  | 6 => tyX6
  | 7 => tyX7
  | 8 => tyX8
  | 9 => tyX9
  | 10 => tyX10
  | 11 => tyX11
  | _ => tyX0
def gNf : Nat → Nat := fun y => match y with
  | 0 => 4
  | 1 => 3
  | 2 => 3
  | 3 => 6
  | 4 => 3
  | 5 => 3
  | 6 => 2
  | 7 => 6
  | 8 => 2
  | 9 => 8
  | 10 => 13
  | 11 => 42
  | _ => 0
def gE : Nat → String := fun y => match y with
  | 0 => "java/lang/IllegalArgumentException"
  | 1 => "java/lang/IllegalStateException"
  | 2 => "java/util/NoSuchElementException"
  | 3 => "java/lang/UnsupportedOperationException"
  | _ => "java/lang/IllegalArgumentException"
def gY : Nat := 177
def gw : List Cond := lw_tbl.filter goodWord
theorem gmem {α : Type} (f : α → Cond) (xs : List α) (is : List Nat) (e : xs.map f = is.filterMap (fun i => lw_tbl[i]?)) (g : (xs.map f).all goodWord = true) : ∀ q ∈ xs, f q ∈ gw := by
  intro q hq
  have h1 : f q ∈ xs.map f := List.mem_map.mpr ⟨q, hq, rfl⟩
  have h2 := List.all_eq_true.mp g _ h1
  rw [e] at h1
  obtain ⟨i, -, hi⟩ := List.mem_filterMap.mp h1
  exact List.mem_filter.mpr ⟨List.mem_of_getElem? hi, h2⟩
theorem gmem0 {α : Type} (f : α → Cond) (xs : List α) (is : List Nat) (e : xs.map f = is.filterMap (fun i => lw_tbl[i]?)) : ∀ q ∈ xs, f q ∈ lw_tbl := by
  intro q hq
  have h1 : f q ∈ xs.map f := List.mem_map.mpr ⟨q, hq, rfl⟩
  rw [e] at h1
  obtain ⟨i, -, hi⟩ := List.mem_filterMap.mp h1
  exact List.mem_of_getElem? hi
def gFL : List (Nat × Nat × Nat × Nat) := [(0, 9, 0, 0), (0, 15, 0, 1), (0, 18, 0, 2), (0, 22, 0, 3), (1, 9, 1, 0), (1, 15, 1, 2), (1, 19, 1, 1), (2, 11, 2, 0), (2, 18, 2, 1), (2, 22, 5, 1), (2, 25, 5, 2), (2, 34, 5, 0), (2, 38, 0, 3), (3, 10, 3, 0), (3, 16, 3, 1), (3, 20, 3, 3), (3, 24, 3, 4), (3, 27, 3, 5), (3, 37, 0, 3), (4, 9, 4, 0), (4, 15, 4, 1), (4, 19, 8, 1), (4, 24, 4, 2), (5, 10, 5, 0), (6, 11, 6, 0), (6, 18, 6, 1), (6, 22, 2, 2), (6, 28, 3, 1), (7, 12, 7, 0), (7, 18, 7, 1), (7, 23, 7, 2), (7, 27, 7, 3), (7, 30, 7, 4), (7, 34, 7, 5), (7, 71, 9, 7), (7, 79, 9, 3), (7, 86, 9, 0), (7, 97, 9, 4), (7, 101, 9, 5), (7, 110, 9, 6), (7, 119, 9, 1), (7, 122, 9, 2), (8, 9, 8, 0), (8, 15, 8, 1), (9, 9, 9, 0), (9, 15, 9, 1), (9, 18, 9, 2), (9, 22, 9, 3), (9, 26, 9, 4), (9, 30, 9, 5), (10, 10, 10, 0), (10, 18, 10, 1), (10, 24, 10, 2), (10, 31, 10, 3), (10, 35, 10, 4), (10, 41, 10, 5), (10, 45, 10, 6), (10, 51, 10, 7), (10, 57, 6, 1), (10, 61, 2, 2), (10, 76, 8, 1), (10, 87, 4, 2), (10, 104, 4, 1), (10, 115, 3, 0), (10, 124, 0, 3), (10, 148, 3, 3), (10, 163, 3, 5), (10, 170, 7, 1), (10, 184, 3, 2), (10, 215, 10, 9), (10, 218, 10, 10), (10, 227, 10, 11), (10, 243, 10, 12), (10, 276, 5, 0), (10, 288, 2, 1), (10, 307, 6, 0), (10, 311, 3, 1), (10, 323, 10, 8), (10, 326, 7, 0), (10, 332, 1, 2), (10, 338, 7, 4), (10, 341, 7, 5), (10, 453, 5, 1), (10, 456, 5, 2), (11, 7, 11, 1), (11, 13, 11, 3), (11, 16, 11, 5), (11, 20, 11, 6), (11, 23, 11, 7), (11, 27, 11, 8), (11, 30, 11, 9), (11, 33, 11, 10), (11, 36, 11, 11), (11, 39, 11, 12), (11, 42, 11, 13), (11, 45, 11, 14), (11, 48, 11, 15), (11, 51, 11, 16), (11, 54, 11, 18), (11, 57, 11, 22), (11, 60, 11, 23), (11, 63, 11, 24), (11, 66, 11, 25), (11, 69, 11, 26), (11, 72, 11, 27), (11, 75, 11, 28), (11, 78, 11, 29), (11, 81, 11, 30), (11, 84, 11, 31), (11, 87, 11, 32), (11, 90, 11, 33), (11, 93, 11, 34), (11, 96, 11, 35), (11, 99, 11, 36), (11, 102, 11, 37), (11, 109, 11, 41), (11, 113, 11, 17), (11, 116, 11, 19), (11, 122, 11, 20), (11, 143, 11, 40), (11, 160, 11, 21), (11, 166, 11, 0), (11, 169, 11, 2), (11, 172, 11, 4), (11, 183, 11, 38), (11, 186, 11, 39)]
def gFw : Nat × Nat × Nat × Nat → Cond := fun q => .fieldLink (gR q.1) q.2.1 (gTT q.2.2.1 q.2.2.2).1 (gTT q.2.2.1 q.2.2.2).2.1 (gTT q.2.2.1 q.2.2.2).2.2.1
def gFLi : List Nat := [251, 252, 253, 254, 110, 112, 111, 296, 297, 285, 287, 283, 255, 322, 324, 328, 330, 331, 257, 233, 234, 219, 236, 282, 346, 349, 300, 325, 184, 186, 188, 189, 190, 192, 142, 136, 130, 138, 140, 141, 132, 134, 217, 218, 129, 131, 133, 135, 137, 139, 355, 356, 357, 358, 359, 360, 361, 362, 348, 299, 220, 237, 235, 323, 256, 329, 332, 187, 327, 364, 365, 366, 367, 284, 298, 347, 326, 363, 185, 113, 191, 193, 286, 288, 997, 999, 1001, 1002, 1003, 1004, 1005, 1006, 1007, 1008, 1009, 1010, 1011, 1012, 1014, 1018, 1019, 1020, 1021, 1022, 1023, 1024, 1025, 1026, 1027, 1028, 1029, 1030, 1031, 1032, 1033, 1037, 1013, 1015, 1016, 1036, 1017, 996, 998, 1000, 1034, 1035]
set_option maxRecDepth 100000 in
set_option maxHeartbeats 4000000 in
theorem gFL_ok : ∀ q ∈ gFL, gFw q ∈ gw := gmem gFw gFL gFLi (by decide +kernel) (by decide +kernel)
def gML : List (Nat × Nat × Nat) := [(1, 22, 10), (2, 28, 176), (3, 30, 3), (3, 34, 4), (4, 28, 58), (4, 32, 26), (4, 36, 175), (7, 37, 60), (7, 40, 37), (7, 44, 47), (7, 48, 52), (7, 52, 49), (7, 56, 35), (7, 60, 9), (7, 63, 51), (7, 67, 48), (7, 75, 50), (7, 82, 53), (7, 89, 54), (7, 93, 61), (7, 104, 175), (7, 113, 55), (7, 116, 8), (10, 9, 34), (10, 55, 13), (10, 56, 29), (10, 65, 57), (10, 79, 59), (10, 83, 87), (10, 96, 32), (10, 100, 86), (10, 107, 91), (10, 111, 98), (10, 120, 100), (10, 125, 89), (10, 129, 20), (10, 140, 101), (10, 144, 85), (10, 153, 21), (10, 156, 83), (10, 160, 22), (10, 166, 42), (10, 174, 10), (10, 180, 23), (10, 196, 43), (10, 202, 12), (10, 205, 84), (10, 208, 102), (10, 212, 33), (10, 221, 45), (10, 230, 46), (10, 233, 95), (10, 237, 81), (10, 248, 97), (10, 251, 103), (10, 255, 80), (10, 260, 35), (10, 263, 37), (10, 266, 14), (10, 270, 15), (10, 281, 96), (10, 285, 17), (10, 289, 107), (10, 292, 109), (10, 298, 110), (10, 302, 30), (10, 314, 31), (10, 317, 111), (10, 320, 108), (10, 329, 11), (10, 335, 36), (10, 344, 18), (10, 352, 25), (10, 367, 92), (10, 371, 88), (10, 374, 93), (10, 378, 27), (10, 381, 94), (10, 385, 1), (10, 389, 3), (10, 392, 4), (10, 395, 39), (10, 399, 82), (10, 403, 44), (10, 406, 38), (10, 409, 99), (10, 413, 5), (10, 416, 40), (10, 419, 2), (10, 422, 6), (10, 427, 41), (10, 430, 90), (10, 433, 104), (10, 437, 105), (10, 441, 106), (10, 449, 16), (11, 105, 123), (11, 119, 115), (11, 125, 116), (11, 128, 117), (11, 132, 119), (11, 136, 120), (11, 139, 122), (11, 146, 121), (11, 150, 118), (11, 153, 124), (11, 157, 127), (11, 163, 129), (11, 175, 137), (11, 179, 114), (11, 189, 140), (11, 192, 125), (11, 195, 132), (11, 198, 144), (11, 202, 141), (11, 205, 143), (11, 208, 148), (11, 211, 126), (11, 214, 138), (11, 218, 139), (11, 221, 147), (11, 224, 150), (11, 227, 149), (11, 231, 128), (11, 235, 152), (11, 239, 145), (11, 243, 130), (11, 246, 131), (11, 250, 156), (11, 253, 146), (11, 256, 133), (11, 259, 134), (11, 262, 142), (11, 266, 162), (11, 269, 161), (11, 273, 160), (11, 276, 163), (11, 279, 166), (11, 282, 169), (11, 286, 168)]
def gMw : Nat × Nat × Nat → Cond := fun q => .methodLink (gR q.1) q.2.1 (gN q.2.2)
def gMLi : List Nat := [414, 894, 786, 791, 560, 564, 568, 125, 160, 164, 176, 180, 711, 172, 632, 660, 636, 640, 796, 800, 821, 849, 168, 100, 269, 309, 449, 399, 532, 572, 576, 580, 699, 720, 732, 737, 750, 776, 782, 616, 787, 792, 648, 804, 817, 644, 536, 830, 433, 845, 861, 649, 872, 703, 877, 422, 620, 909, 592, 596, 834, 918, 929, 933, 938, 942, 954, 958, 962, 410, 425, 437, 556, 584, 664, 588, 604, 608, 600, 612, 624, 628, 653, 656, 707, 712, 716, 724, 728, 754, 759, 763, 881, 886, 897, 890, 972, 980, 984, 976, 988, 992, 1178, 1182, 1186, 1190, 1226, 1242, 1147, 1151, 1170, 1174, 1194, 1139, 1166, 1198, 1202, 1206, 1143, 1154, 1158, 1162, 1210, 1222, 1218, 1234, 1238, 1250, 1258, 1262, 1270, 1278, 1282, 1297, 1301, 1290, 1293, 1313, 1321, 1325]
set_option maxRecDepth 100000 in
set_option maxHeartbeats 4000000 in
theorem gML_ok : ∀ q ∈ gML, gMw q ∈ gw := gmem gMw gML gMLi (by decide +kernel) (by decide +kernel)
def gMN : List (Nat × Nat × Nat) := [(2, 17, 28), (3, 9, 0), (5, 9, 0), (6, 17, 19), (7, 11, 7), (10, 30, 56), (10, 40, 24), (10, 50, 0)]
def gMNw : Nat × Nat × Nat → Cond := fun q => .methodLinkNest (gR q.1) q.2.1 (gN q.2.2) "NameSpaces"
def gMNi : List Nat := [276, 321, 281, 316, 106, 213, 229, 247]
set_option maxRecDepth 100000 in
set_option maxHeartbeats 4000000 in
theorem gMN_ok : ∀ q ∈ gMN, gMNw q ∈ lw_tbl := gmem0 gMNw gMN gMNi (by decide +kernel)
def gCL : List (Nat × Nat × Nat) := [(2, 9, 5), (3, 7, 0), (5, 7, 0), (6, 9, 3), (7, 9, 1), (7, 21, 9), (10, 7, 7), (10, 16, 2), (10, 22, 6), (10, 28, 8), (10, 38, 4), (10, 48, 0)]
def gCLw : Nat × Nat × Nat → Cond := fun q => .classLink (gR q.1) q.2.1 (gR q.2.2)
def gCLi : List Nat := [273, 320, 280, 313, 104, 122, 97, 207, 209, 211, 227, 245]
set_option maxRecDepth 100000 in
set_option maxHeartbeats 4000000 in
theorem gCL_ok : ∀ q ∈ gCL, gCLw q ∈ gw := gmem gCLw gCL gCLi (by decide +kernel) (by decide +kernel)
def gOI : List (Nat × Nat) := [(0, 3), (1, 3), (2, 3), (3, 1), (4, 3), (5, 1), (6, 3), (7, 3), (8, 3), (9, 3), (10, 1), (11, 1)]
def gOIw : Nat × Nat → Cond := fun q => .methodLink (gR q.1) q.2 Lib.objectInit
def gOIi : List Nat := [250, 109, 272, 319, 232, 279, 312, 103, 216, 128, 94, 971]
set_option maxRecDepth 100000 in
set_option maxHeartbeats 4000000 in
theorem gOI_ok : ∀ q ∈ gOI, gOIw q ∈ gw := gmem gOIw gOI gOIi (by decide +kernel) (by decide +kernel)
def gYs : List Nat := List.range 177
def gCw : Nat → Cond := fun y => .code (gN y) (gB y) (gT y).1 (gRt y)
set_option maxRecDepth 100000 in
set_option maxHeartbeats 4000000 in
theorem gcw0 : gCw 0 ∈ lw_tbl := List.mem_append_right _ (List.mem_append_left _ (List.mem_of_getElem? (i := 182) rfl))
set_option maxRecDepth 100000 in
set_option maxHeartbeats 4000000 in
theorem gcw1 : gCw 1 ∈ lw_tbl := List.mem_append_right _ (List.mem_append_right _ (List.mem_append_right _ (List.mem_append_left _ (List.mem_of_getElem? (i := 56) rfl))))
set_option maxRecDepth 100000 in
set_option maxHeartbeats 4000000 in
theorem gcw2 : gCw 2 ∈ lw_tbl := List.mem_append_right _ (List.mem_append_right _ (List.mem_append_right _ (List.mem_append_left _ (List.mem_of_getElem? (i := 184) rfl))))
set_option maxRecDepth 100000 in
set_option maxHeartbeats 4000000 in
theorem gcw3 : gCw 3 ∈ lw_tbl := List.mem_append_right _ (List.mem_append_right _ (List.mem_append_right _ (List.mem_append_left _ (List.mem_of_getElem? (i := 68) rfl))))
set_option maxRecDepth 100000 in
set_option maxHeartbeats 4000000 in
theorem gcw4 : gCw 4 ∈ lw_tbl := List.mem_append_right _ (List.mem_append_right _ (List.mem_append_right _ (List.mem_append_left _ (List.mem_of_getElem? (i := 80) rfl))))
set_option maxRecDepth 100000 in
set_option maxHeartbeats 4000000 in
theorem gcw5 : gCw 5 ∈ lw_tbl := List.mem_append_right _ (List.mem_append_right _ (List.mem_append_right _ (List.mem_append_left _ (List.mem_of_getElem? (i := 172) rfl))))
set_option maxRecDepth 100000 in
set_option maxHeartbeats 4000000 in
theorem gcw6 : gCw 6 ∈ lw_tbl := List.mem_append_right _ (List.mem_append_right _ (List.mem_append_right _ (List.mem_append_left _ (List.mem_of_getElem? (i := 210) rfl))))
set_option maxRecDepth 100000 in
set_option maxHeartbeats 4000000 in
theorem gcw7 : gCw 7 ∈ lw_tbl := List.mem_append_right _ (List.mem_append_left _ (List.mem_of_getElem? (i := 41) rfl))
set_option maxRecDepth 100000 in
set_option maxHeartbeats 4000000 in
theorem gcw8 : gCw 8 ∈ lw_tbl := List.mem_append_right _ (List.mem_append_left _ (List.mem_of_getElem? (i := 104) rfl))
set_option maxRecDepth 100000 in
set_option maxHeartbeats 4000000 in
theorem gcw9 : gCw 9 ∈ lw_tbl := List.mem_append_right _ (List.mem_append_left _ (List.mem_of_getElem? (i := 108) rfl))
set_option maxRecDepth 100000 in
set_option maxHeartbeats 4000000 in
theorem gcw10 : gCw 10 ∈ lw_tbl := List.mem_append_right _ (List.mem_append_right _ (List.mem_append_left _ (List.mem_of_getElem? (i := 110) rfl)))
set_option maxRecDepth 100000 in
set_option maxHeartbeats 4000000 in
theorem gcw11 : gCw 11 ∈ lw_tbl := List.mem_append_right _ (List.mem_append_right _ (List.mem_append_left _ (List.mem_of_getElem? (i := 106) rfl)))
set_option maxRecDepth 100000 in
set_option maxHeartbeats 4000000 in
theorem gcw12 : gCw 12 ∈ lw_tbl := List.mem_append_right _ (List.mem_append_right _ (List.mem_append_right _ (List.mem_append_left _ (List.mem_of_getElem? (i := 100) rfl))))
set_option maxRecDepth 100000 in
set_option maxHeartbeats 4000000 in
theorem gcw13 : gCw 13 ∈ lw_tbl := List.mem_append_right _ (List.mem_append_left _ (List.mem_of_getElem? (i := 204) rfl))
set_option maxRecDepth 100000 in
set_option maxHeartbeats 4000000 in
theorem gcw14 : gCw 14 ∈ lw_tbl := List.mem_append_right _ (List.mem_append_right _ (List.mem_append_right _ (List.mem_append_left _ (List.mem_of_getElem? (i := 48) rfl))))
set_option maxRecDepth 100000 in
set_option maxHeartbeats 4000000 in
theorem gcw15 : gCw 15 ∈ lw_tbl := List.mem_append_right _ (List.mem_append_right _ (List.mem_append_right _ (List.mem_append_left _ (List.mem_of_getElem? (i := 52) rfl))))
set_option maxRecDepth 100000 in
set_option maxHeartbeats 4000000 in
theorem gcw16 : gCw 16 ∈ lw_tbl := List.mem_append_right _ (List.mem_append_right _ (List.mem_append_right _ (List.mem_append_right _ (List.mem_append_left _ (List.mem_of_getElem? (i := 106) rfl)))))
set_option maxRecDepth 100000 in
set_option maxHeartbeats 4000000 in
theorem gcw17 : gCw 17 ∈ lw_tbl := List.mem_append_right _ (List.mem_append_right _ (List.mem_append_right _ (List.mem_append_right _ (List.mem_append_left _ (List.mem_of_getElem? (i := 134) rfl)))))
set_option maxRecDepth 100000 in
set_option maxHeartbeats 4000000 in
theorem gcw18 : gCw 18 ∈ lw_tbl := List.mem_append_right _ (List.mem_append_right _ (List.mem_append_left _ (List.mem_of_getElem? (i := 133) rfl)))
set_option maxRecDepth 100000 in
set_option maxHeartbeats 4000000 in
theorem gcw19 : gCw 19 ∈ lw_tbl := List.mem_append_right _ (List.mem_append_right _ (List.mem_append_left _ (List.mem_of_getElem? (i := 11) rfl)))
set_option maxRecDepth 100000 in
set_option maxHeartbeats 4000000 in
theorem gcw20 : gCw 20 ∈ lw_tbl := List.mem_append_right _ (List.mem_append_right _ (List.mem_append_right _ (List.mem_append_left _ (List.mem_of_getElem? (i := 193) rfl))))
set_option maxRecDepth 100000 in
set_option maxHeartbeats 4000000 in
theorem gcw21 : gCw 21 ∈ lw_tbl := List.mem_append_right _ (List.mem_append_right _ (List.mem_append_right _ (List.mem_append_left _ (List.mem_of_getElem? (i := 238) rfl))))
set_option maxRecDepth 100000 in
set_option maxHeartbeats 4000000 in
theorem gcw22 : gCw 22 ∈ lw_tbl := List.mem_append_right _ (List.mem_append_right _ (List.mem_append_right _ (List.mem_append_right _ (List.mem_append_left _ (List.mem_of_getElem? (i := 3) rfl)))))
set_option maxRecDepth 100000 in
set_option maxHeartbeats 4000000 in
theorem gcw23 : gCw 23 ∈ lw_tbl := List.mem_append_right _ (List.mem_append_right _ (List.mem_append_right _ (List.mem_append_right _ (List.mem_append_left _ (List.mem_of_getElem? (i := 20) rfl)))))
set_option maxRecDepth 100000 in
set_option maxHeartbeats 4000000 in
theorem gcw24 : gCw 24 ∈ lw_tbl := List.mem_append_right _ (List.mem_append_left _ (List.mem_of_getElem? (i := 164) rfl))
set_option maxRecDepth 100000 in
set_option maxHeartbeats 4000000 in
theorem gcw25 : gCw 25 ∈ lw_tbl := List.mem_append_right _ (List.mem_append_right _ (List.mem_append_right _ (List.mem_append_left _ (List.mem_of_getElem? (i := 12) rfl))))
set_option maxRecDepth 100000 in
set_option maxHeartbeats 4000000 in
theorem gcw26 : gCw 26 ∈ lw_tbl := List.mem_append_right _ (List.mem_append_right _ (List.mem_append_right _ (List.mem_append_left _ (List.mem_of_getElem? (i := 20) rfl))))
set_option maxRecDepth 100000 in
set_option maxHeartbeats 4000000 in
theorem gcw27 : gCw 27 ∈ lw_tbl := List.mem_append_right _ (List.mem_append_right _ (List.mem_append_right _ (List.mem_append_left _ (List.mem_of_getElem? (i := 60) rfl))))
set_option maxRecDepth 100000 in
set_option maxHeartbeats 4000000 in
theorem gcw28 : gCw 28 ∈ lw_tbl := List.mem_append_right _ (List.mem_append_left _ (List.mem_of_getElem? (i := 211) rfl))
set_option maxRecDepth 100000 in
set_option maxHeartbeats 4000000 in
theorem gcw29 : gCw 29 ∈ lw_tbl := List.mem_append_right _ (List.mem_append_right _ (List.mem_append_left _ (List.mem_of_getElem? (i := 4) rfl)))
set_option maxRecDepth 100000 in
set_option maxHeartbeats 4000000 in
theorem gcw30 : gCw 30 ∈ lw_tbl := List.mem_append_right _ (List.mem_append_right _ (List.mem_append_right _ (List.mem_append_right _ (List.mem_append_left _ (List.mem_of_getElem? (i := 158) rfl)))))
set_option maxRecDepth 100000 in
set_option maxHeartbeats 4000000 in
theorem gcw31 : gCw 31 ∈ lw_tbl := List.mem_append_right _ (List.mem_append_right _ (List.mem_append_right _ (List.mem_append_right _ (List.mem_append_left _ (List.mem_of_getElem? (i := 170) rfl)))))
set_option maxRecDepth 100000 in
set_option maxHeartbeats 4000000 in
theorem gcw32 : gCw 32 ∈ lw_tbl := List.mem_append_right _ (List.mem_append_right _ (List.mem_append_right _ (List.mem_append_left _ (List.mem_of_getElem? (i := 28) rfl))))
set_option maxRecDepth 100000 in
set_option maxHeartbeats 4000000 in
theorem gcw33 : gCw 33 ∈ lw_tbl := List.mem_append_right _ (List.mem_append_right _ (List.mem_append_left _ (List.mem_of_getElem? (i := 129) rfl)))
set_option maxRecDepth 100000 in
set_option maxHeartbeats 4000000 in
theorem gcw34 : gCw 34 ∈ lw_tbl := List.mem_append_right _ (List.mem_append_left _ (List.mem_of_getElem? (i := 35) rfl))
set_option maxRecDepth 100000 in
set_option maxHeartbeats 4000000 in
theorem gcw35 : gCw 35 ∈ lw_tbl := List.mem_append_right _ (List.mem_append_right _ (List.mem_append_right _ (List.mem_append_left _ (List.mem_of_getElem? (i := 76) rfl))))
set_option maxRecDepth 100000 in
set_option maxHeartbeats 4000000 in
theorem gcw36 : gCw 36 ∈ lw_tbl := List.mem_append_right _ (List.mem_append_right _ (List.mem_append_left _ (List.mem_of_getElem? (i := 121) rfl)))
set_option maxRecDepth 100000 in
set_option maxHeartbeats 4000000 in
theorem gcw37 : gCw 37 ∈ lw_tbl := List.mem_append_right _ (List.mem_append_left _ (List.mem_of_getElem? (i := 96) rfl))
set_option maxRecDepth 100000 in
set_option maxHeartbeats 4000000 in
theorem gcw38 : gCw 38 ∈ lw_tbl := List.mem_append_right _ (List.mem_append_right _ (List.mem_append_right _ (List.mem_append_left _ (List.mem_of_getElem? (i := 163) rfl))))
set_option maxRecDepth 100000 in
set_option maxHeartbeats 4000000 in
theorem gcw39 : gCw 39 ∈ lw_tbl := List.mem_append_right _ (List.mem_append_right _ (List.mem_append_right _ (List.mem_append_left _ (List.mem_of_getElem? (i := 84) rfl))))
set_option maxRecDepth 100000 in
set_option maxHeartbeats 4000000 in
theorem gcw40 : gCw 40 ∈ lw_tbl := List.mem_append_right _ (List.mem_append_right _ (List.mem_append_right _ (List.mem_append_left _ (List.mem_of_getElem? (i := 180) rfl))))
set_option maxRecDepth 100000 in
set_option maxHeartbeats 4000000 in
theorem gcw41 : gCw 41 ∈ lw_tbl := List.mem_append_right _ (List.mem_append_right _ (List.mem_append_right _ (List.mem_append_left _ (List.mem_of_getElem? (i := 215) rfl))))
set_option maxRecDepth 100000 in
set_option maxHeartbeats 4000000 in
theorem gcw42 : gCw 42 ∈ lw_tbl := List.mem_append_right _ (List.mem_append_right _ (List.mem_append_right _ (List.mem_append_right _ (List.mem_append_left _ (List.mem_of_getElem? (i := 8) rfl)))))
set_option maxRecDepth 100000 in
set_option maxHeartbeats 4000000 in
theorem gcw43 : gCw 43 ∈ lw_tbl := List.mem_append_right _ (List.mem_append_right _ (List.mem_append_right _ (List.mem_append_right _ (List.mem_append_left _ (List.mem_of_getElem? (i := 33) rfl)))))
set_option maxRecDepth 100000 in
set_option maxHeartbeats 4000000 in
theorem gcw44 : gCw 44 ∈ lw_tbl := List.mem_append_right _ (List.mem_append_right _ (List.mem_append_right _ (List.mem_append_left _ (List.mem_of_getElem? (i := 112) rfl))))
set_option maxRecDepth 100000 in
set_option maxHeartbeats 4000000 in
theorem gcw45 : gCw 45 ∈ lw_tbl := List.mem_append_right _ (List.mem_append_right _ (List.mem_append_right _ (List.mem_append_right _ (List.mem_append_left _ (List.mem_of_getElem? (i := 61) rfl)))))
set_option maxRecDepth 100000 in
set_option maxHeartbeats 4000000 in
theorem gcw46 : gCw 46 ∈ lw_tbl := List.mem_append_right _ (List.mem_append_right _ (List.mem_append_right _ (List.mem_append_right _ (List.mem_append_left _ (List.mem_of_getElem? (i := 77) rfl)))))
set_option maxRecDepth 100000 in
set_option maxHeartbeats 4000000 in
theorem gcw47 : gCw 47 ∈ lw_tbl := List.mem_append_right _ (List.mem_append_left _ (List.mem_of_getElem? (i := 100) rfl))
set_option maxRecDepth 100000 in
set_option maxHeartbeats 4000000 in
theorem gcw48 : gCw 48 ∈ lw_tbl := List.mem_append_right _ (List.mem_append_right _ (List.mem_append_right _ (List.mem_append_left _ (List.mem_of_getElem? (i := 116) rfl))))
set_option maxRecDepth 100000 in
set_option maxHeartbeats 4000000 in
theorem gcw49 : gCw 49 ∈ lw_tbl := List.mem_append_right _ (List.mem_append_left _ (List.mem_of_getElem? (i := 116) rfl))
set_option maxRecDepth 100000 in
set_option maxHeartbeats 4000000 in
theorem gcw50 : gCw 50 ∈ lw_tbl := List.mem_append_right _ (List.mem_append_right _ (List.mem_append_right _ (List.mem_append_left _ (List.mem_of_getElem? (i := 92) rfl))))
set_option maxRecDepth 100000 in
set_option maxHeartbeats 4000000 in
theorem gcw51 : gCw 51 ∈ lw_tbl := List.mem_append_right _ (List.mem_append_right _ (List.mem_append_right _ (List.mem_append_left _ (List.mem_of_getElem? (i := 88) rfl))))
set_option maxRecDepth 100000 in
set_option maxHeartbeats 4000000 in
theorem gcw52 : gCw 52 ∈ lw_tbl := List.mem_append_right _ (List.mem_append_left _ (List.mem_of_getElem? (i := 112) rfl))
set_option maxRecDepth 100000 in
set_option maxHeartbeats 4000000 in
theorem gcw53 : gCw 53 ∈ lw_tbl := List.mem_append_right _ (List.mem_append_right _ (List.mem_append_right _ (List.mem_append_left _ (List.mem_of_getElem? (i := 96) rfl))))
set_option maxRecDepth 100000 in
set_option maxHeartbeats 4000000 in
theorem gcw54 : gCw 54 ∈ lw_tbl := List.mem_append_right _ (List.mem_append_right _ (List.mem_append_right _ (List.mem_append_right _ (List.mem_append_left _ (List.mem_of_getElem? (i := 12) rfl)))))
set_option maxRecDepth 100000 in
set_option maxHeartbeats 4000000 in
theorem gcw55 : gCw 55 ∈ lw_tbl := List.mem_append_right _ (List.mem_append_right _ (List.mem_append_right _ (List.mem_append_right _ (List.mem_append_left _ (List.mem_of_getElem? (i := 65) rfl)))))
set_option maxRecDepth 100000 in
set_option maxHeartbeats 4000000 in
theorem gcw56 : gCw 56 ∈ lw_tbl := List.mem_append_right _ (List.mem_append_left _ (List.mem_of_getElem? (i := 148) rfl))
set_option maxRecDepth 100000 in
set_option maxHeartbeats 4000000 in
theorem gcw57 : gCw 57 ∈ lw_tbl := List.mem_append_right _ (List.mem_append_right _ (List.mem_append_left _ (List.mem_of_getElem? (i := 145) rfl)))
set_option maxRecDepth 100000 in
set_option maxHeartbeats 4000000 in
theorem gcw58 : gCw 58 ∈ lw_tbl := List.mem_append_right _ (List.mem_append_right _ (List.mem_append_right _ (List.mem_append_left _ (List.mem_of_getElem? (i := 16) rfl))))
set_option maxRecDepth 100000 in
set_option maxHeartbeats 4000000 in
theorem gcw59 : gCw 59 ∈ lw_tbl := List.mem_append_right _ (List.mem_append_right _ (List.mem_append_left _ (List.mem_of_getElem? (i := 95) rfl)))
set_option maxRecDepth 100000 in
set_option maxHeartbeats 4000000 in
theorem gcw60 : gCw 60 ∈ lw_tbl := List.mem_append_right _ (List.mem_append_left _ (List.mem_of_getElem? (i := 60) rfl))
set_option maxRecDepth 100000 in
set_option maxHeartbeats 4000000 in
theorem gcw61 : gCw 61 ∈ lw_tbl := List.mem_append_right _ (List.mem_append_right _ (List.mem_append_right _ (List.mem_append_right _ (List.mem_append_left _ (List.mem_of_getElem? (i := 16) rfl)))))
set_option maxRecDepth 100000 in
set_option maxHeartbeats 4000000 in
theorem gcw62 : gCw 62 ∈ lw_tbl := List.mem_append_right _ (List.mem_append_left _ (List.mem_of_getElem? (i := 26) rfl))
set_option maxRecDepth 100000 in
set_option maxHeartbeats 4000000 in
theorem gcw63 : gCw 63 ∈ lw_tbl := List.mem_append_right _ (List.mem_append_right _ (List.mem_append_left _ (List.mem_of_getElem? (i := 141) rfl)))
set_option maxRecDepth 100000 in
set_option maxHeartbeats 4000000 in
theorem gcw64 : gCw 64 ∈ lw_tbl := List.mem_append_right _ (List.mem_append_right _ (List.mem_append_left _ (List.mem_of_getElem? (i := 91) rfl)))
set_option maxRecDepth 100000 in
set_option maxHeartbeats 4000000 in
theorem gcw65 : gCw 65 ∈ lw_tbl := List.mem_append_right _ (List.mem_append_right _ (List.mem_append_left _ (List.mem_of_getElem? (i := 224) rfl)))
set_option maxRecDepth 100000 in
set_option maxHeartbeats 4000000 in
theorem gcw66 : gCw 66 ∈ lw_tbl := List.mem_append_right _ (List.mem_append_right _ (List.mem_append_right _ (List.mem_append_left _ (List.mem_of_getElem? (i := 200) rfl))))
set_option maxRecDepth 100000 in
set_option maxHeartbeats 4000000 in
theorem gcw67 : gCw 67 ∈ lw_tbl := List.mem_append_right _ (List.mem_append_right _ (List.mem_append_right _ (List.mem_append_left _ (List.mem_of_getElem? (i := 228) rfl))))
set_option maxRecDepth 100000 in
set_option maxHeartbeats 4000000 in
theorem gcw68 : gCw 68 ∈ lw_tbl := List.mem_append_right _ (List.mem_append_right _ (List.mem_append_right _ (List.mem_append_right _ (List.mem_append_left _ (List.mem_of_getElem? (i := 27) rfl)))))
set_option maxRecDepth 100000 in
set_option maxHeartbeats 4000000 in
theorem gcw69 : gCw 69 ∈ lw_tbl := List.mem_append_right _ (List.mem_append_right _ (List.mem_append_right _ (List.mem_append_right _ (List.mem_append_left _ (List.mem_of_getElem? (i := 42) rfl)))))
set_option maxRecDepth 100000 in
set_option maxHeartbeats 4000000 in
theorem gcw70 : gCw 70 ∈ lw_tbl := List.mem_append_right _ (List.mem_append_right _ (List.mem_append_right _ (List.mem_append_right _ (List.mem_append_left _ (List.mem_of_getElem? (i := 57) rfl)))))
set_option maxRecDepth 100000 in
set_option maxHeartbeats 4000000 in
theorem gcw71 : gCw 71 ∈ lw_tbl := List.mem_append_right _ (List.mem_append_right _ (List.mem_append_right _ (List.mem_append_right _ (List.mem_append_left _ (List.mem_of_getElem? (i := 73) rfl)))))
set_option maxRecDepth 100000 in
set_option maxHeartbeats 4000000 in
theorem gcw72 : gCw 72 ∈ lw_tbl := List.mem_append_right _ (List.mem_append_right _ (List.mem_append_right _ (List.mem_append_right _ (List.mem_append_left _ (List.mem_of_getElem? (i := 84) rfl)))))
set_option maxRecDepth 100000 in
set_option maxHeartbeats 4000000 in
theorem gcw73 : gCw 73 ∈ lw_tbl := List.mem_append_right _ (List.mem_append_right _ (List.mem_append_right _ (List.mem_append_right _ (List.mem_append_left _ (List.mem_of_getElem? (i := 120) rfl)))))
set_option maxRecDepth 100000 in
set_option maxHeartbeats 4000000 in
theorem gcw74 : gCw 74 ∈ lw_tbl := List.mem_append_right _ (List.mem_append_right _ (List.mem_append_right _ (List.mem_append_right _ (List.mem_append_left _ (List.mem_of_getElem? (i := 129) rfl)))))
set_option maxRecDepth 100000 in
set_option maxHeartbeats 4000000 in
theorem gcw75 : gCw 75 ∈ lw_tbl := List.mem_append_right _ (List.mem_append_right _ (List.mem_append_right _ (List.mem_append_right _ (List.mem_append_left _ (List.mem_of_getElem? (i := 141) rfl)))))
set_option maxRecDepth 100000 in
set_option maxHeartbeats 4000000 in
theorem gcw76 : gCw 76 ∈ lw_tbl := List.mem_append_right _ (List.mem_append_right _ (List.mem_append_right _ (List.mem_append_right _ (List.mem_append_left _ (List.mem_of_getElem? (i := 165) rfl)))))
set_option maxRecDepth 100000 in
set_option maxHeartbeats 4000000 in
theorem gcw77 : gCw 77 ∈ lw_tbl := List.mem_append_right _ (List.mem_append_right _ (List.mem_append_left _ (List.mem_of_getElem? (i := 102) rfl)))
set_option maxRecDepth 100000 in
set_option maxHeartbeats 4000000 in
theorem gcw78 : gCw 78 ∈ lw_tbl := List.mem_append_right _ (List.mem_append_right _ (List.mem_append_left _ (List.mem_of_getElem? (i := 114) rfl)))
set_option maxRecDepth 100000 in
set_option maxHeartbeats 4000000 in
theorem gcw79 : gCw 79 ∈ lw_tbl := List.mem_append_right _ (List.mem_append_right _ (List.mem_append_left _ (List.mem_of_getElem? (i := 125) rfl)))
set_option maxRecDepth 100000 in
set_option maxHeartbeats 4000000 in
theorem gcw80 : gCw 80 ∈ lw_tbl := List.mem_append_right _ (List.mem_append_right _ (List.mem_append_left _ (List.mem_of_getElem? (i := 117) rfl)))
set_option maxRecDepth 100000 in
set_option maxHeartbeats 4000000 in
theorem gcw81 : gCw 81 ∈ lw_tbl := List.mem_append_right _ (List.mem_append_right _ (List.mem_append_right _ (List.mem_append_right _ (List.mem_append_left _ (List.mem_of_getElem? (i := 87) rfl)))))
set_option maxRecDepth 100000 in
set_option maxHeartbeats 4000000 in
theorem gcw82 : gCw 82 ∈ lw_tbl := List.mem_append_right _ (List.mem_append_right _ (List.mem_append_right _ (List.mem_append_left _ (List.mem_of_getElem? (i := 108) rfl))))
set_option maxRecDepth 100000 in
set_option maxHeartbeats 4000000 in
theorem gcw83 : gCw 83 ∈ lw_tbl := List.mem_append_right _ (List.mem_append_right _ (List.mem_append_right _ (List.mem_append_left _ (List.mem_of_getElem? (i := 72) rfl))))
set_option maxRecDepth 100000 in
set_option maxHeartbeats 4000000 in
theorem gcw84 : gCw 84 ∈ lw_tbl := List.mem_append_right _ (List.mem_append_right _ (List.mem_append_left _ (List.mem_of_getElem? (i := 232) rfl)))
set_option maxRecDepth 100000 in
set_option maxHeartbeats 4000000 in
theorem gcw85 : gCw 85 ∈ lw_tbl := List.mem_append_right _ (List.mem_append_right _ (List.mem_append_right _ (List.mem_append_left _ (List.mem_of_getElem? (i := 232) rfl))))
set_option maxRecDepth 100000 in
set_option maxHeartbeats 4000000 in
theorem gcw86 : gCw 86 ∈ lw_tbl := List.mem_append_right _ (List.mem_append_right _ (List.mem_append_right _ (List.mem_append_left _ (List.mem_of_getElem? (i := 31) rfl))))
set_option maxRecDepth 100000 in
set_option maxHeartbeats 4000000 in
theorem gcw87 : gCw 87 ∈ lw_tbl := List.mem_append_right _ (List.mem_append_right _ (List.mem_append_left _ (List.mem_of_getElem? (i := 228) rfl)))
set_option maxRecDepth 100000 in
set_option maxHeartbeats 4000000 in
theorem gcw88 : gCw 88 ∈ lw_tbl := List.mem_append_right _ (List.mem_append_right _ (List.mem_append_right _ (List.mem_append_left _ (List.mem_of_getElem? (i := 119) rfl))))
set_option maxRecDepth 100000 in
set_option maxHeartbeats 4000000 in
theorem gcw89 : gCw 89 ∈ lw_tbl := List.mem_append_right _ (List.mem_append_right _ (List.mem_append_right _ (List.mem_append_left _ (List.mem_of_getElem? (i := 187) rfl))))
set_option maxRecDepth 100000 in
set_option maxHeartbeats 4000000 in
theorem gcw90 : gCw 90 ∈ lw_tbl := List.mem_append_right _ (List.mem_append_right _ (List.mem_append_right _ (List.mem_append_left _ (List.mem_of_getElem? (i := 218) rfl))))
set_option maxRecDepth 100000 in
set_option maxHeartbeats 4000000 in
theorem gcw91 : gCw 91 ∈ lw_tbl := List.mem_append_right _ (List.mem_append_right _ (List.mem_append_right _ (List.mem_append_left _ (List.mem_of_getElem? (i := 36) rfl))))
set_option maxRecDepth 100000 in
set_option maxHeartbeats 4000000 in
theorem gcw92 : gCw 92 ∈ lw_tbl := List.mem_append_right _ (List.mem_append_right _ (List.mem_append_right _ (List.mem_append_left _ (List.mem_of_getElem? (i := 40) rfl))))
set_option maxRecDepth 100000 in
set_option maxHeartbeats 4000000 in
theorem gcw93 : gCw 93 ∈ lw_tbl := List.mem_append_right _ (List.mem_append_right _ (List.mem_append_right _ (List.mem_append_left _ (List.mem_of_getElem? (i := 44) rfl))))
set_option maxRecDepth 100000 in
set_option maxHeartbeats 4000000 in
theorem gcw94 : gCw 94 ∈ lw_tbl := List.mem_append_right _ (List.mem_append_right _ (List.mem_append_right _ (List.mem_append_left _ (List.mem_of_getElem? (i := 64) rfl))))
set_option maxRecDepth 100000 in
set_option maxHeartbeats 4000000 in
theorem gcw95 : gCw 95 ∈ lw_tbl := List.mem_append_right _ (List.mem_append_right _ (List.mem_append_right _ (List.mem_append_left _ (List.mem_of_getElem? (i := 105) rfl))))
set_option maxRecDepth 100000 in
set_option maxHeartbeats 4000000 in
theorem gcw96 : gCw 96 ∈ lw_tbl := List.mem_append_right _ (List.mem_append_right _ (List.mem_append_right _ (List.mem_append_right _ (List.mem_append_left _ (List.mem_of_getElem? (i := 50) rfl)))))
set_option maxRecDepth 100000 in
set_option maxHeartbeats 4000000 in
theorem gcw97 : gCw 97 ∈ lw_tbl := List.mem_append_right _ (List.mem_append_right _ (List.mem_append_right _ (List.mem_append_left _ (List.mem_of_getElem? (i := 159) rfl))))
set_option maxRecDepth 100000 in
set_option maxHeartbeats 4000000 in
theorem gcw98 : gCw 98 ∈ lw_tbl := List.mem_append_right _ (List.mem_append_right _ (List.mem_append_right _ (List.mem_append_left _ (List.mem_of_getElem? (i := 155) rfl))))
set_option maxRecDepth 100000 in
set_option maxHeartbeats 4000000 in
theorem gcw99 : gCw 99 ∈ lw_tbl := List.mem_append_right _ (List.mem_append_right _ (List.mem_append_right _ (List.mem_append_left _ (List.mem_of_getElem? (i := 168) rfl))))
set_option maxRecDepth 100000 in
set_option maxHeartbeats 4000000 in
theorem gcw100 : gCw 100 ∈ lw_tbl := List.mem_append_right _ (List.mem_append_right _ (List.mem_append_right _ (List.mem_append_left _ (List.mem_of_getElem? (i := 176) rfl))))
set_option maxRecDepth 100000 in
set_option maxHeartbeats 4000000 in
theorem gcw101 : gCw 101 ∈ lw_tbl := List.mem_append_right _ (List.mem_append_right _ (List.mem_append_right _ (List.mem_append_left _ (List.mem_of_getElem? (i := 206) rfl))))
set_option maxRecDepth 100000 in
set_option maxHeartbeats 4000000 in
theorem gcw102 : gCw 102 ∈ lw_tbl := List.mem_append_right _ (List.mem_append_right _ (List.mem_append_right _ (List.mem_append_right _ (List.mem_append_left _ (List.mem_of_getElem? (i := 46) rfl)))))
set_option maxRecDepth 100000 in
set_option maxHeartbeats 4000000 in
theorem gcw103 : gCw 103 ∈ lw_tbl := List.mem_append_right _ (List.mem_append_right _ (List.mem_append_right _ (List.mem_append_right _ (List.mem_append_left _ (List.mem_of_getElem? (i := 93) rfl)))))
set_option maxRecDepth 100000 in
set_option maxHeartbeats 4000000 in
theorem gcw104 : gCw 104 ∈ lw_tbl := List.mem_append_right _ (List.mem_append_right _ (List.mem_append_right _ (List.mem_append_right _ (List.mem_append_left _ (List.mem_of_getElem? (i := 96) rfl)))))
set_option maxRecDepth 100000 in
set_option maxHeartbeats 4000000 in
theorem gcw105 : gCw 105 ∈ lw_tbl := List.mem_append_right _ (List.mem_append_right _ (List.mem_append_right _ (List.mem_append_right _ (List.mem_append_left _ (List.mem_of_getElem? (i := 102) rfl)))))
set_option maxRecDepth 100000 in
set_option maxHeartbeats 4000000 in
theorem gcw106 : gCw 106 ∈ lw_tbl := List.mem_append_right _ (List.mem_append_right _ (List.mem_append_right _ (List.mem_append_right _ (List.mem_append_left _ (List.mem_of_getElem? (i := 113) rfl)))))
set_option maxRecDepth 100000 in
set_option maxHeartbeats 4000000 in
theorem gcw107 : gCw 107 ∈ lw_tbl := List.mem_append_right _ (List.mem_append_right _ (List.mem_append_right _ (List.mem_append_right _ (List.mem_append_left _ (List.mem_of_getElem? (i := 145) rfl)))))
set_option maxRecDepth 100000 in
set_option maxHeartbeats 4000000 in
theorem gcw108 : gCw 108 ∈ lw_tbl := List.mem_append_right _ (List.mem_append_right _ (List.mem_append_right _ (List.mem_append_right _ (List.mem_append_left _ (List.mem_of_getElem? (i := 178) rfl)))))
set_option maxRecDepth 100000 in
set_option maxHeartbeats 4000000 in
theorem gcw109 : gCw 109 ∈ lw_tbl := List.mem_append_right _ (List.mem_append_right _ (List.mem_append_right _ (List.mem_append_right _ (List.mem_append_left _ (List.mem_of_getElem? (i := 149) rfl)))))
set_option maxRecDepth 100000 in
set_option maxHeartbeats 4000000 in
theorem gcw110 : gCw 110 ∈ lw_tbl := List.mem_append_right _ (List.mem_append_right _ (List.mem_append_right _ (List.mem_append_right _ (List.mem_append_left _ (List.mem_of_getElem? (i := 154) rfl)))))
set_option maxRecDepth 100000 in
set_option maxHeartbeats 4000000 in
theorem gcw111 : gCw 111 ∈ lw_tbl := List.mem_append_right _ (List.mem_append_right _ (List.mem_append_right _ (List.mem_append_right _ (List.mem_append_left _ (List.mem_of_getElem? (i := 174) rfl)))))
set_option maxRecDepth 100000 in
set_option maxHeartbeats 4000000 in
theorem gcw112 : gCw 112 ∈ lw_tbl := List.mem_append_right _ (List.mem_append_right _ (List.mem_append_right _ (List.mem_append_right _ (List.mem_append_left _ (List.mem_of_getElem? (i := 183) rfl)))))
set_option maxRecDepth 100000 in
set_option maxHeartbeats 4000000 in
theorem gcw113 : gCw 113 ∈ lw_tbl := List.mem_append_right _ (List.mem_append_right _ (List.mem_append_right _ (List.mem_append_right _ (List.mem_append_right _ (List.mem_append_left _ (List.mem_of_getElem? (i := 99) rfl))))))
set_option maxRecDepth 100000 in
set_option maxHeartbeats 4000000 in
theorem gcw114 : gCw 114 ∈ lw_tbl := List.mem_append_right _ (List.mem_append_right _ (List.mem_append_right _ (List.mem_append_right _ (List.mem_append_right _ (List.mem_append_left _ (List.mem_of_getElem? (i := 126) rfl))))))
set_option maxRecDepth 100000 in
set_option maxHeartbeats 4000000 in
theorem gcw115 : gCw 115 ∈ lw_tbl := List.mem_append_right _ (List.mem_append_right _ (List.mem_append_right _ (List.mem_append_right _ (List.mem_append_left _ (List.mem_of_getElem? (i := 196) rfl)))))
set_option maxRecDepth 100000 in
set_option maxHeartbeats 4000000 in
theorem gcw116 : gCw 116 ∈ lw_tbl := List.mem_append_right _ (List.mem_append_right _ (List.mem_append_right _ (List.mem_append_right _ (List.mem_append_left _ (List.mem_of_getElem? (i := 200) rfl)))))
set_option maxRecDepth 100000 in
set_option maxHeartbeats 4000000 in
theorem gcw117 : gCw 117 ∈ lw_tbl := List.mem_append_right _ (List.mem_append_right _ (List.mem_append_right _ (List.mem_append_right _ (List.mem_append_left _ (List.mem_of_getElem? (i := 192) rfl)))))
set_option maxRecDepth 100000 in
set_option maxHeartbeats 4000000 in
theorem gcw118 : gCw 118 ∈ lw_tbl := List.mem_append_right _ (List.mem_append_right _ (List.mem_append_right _ (List.mem_append_right _ (List.mem_append_right _ (List.mem_append_left _ (List.mem_of_getElem? (i := 162) rfl))))))
set_option maxRecDepth 100000 in
set_option maxHeartbeats 4000000 in
theorem gcw119 : gCw 119 ∈ lw_tbl := List.mem_append_right _ (List.mem_append_right _ (List.mem_append_right _ (List.mem_append_right _ (List.mem_append_left _ (List.mem_of_getElem? (i := 204) rfl)))))
set_option maxRecDepth 100000 in
set_option maxHeartbeats 4000000 in
theorem gcw120 : gCw 120 ∈ lw_tbl := List.mem_append_right _ (List.mem_append_right _ (List.mem_append_right _ (List.mem_append_right _ (List.mem_append_left _ (List.mem_of_getElem? (i := 208) rfl)))))
set_option maxRecDepth 100000 in
set_option maxHeartbeats 4000000 in
theorem gcw121 : gCw 121 ∈ lw_tbl := List.mem_append_right _ (List.mem_append_right _ (List.mem_append_right _ (List.mem_append_right _ (List.mem_append_right _ (List.mem_append_left _ (List.mem_of_getElem? (i := 158) rfl))))))
set_option maxRecDepth 100000 in
set_option maxHeartbeats 4000000 in
theorem gcw122 : gCw 122 ∈ lw_tbl := List.mem_append_right _ (List.mem_append_right _ (List.mem_append_right _ (List.mem_append_right _ (List.mem_append_right _ (List.mem_append_left _ (List.mem_of_getElem? (i := 154) rfl))))))
set_option maxRecDepth 100000 in
set_option maxHeartbeats 4000000 in
theorem gcw123 : gCw 123 ∈ lw_tbl := List.mem_append_right _ (List.mem_append_right _ (List.mem_append_right _ (List.mem_append_right _ (List.mem_append_left _ (List.mem_of_getElem? (i := 188) rfl)))))
set_option maxRecDepth 100000 in
set_option maxHeartbeats 4000000 in
theorem gcw124 : gCw 124 ∈ lw_tbl := List.mem_append_right _ (List.mem_append_right _ (List.mem_append_right _ (List.mem_append_right _ (List.mem_append_right _ (List.mem_append_left _ (List.mem_of_getElem? (i := 166) rfl))))))
set_option maxRecDepth 100000 in
set_option maxHeartbeats 4000000 in
theorem gcw125 : gCw 125 ∈ lw_tbl := List.mem_append_right _ (List.mem_append_right _ (List.mem_append_right _ (List.mem_append_right _ (List.mem_append_right _ (List.mem_append_left _ (List.mem_of_getElem? (i := 150) rfl))))))
set_option maxRecDepth 100000 in
set_option maxHeartbeats 4000000 in
theorem gcw126 : gCw 126 ∈ lw_tbl := List.mem_append_right _ (List.mem_append_right _ (List.mem_append_right _ (List.mem_append_right _ (List.mem_append_right _ (List.mem_append_left _ (List.mem_of_getElem? (i := 182) rfl))))))
set_option maxRecDepth 100000 in
set_option maxHeartbeats 4000000 in
theorem gcw127 : gCw 127 ∈ lw_tbl := List.mem_append_right _ (List.mem_append_right _ (List.mem_append_right _ (List.mem_append_right _ (List.mem_append_right _ (List.mem_append_left _ (List.mem_of_getElem? (i := 202) rfl))))))
set_option maxRecDepth 100000 in
set_option maxHeartbeats 4000000 in
theorem gcw128 : gCw 128 ∈ lw_tbl := List.mem_append_right _ (List.mem_append_right _ (List.mem_append_right _ (List.mem_append_right _ (List.mem_append_right _ (List.mem_append_left _ (List.mem_of_getElem? (i := 198) rfl))))))
set_option maxRecDepth 100000 in
set_option maxHeartbeats 4000000 in
theorem gcw129 : gCw 129 ∈ lw_tbl := List.mem_append_right _ (List.mem_append_right _ (List.mem_append_right _ (List.mem_append_right _ (List.mem_append_right _ (List.mem_append_left _ (List.mem_of_getElem? (i := 218) rfl))))))
set_option maxRecDepth 100000 in
set_option maxHeartbeats 4000000 in
theorem gcw130 : gCw 130 ∈ lw_tbl := List.mem_append_right _ (List.mem_append_right _ (List.mem_append_right _ (List.mem_append_right _ (List.mem_append_right _ (List.mem_append_left _ (List.mem_of_getElem? (i := 214) rfl))))))
set_option maxRecDepth 100000 in
set_option maxHeartbeats 4000000 in
theorem gcw131 : gCw 131 ∈ lw_tbl := List.mem_append_right _ (List.mem_append_right _ (List.mem_append_right _ (List.mem_append_right _ (List.mem_append_right _ (List.mem_append_left _ (List.mem_of_getElem? (i := 226) rfl))))))
set_option maxRecDepth 100000 in
set_option maxHeartbeats 4000000 in
theorem gcw132 : gCw 132 ∈ lw_tbl := List.mem_append_right _ (List.mem_append_right _ (List.mem_append_right _ (List.mem_append_right _ (List.mem_append_right _ (List.mem_append_left _ (List.mem_of_getElem? (i := 170) rfl))))))
set_option maxRecDepth 100000 in
set_option maxHeartbeats 4000000 in
theorem gcw133 : gCw 133 ∈ lw_tbl := List.mem_append_right _ (List.mem_append_right _ (List.mem_append_right _ (List.mem_append_right _ (List.mem_append_right _ (List.mem_append_right _ (List.mem_of_getElem? (i := 6) rfl))))))
set_option maxRecDepth 100000 in
set_option maxHeartbeats 4000000 in
theorem gcw134 : gCw 134 ∈ lw_tbl := List.mem_append_right _ (List.mem_append_right _ (List.mem_append_right _ (List.mem_append_right _ (List.mem_append_right _ (List.mem_append_right _ (List.mem_of_getElem? (i := 14) rfl))))))
set_option maxRecDepth 100000 in
set_option maxHeartbeats 4000000 in
theorem gcw135 : gCw 135 ∈ lw_tbl := List.mem_append_right _ (List.mem_append_right _ (List.mem_append_right _ (List.mem_append_right _ (List.mem_append_right _ (List.mem_append_left _ (List.mem_of_getElem? (i := 103) rfl))))))
set_option maxRecDepth 100000 in
set_option maxHeartbeats 4000000 in
theorem gcw136 : gCw 136 ∈ lw_tbl := List.mem_append_right _ (List.mem_append_right _ (List.mem_append_right _ (List.mem_append_right _ (List.mem_append_right _ (List.mem_append_left _ (List.mem_of_getElem? (i := 107) rfl))))))
set_option maxRecDepth 100000 in
set_option maxHeartbeats 4000000 in
theorem gcw137 : gCw 137 ∈ lw_tbl := List.mem_append_right _ (List.mem_append_right _ (List.mem_append_right _ (List.mem_append_right _ (List.mem_append_right _ (List.mem_append_left _ (List.mem_of_getElem? (i := 123) rfl))))))
set_option maxRecDepth 100000 in
set_option maxHeartbeats 4000000 in
theorem gcw138 : gCw 138 ∈ lw_tbl := List.mem_append_right _ (List.mem_append_right _ (List.mem_append_right _ (List.mem_append_right _ (List.mem_append_right _ (List.mem_append_left _ (List.mem_of_getElem? (i := 119) rfl))))))
set_option maxRecDepth 100000 in
set_option maxHeartbeats 4000000 in
theorem gcw139 : gCw 139 ∈ lw_tbl := List.mem_append_right _ (List.mem_append_right _ (List.mem_append_right _ (List.mem_append_right _ (List.mem_append_right _ (List.mem_append_left _ (List.mem_of_getElem? (i := 130) rfl))))))
set_option maxRecDepth 100000 in
set_option maxHeartbeats 4000000 in
theorem gcw140 : gCw 140 ∈ lw_tbl := List.mem_append_right _ (List.mem_append_right _ (List.mem_append_right _ (List.mem_append_right _ (List.mem_append_right _ (List.mem_append_left _ (List.mem_of_getElem? (i := 146) rfl))))))
set_option maxRecDepth 100000 in
set_option maxHeartbeats 4000000 in
theorem gcw141 : gCw 141 ∈ lw_tbl := List.mem_append_right _ (List.mem_append_right _ (List.mem_append_right _ (List.mem_append_right _ (List.mem_append_right _ (List.mem_append_left _ (List.mem_of_getElem? (i := 142) rfl))))))
set_option maxRecDepth 100000 in
set_option maxHeartbeats 4000000 in
theorem gcw142 : gCw 142 ∈ lw_tbl := List.mem_append_right _ (List.mem_append_right _ (List.mem_append_right _ (List.mem_append_right _ (List.mem_append_right _ (List.mem_append_right _ (List.mem_of_getElem? (i := 18) rfl))))))
set_option maxRecDepth 100000 in
set_option maxHeartbeats 4000000 in
theorem gcw143 : gCw 143 ∈ lw_tbl := List.mem_append_right _ (List.mem_append_right _ (List.mem_append_right _ (List.mem_append_right _ (List.mem_append_right _ (List.mem_append_left _ (List.mem_of_getElem? (i := 174) rfl))))))
set_option maxRecDepth 100000 in
set_option maxHeartbeats 4000000 in
theorem gcw144 : gCw 144 ∈ lw_tbl := List.mem_append_right _ (List.mem_append_right _ (List.mem_append_right _ (List.mem_append_right _ (List.mem_append_right _ (List.mem_append_left _ (List.mem_of_getElem? (i := 115) rfl))))))
set_option maxRecDepth 100000 in
set_option maxHeartbeats 4000000 in
theorem gcw145 : gCw 145 ∈ lw_tbl := List.mem_append_right _ (List.mem_append_right _ (List.mem_append_right _ (List.mem_append_right _ (List.mem_append_right _ (List.mem_append_left _ (List.mem_of_getElem? (i := 210) rfl))))))
set_option maxRecDepth 100000 in
set_option maxHeartbeats 4000000 in
theorem gcw146 : gCw 146 ∈ lw_tbl := List.mem_append_right _ (List.mem_append_right _ (List.mem_append_right _ (List.mem_append_right _ (List.mem_append_right _ (List.mem_append_left _ (List.mem_of_getElem? (i := 238) rfl))))))
set_option maxRecDepth 100000 in
set_option maxHeartbeats 4000000 in
theorem gcw147 : gCw 147 ∈ lw_tbl := List.mem_append_right _ (List.mem_append_right _ (List.mem_append_right _ (List.mem_append_right _ (List.mem_append_right _ (List.mem_append_left _ (List.mem_of_getElem? (i := 134) rfl))))))
set_option maxRecDepth 100000 in
set_option maxHeartbeats 4000000 in
theorem gcw148 : gCw 148 ∈ lw_tbl := List.mem_append_right _ (List.mem_append_right _ (List.mem_append_right _ (List.mem_append_right _ (List.mem_append_right _ (List.mem_append_left _ (List.mem_of_getElem? (i := 178) rfl))))))
set_option maxRecDepth 100000 in
set_option maxHeartbeats 4000000 in
theorem gcw149 : gCw 149 ∈ lw_tbl := List.mem_append_right _ (List.mem_append_right _ (List.mem_append_right _ (List.mem_append_right _ (List.mem_append_right _ (List.mem_append_left _ (List.mem_of_getElem? (i := 186) rfl))))))
set_option maxRecDepth 100000 in
set_option maxHeartbeats 4000000 in
theorem gcw150 : gCw 150 ∈ lw_tbl := List.mem_append_right _ (List.mem_append_right _ (List.mem_append_right _ (List.mem_append_right _ (List.mem_append_right _ (List.mem_append_left _ (List.mem_of_getElem? (i := 138) rfl))))))
set_option maxRecDepth 100000 in
set_option maxHeartbeats 4000000 in
theorem gcw151 : gCw 151 ∈ lw_tbl := List.mem_append_right _ (List.mem_append_right _ (List.mem_append_right _ (List.mem_append_right _ (List.mem_append_right _ (List.mem_append_left _ (List.mem_of_getElem? (i := 111) rfl))))))
set_option maxRecDepth 100000 in
set_option maxHeartbeats 4000000 in
theorem gcw152 : gCw 152 ∈ lw_tbl := List.mem_append_right _ (List.mem_append_right _ (List.mem_append_right _ (List.mem_append_right _ (List.mem_append_right _ (List.mem_append_left _ (List.mem_of_getElem? (i := 194) rfl))))))
set_option maxRecDepth 100000 in
set_option maxHeartbeats 4000000 in
theorem gcw153 : gCw 153 ∈ lw_tbl := List.mem_append_right _ (List.mem_append_right _ (List.mem_append_right _ (List.mem_append_right _ (List.mem_append_right _ (List.mem_append_left _ (List.mem_of_getElem? (i := 190) rfl))))))
set_option maxRecDepth 100000 in
set_option maxHeartbeats 4000000 in
theorem gcw154 : gCw 154 ∈ lw_tbl := List.mem_append_right _ (List.mem_append_right _ (List.mem_append_right _ (List.mem_append_right _ (List.mem_append_right _ (List.mem_append_left _ (List.mem_of_getElem? (i := 206) rfl))))))
set_option maxRecDepth 100000 in
set_option maxHeartbeats 4000000 in
theorem gcw155 : gCw 155 ∈ lw_tbl := List.mem_append_right _ (List.mem_append_right _ (List.mem_append_right _ (List.mem_append_right _ (List.mem_append_right _ (List.mem_append_left _ (List.mem_of_getElem? (i := 222) rfl))))))
set_option maxRecDepth 100000 in
set_option maxHeartbeats 4000000 in
theorem gcw156 : gCw 156 ∈ lw_tbl := List.mem_append_right _ (List.mem_append_right _ (List.mem_append_right _ (List.mem_append_right _ (List.mem_append_right _ (List.mem_append_left _ (List.mem_of_getElem? (i := 234) rfl))))))
set_option maxRecDepth 100000 in
set_option maxHeartbeats 4000000 in
theorem gcw157 : gCw 157 ∈ lw_tbl := List.mem_append_right _ (List.mem_append_right _ (List.mem_append_right _ (List.mem_append_right _ (List.mem_append_right _ (List.mem_append_left _ (List.mem_of_getElem? (i := 230) rfl))))))
set_option maxRecDepth 100000 in
set_option maxHeartbeats 4000000 in
theorem gcw158 : gCw 158 ∈ lw_tbl := List.mem_append_right _ (List.mem_append_right _ (List.mem_append_right _ (List.mem_append_right _ (List.mem_append_right _ (List.mem_append_right _ (List.mem_of_getElem? (i := 2) rfl))))))
set_option maxRecDepth 100000 in
set_option maxHeartbeats 4000000 in
theorem gcw159 : gCw 159 ∈ lw_tbl := List.mem_append_right _ (List.mem_append_right _ (List.mem_append_right _ (List.mem_append_right _ (List.mem_append_right _ (List.mem_append_right _ (List.mem_of_getElem? (i := 10) rfl))))))
set_option maxRecDepth 100000 in
set_option maxHeartbeats 4000000 in
theorem gcw160 : gCw 160 ∈ lw_tbl := List.mem_append_right _ (List.mem_append_right _ (List.mem_append_right _ (List.mem_append_right _ (List.mem_append_right _ (List.mem_append_right _ (List.mem_of_getElem? (i := 25) rfl))))))
set_option maxRecDepth 100000 in
set_option maxHeartbeats 4000000 in
theorem gcw161 : gCw 161 ∈ lw_tbl := List.mem_append_right _ (List.mem_append_right _ (List.mem_append_right _ (List.mem_append_right _ (List.mem_append_right _ (List.mem_append_right _ (List.mem_of_getElem? (i := 37) rfl))))))
set_option maxRecDepth 100000 in
set_option maxHeartbeats 4000000 in
theorem gcw162 : gCw 162 ∈ lw_tbl := List.mem_append_right _ (List.mem_append_right _ (List.mem_append_right _ (List.mem_append_right _ (List.mem_append_right _ (List.mem_append_right _ (List.mem_of_getElem? (i := 33) rfl))))))
set_option maxRecDepth 100000 in
set_option maxHeartbeats 4000000 in
theorem gcw163 : gCw 163 ∈ lw_tbl := List.mem_append_right _ (List.mem_append_right _ (List.mem_append_right _ (List.mem_append_right _ (List.mem_append_right _ (List.mem_append_right _ (List.mem_of_getElem? (i := 29) rfl))))))
set_option maxRecDepth 100000 in
set_option maxHeartbeats 4000000 in
theorem gcw164 : gCw 164 ∈ lw_tbl := List.mem_append_right _ (List.mem_append_right _ (List.mem_append_right _ (List.mem_append_right _ (List.mem_append_right _ (List.mem_append_right _ (List.mem_of_getElem? (i := 22) rfl))))))
set_option maxRecDepth 100000 in
set_option maxHeartbeats 4000000 in
theorem gcw165 : gCw 165 ∈ lw_tbl := List.mem_append_right _ (List.mem_append_right _ (List.mem_append_right _ (List.mem_append_right _ (List.mem_append_right _ (List.mem_append_right _ (List.mem_of_getElem? (i := 41) rfl))))))
set_option maxRecDepth 100000 in
set_option maxHeartbeats 4000000 in
theorem gcw166 : gCw 166 ∈ lw_tbl := List.mem_append_right _ (List.mem_append_right _ (List.mem_append_right _ (List.mem_append_right _ (List.mem_append_right _ (List.mem_append_right _ (List.mem_of_getElem? (i := 49) rfl))))))
set_option maxRecDepth 100000 in
set_option maxHeartbeats 4000000 in
theorem gcw167 : gCw 167 ∈ lw_tbl := List.mem_append_right _ (List.mem_append_right _ (List.mem_append_right _ (List.mem_append_right _ (List.mem_append_right _ (List.mem_append_right _ (List.mem_of_getElem? (i := 45) rfl))))))
set_option maxRecDepth 100000 in
set_option maxHeartbeats 4000000 in
theorem gcw168 : gCw 168 ∈ lw_tbl := List.mem_append_right _ (List.mem_append_right _ (List.mem_append_right _ (List.mem_append_right _ (List.mem_append_right _ (List.mem_append_right _ (List.mem_of_getElem? (i := 61) rfl))))))
set_option maxRecDepth 100000 in
set_option maxHeartbeats 4000000 in
theorem gcw169 : gCw 169 ∈ lw_tbl := List.mem_append_right _ (List.mem_append_right _ (List.mem_append_right _ (List.mem_append_right _ (List.mem_append_right _ (List.mem_append_right _ (List.mem_of_getElem? (i := 57) rfl))))))
set_option maxRecDepth 100000 in
set_option maxHeartbeats 4000000 in
theorem gcw170 : gCw 170 ∈ lw_tbl := List.mem_append_right _ (List.mem_append_right _ (List.mem_append_right _ (List.mem_append_right _ (List.mem_append_right _ (List.mem_append_right _ (List.mem_of_getElem? (i := 53) rfl))))))
set_option maxRecDepth 100000 in
set_option maxHeartbeats 4000000 in
theorem gcw171 : gCw 171 ∈ lw_tbl := List.mem_append_right _ (List.mem_append_right _ (List.mem_append_right _ (List.mem_append_right _ (List.mem_append_right _ (List.mem_append_right _ (List.mem_of_getElem? (i := 65) rfl))))))
set_option maxRecDepth 100000 in
set_option maxHeartbeats 4000000 in
theorem gcw172 : gCw 172 ∈ lw_tbl := List.mem_append_right _ (List.mem_append_right _ (List.mem_append_right _ (List.mem_append_right _ (List.mem_append_right _ (List.mem_append_right _ (List.mem_of_getElem? (i := 69) rfl))))))
set_option maxRecDepth 100000 in
set_option maxHeartbeats 4000000 in
theorem gcw173 : gCw 173 ∈ lw_tbl := List.mem_append_right _ (List.mem_append_right _ (List.mem_append_right _ (List.mem_append_right _ (List.mem_append_right _ (List.mem_append_right _ (List.mem_of_getElem? (i := 73) rfl))))))
set_option maxRecDepth 100000 in
set_option maxHeartbeats 4000000 in
theorem gcw174 : gCw 174 ∈ lw_tbl := List.mem_append_right _ (List.mem_append_right _ (List.mem_append_right _ (List.mem_append_right _ (List.mem_append_right _ (List.mem_append_right _ (List.mem_of_getElem? (i := 77) rfl))))))
set_option maxRecDepth 100000 in
set_option maxHeartbeats 4000000 in
theorem gcw175 : gCw 175 ∈ lw_tbl := List.mem_append_right _ (List.mem_append_right _ (List.mem_append_right _ (List.mem_append_left _ (List.mem_of_getElem? (i := 23) rfl))))
set_option maxRecDepth 100000 in
set_option maxHeartbeats 4000000 in
theorem gcw176 : gCw 176 ∈ lw_tbl := List.mem_append_right _ (List.mem_append_right _ (List.mem_append_right _ (List.mem_append_right _ (List.mem_append_left _ (List.mem_of_getElem? (i := 109) rfl)))))
theorem gcq0 : ∀ y ∈ ([0, 1, 2, 3, 4, 5, 6, 7, 8, 9, 10, 11, 12, 13, 14, 15, 16, 17, 18, 19, 20, 21, 22, 23, 24, 25, 26, 27, 28, 29] : List Nat), gCw y ∈ lw_tbl := List.forall_mem_cons.mpr ⟨gcw0, List.forall_mem_cons.mpr ⟨gcw1, List.forall_mem_cons.mpr ⟨gcw2, List.forall_mem_cons.mpr ⟨gcw3, List.forall_mem_cons.mpr ⟨gcw4, List.forall_mem_cons.mpr ⟨gcw5, List.forall_mem_cons.mpr ⟨gcw6, List.forall_mem_cons.mpr ⟨gcw7, List.forall_mem_cons.mpr ⟨gcw8, List.forall_mem_cons.mpr ⟨gcw9, List.forall_mem_cons.mpr ⟨gcw10, List.forall_mem_cons.mpr ⟨gcw11, List.forall_mem_cons.mpr ⟨gcw12, List.forall_mem_cons.mpr ⟨gcw13, List.forall_mem_cons.mpr ⟨gcw14, List.forall_mem_cons.mpr ⟨gcw15, List.forall_mem_cons.mpr ⟨gcw16, List.forall_mem_cons.mpr ⟨gcw17, List.forall_mem_cons.mpr ⟨gcw18, List.forall_mem_cons.mpr ⟨gcw19, List.forall_mem_cons.mpr ⟨gcw20, List.forall_mem_cons.mpr ⟨gcw21, List.forall_mem_cons.mpr ⟨gcw22, List.forall_mem_cons.mpr ⟨gcw23, List.forall_mem_cons.mpr ⟨gcw24, List.forall_mem_cons.mpr ⟨gcw25, List.forall_mem_cons.mpr ⟨gcw26, List.forall_mem_cons.mpr ⟨gcw27, List.forall_mem_cons.mpr ⟨gcw28, List.forall_mem_cons.mpr ⟨gcw29, fun _ h => nomatch h⟩⟩⟩⟩⟩⟩⟩⟩⟩⟩⟩⟩⟩⟩⟩⟩⟩⟩⟩⟩⟩⟩⟩⟩⟩⟩⟩⟩⟩⟩
theorem gcq1 : ∀ y ∈ ([30, 31, 32, 33, 34, 35, 36, 37, 38, 39, 40, 41, 42, 43, 44, 45, 46, 47, 48, 49, 50, 51, 52, 53, 54, 55, 56, 57, 58, 59] : List Nat), gCw y ∈ lw_tbl := List.forall_mem_cons.mpr ⟨gcw30, List.forall_mem_cons.mpr ⟨gcw31, List.forall_mem_cons.mpr ⟨gcw32, List.forall_mem_cons.mpr ⟨gcw33, List.forall_mem_cons.mpr ⟨gcw34, List.forall_mem_cons.mpr ⟨gcw35, List.forall_mem_cons.mpr ⟨gcw36, List.forall_mem_cons.mpr ⟨gcw37, List.forall_mem_cons.mpr ⟨gcw38, List.forall_mem_cons.mpr ⟨gcw39, List.forall_mem_cons.mpr ⟨gcw40, List.forall_mem_cons.mpr ⟨gcw41, List.forall_mem_cons.mpr ⟨gcw42, List.forall_mem_cons.mpr ⟨gcw43, List.forall_mem_cons.mpr ⟨gcw44, List.forall_mem_cons.mpr ⟨gcw45, List.forall_mem_cons.mpr ⟨gcw46, List.forall_mem_cons.mpr ⟨gcw47, List.forall_mem_cons.mpr ⟨gcw48, List.forall_mem_cons.mpr ⟨gcw49, List.forall_mem_cons.mpr ⟨gcw50, List.forall_mem_cons.mpr ⟨gcw51, List.forall_mem_cons.mpr ⟨gcw52, List.forall_mem_cons.mpr ⟨gcw53, List.forall_mem_cons.mpr ⟨gcw54, List.forall_mem_cons.mpr ⟨gcw55, List.forall_mem_cons.mpr ⟨gcw56, List.forall_mem_cons.mpr ⟨gcw57, List.forall_mem_cons.mpr ⟨gcw58, List.forall_mem_cons.mpr ⟨gcw59, fun _ h => nomatch h⟩⟩⟩⟩⟩⟩⟩⟩⟩⟩⟩⟩⟩⟩⟩⟩⟩⟩⟩⟩⟩⟩⟩⟩⟩⟩⟩⟩⟩⟩
theorem gcq2 : ∀ y ∈ ([60, 61, 62, 63, 64, 65, 66, 67, 68, 69, 70, 71, 72, 73, 74, 75, 76, 77, 78, 79, 80, 81, 82, 83, 84, 85, 86, 87, 88, 89] : List Nat), gCw y ∈ lw_tbl := List.forall_mem_cons.mpr ⟨gcw60, List.forall_mem_cons.mpr ⟨gcw61, List.forall_mem_cons.mpr ⟨gcw62, List.forall_mem_cons.mpr ⟨gcw63, List.forall_mem_cons.mpr ⟨gcw64, List.forall_mem_cons.mpr ⟨gcw65, List.forall_mem_cons.mpr ⟨gcw66, List.forall_mem_cons.mpr ⟨gcw67, List.forall_mem_cons.mpr ⟨gcw68, List.forall_mem_cons.mpr ⟨gcw69, List.forall_mem_cons.mpr ⟨gcw70, List.forall_mem_cons.mpr ⟨gcw71, List.forall_mem_cons.mpr ⟨gcw72, List.forall_mem_cons.mpr ⟨gcw73, List.forall_mem_cons.mpr ⟨gcw74, List.forall_mem_cons.mpr ⟨gcw75, List.forall_mem_cons.mpr ⟨gcw76, List.forall_mem_cons.mpr ⟨gcw77, List.forall_mem_cons.mpr ⟨gcw78, List.forall_mem_cons.mpr ⟨gcw79, List.forall_mem_cons.mpr ⟨gcw80, List.forall_mem_cons.mpr ⟨gcw81, List.forall_mem_cons.mpr ⟨gcw82, List.forall_mem_cons.mpr ⟨gcw83, List.forall_mem_cons.mpr ⟨gcw84, List.forall_mem_cons.mpr ⟨gcw85, List.forall_mem_cons.mpr ⟨gcw86, List.forall_mem_cons.mpr ⟨gcw87, List.forall_mem_cons.mpr ⟨gcw88, List.forall_mem_cons.mpr ⟨gcw89, fun _ h => nomatch h⟩⟩⟩⟩⟩⟩⟩⟩⟩⟩⟩⟩⟩⟩⟩⟩⟩⟩⟩⟩⟩⟩⟩⟩⟩⟩⟩⟩⟩⟩
theorem gcq3 : ∀ y ∈ ([90, 91, 92, 93, 94, 95, 96, 97, 98, 99, 100, 101, 102, 103, 104, 105, 106, 107, 108, 109, 110, 111, 112, 113, 114, 115, 116, 117, 118, 119] : List Nat), gCw y ∈ lw_tbl := List.forall_mem_cons.mpr ⟨gcw90, List.forall_mem_cons.mpr ⟨gcw91, List.forall_mem_cons.mpr ⟨gcw92, List.forall_mem_cons.mpr ⟨gcw93, List.forall_mem_cons.mpr ⟨gcw94, List.forall_mem_cons.mpr ⟨gcw95, List.forall_mem_cons.mpr ⟨gcw96, List.forall_mem_cons.mpr ⟨gcw97, List.forall_mem_cons.mpr ⟨gcw98, List.forall_mem_cons.mpr ⟨gcw99, List.forall_mem_cons.mpr ⟨gcw100, List.forall_mem_cons.mpr ⟨gcw101, List.forall_mem_cons.mpr ⟨gcw102, List.forall_mem_cons.mpr ⟨gcw103, List.forall_mem_cons.mpr ⟨gcw104, List.forall_mem_cons.mpr ⟨gcw105, List.forall_mem_cons.mpr ⟨gcw106, List.forall_mem_cons.mpr ⟨gcw107, List.forall_mem_cons.mpr ⟨gcw108, List.forall_mem_cons.mpr ⟨gcw109, List.forall_mem_cons.mpr ⟨gcw110, List.forall_mem_cons.mpr ⟨gcw111, List.forall_mem_cons.mpr ⟨gcw112, List.forall_mem_cons.mpr ⟨gcw113, List.forall_mem_cons.mpr ⟨gcw114, List.forall_mem_cons.mpr ⟨gcw115, List.forall_mem_cons.mpr ⟨gcw116, List.forall_mem_cons.mpr ⟨gcw117, List.forall_mem_cons.mpr ⟨gcw118, List.forall_mem_cons.mpr ⟨gcw119, fun _ h => nomatch h⟩⟩⟩⟩⟩⟩⟩⟩⟩⟩⟩⟩⟩⟩⟩⟩⟩⟩⟩⟩⟩⟩⟩⟩⟩⟩⟩⟩⟩⟩
theorem gcq4 : ∀ y ∈ ([120, 121, 122, 123, 124, 125, 126, 127, 128, 129, 130, 131, 132, 133, 134, 135, 136, 137, 138, 139, 140, 141, 142, 143, 144, 145, 146, 147, 148, 149] : List Nat), gCw y ∈ lw_tbl := List.forall_mem_cons.mpr ⟨gcw120, List.forall_mem_cons.mpr ⟨gcw121, List.forall_mem_cons.mpr ⟨gcw122, List.forall_mem_cons.mpr ⟨gcw123, List.forall_mem_cons.mpr ⟨gcw124, List.forall_mem_cons.mpr ⟨gcw125, List.forall_mem_cons.mpr ⟨gcw126, List.forall_mem_cons.mpr ⟨gcw127, List.forall_mem_cons.mpr ⟨gcw128, List.forall_mem_cons.mpr ⟨gcw129, List.forall_mem_cons.mpr ⟨gcw130, List.forall_mem_cons.mpr ⟨gcw131, List.forall_mem_cons.mpr ⟨gcw132, List.forall_mem_cons.mpr ⟨gcw133, List.forall_mem_cons.mpr ⟨gcw134, List.forall_mem_cons.mpr ⟨gcw135, List.forall_mem_cons.mpr ⟨gcw136, List.forall_mem_cons.mpr ⟨gcw137, List.forall_mem_cons.mpr ⟨gcw138, List.forall_mem_cons.mpr ⟨gcw139, List.forall_mem_cons.mpr ⟨gcw140, List.forall_mem_cons.mpr ⟨gcw141, List.forall_mem_cons.mpr ⟨gcw142, List.forall_mem_cons.mpr ⟨gcw143, List.forall_mem_cons.mpr ⟨gcw144, List.forall_mem_cons.mpr ⟨gcw145, List.forall_mem_cons.mpr ⟨gcw146, List.forall_mem_cons.mpr ⟨gcw147, List.forall_mem_cons.mpr ⟨gcw148, List.forall_mem_cons.mpr ⟨gcw149, fun _ h => nomatch h⟩⟩⟩⟩⟩⟩⟩⟩⟩⟩⟩⟩⟩⟩⟩⟩⟩⟩⟩⟩⟩⟩⟩⟩⟩⟩⟩⟩⟩⟩
theorem gcq5 : ∀ y ∈ ([150, 151, 152, 153, 154, 155, 156, 157, 158, 159, 160, 161, 162, 163, 164, 165, 166, 167, 168, 169, 170, 171, 172, 173, 174, 175, 176] : List Nat), gCw y ∈ lw_tbl := List.forall_mem_cons.mpr ⟨gcw150, List.forall_mem_cons.mpr ⟨gcw151, List.forall_mem_cons.mpr ⟨gcw152, List.forall_mem_cons.mpr ⟨gcw153, List.forall_mem_cons.mpr ⟨gcw154, List.forall_mem_cons.mpr ⟨gcw155, List.forall_mem_cons.mpr ⟨gcw156, List.forall_mem_cons.mpr ⟨gcw157, List.forall_mem_cons.mpr ⟨gcw158, List.forall_mem_cons.mpr ⟨gcw159, List.forall_mem_cons.mpr ⟨gcw160, List.forall_mem_cons.mpr ⟨gcw161, List.forall_mem_cons.mpr ⟨gcw162, List.forall_mem_cons.mpr ⟨gcw163, List.forall_mem_cons.mpr ⟨gcw164, List.forall_mem_cons.mpr ⟨gcw165, List.forall_mem_cons.mpr ⟨gcw166, List.forall_mem_cons.mpr ⟨gcw167, List.forall_mem_cons.mpr ⟨gcw168, List.forall_mem_cons.mpr ⟨gcw169, List.forall_mem_cons.mpr ⟨gcw170, List.forall_mem_cons.mpr ⟨gcw171, List.forall_mem_cons.mpr ⟨gcw172, List.forall_mem_cons.mpr ⟨gcw173, List.forall_mem_cons.mpr ⟨gcw174, List.forall_mem_cons.mpr ⟨gcw175, List.forall_mem_cons.mpr ⟨gcw176, fun _ h => nomatch h⟩⟩⟩⟩⟩⟩⟩⟩⟩⟩⟩⟩⟩⟩⟩⟩⟩⟩⟩⟩⟩⟩⟩⟩⟩⟩⟩
set_option maxRecDepth 100000 in
set_option maxHeartbeats 4000000 in
theorem gCw_ok (y : Nat) (h : y < 177) : gCw y ∈ gw := by
  refine List.mem_filter.mpr ⟨?_, rfl⟩
  have h1 : y ∈ ([0, 1, 2, 3, 4, 5, 6, 7, 8, 9, 10, 11, 12, 13, 14, 15, 16, 17, 18, 19, 20, 21, 22, 23, 24, 25, 26, 27, 28, 29] : List Nat) ++ (([30, 31, 32, 33, 34, 35, 36, 37, 38, 39, 40, 41, 42, 43, 44, 45, 46, 47, 48, 49, 50, 51, 52, 53, 54, 55, 56, 57, 58, 59] : List Nat) ++ (([60, 61, 62, 63, 64, 65, 66, 67, 68, 69, 70, 71, 72, 73, 74, 75, 76, 77, 78, 79, 80, 81, 82, 83, 84, 85, 86, 87, 88, 89] : List Nat) ++ (([90, 91, 92, 93, 94, 95, 96, 97, 98, 99, 100, 101, 102, 103, 104, 105, 106, 107, 108, 109, 110, 111, 112, 113, 114, 115, 116, 117, 118, 119] : List Nat) ++ (([120, 121, 122, 123, 124, 125, 126, 127, 128, 129, 130, 131, 132, 133, 134, 135, 136, 137, 138, 139, 140, 141, 142, 143, 144, 145, 146, 147, 148, 149] : List Nat) ++ (([150, 151, 152, 153, 154, 155, 156, 157, 158, 159, 160, 161, 162, 163, 164, 165, 166, 167, 168, 169, 170, 171, 172, 173, 174, 175, 176] : List Nat)))))) := by
    have h2 : y ∈ List.range 177 := List.mem_range.mpr h
    exact h2
  rcases List.mem_append.mp h1 with h1 | h1
  · exact gcq0 y h1
  rcases List.mem_append.mp h1 with h1 | h1
  · exact gcq1 y h1
  rcases List.mem_append.mp h1 with h1 | h1
  · exact gcq2 y h1
  rcases List.mem_append.mp h1 with h1 | h1
  · exact gcq3 y h1
  rcases List.mem_append.mp h1 with h1 | h1
  · exact gcq4 y h1
  exact gcq5 y h1
def gIm : List Nat := [0, 1, 2, 3, 4, 5, 6, 7, 8, 9, 10, 11, 12, 13, 14, 15, 16, 17, 18, 19, 20, 21, 22, 23, 24, 25, 26, 27, 28, 29, 30, 31, 32, 33, 34, 35, 36, 37, 38, 39, 40, 41, 42, 43, 44, 45, 46, 47, 48, 49, 50, 51, 52, 53, 54, 55, 56, 57, 58, 59, 60, 61, 62, 63, 64, 65, 66, 67, 68, 69, 70, 71, 72, 73, 74, 75, 76, 77, 78, 79, 83, 84, 85, 87, 91, 92, 93, 94, 95, 96, 97, 98, 99, 100, 101, 102, 103, 105, 106, 107, 108, 109, 110, 111, 112, 113, 115, 116, 117, 118, 119, 120, 121, 122, 123, 124, 125, 126, 127, 128, 129, 130, 131, 132, 133, 134, 135, 136, 137, 138, 139, 140, 141, 142, 143, 144, 145, 146, 147, 148, 149, 150, 151, 152, 153, 154, 155, 156, 157, 158, 159, 161, 162, 163, 164, 165, 166, 167, 168, 169, 170, 171, 172, 173, 174]
def gIw : Nat → Cond := fun y => .instanceMethod (gN y)
def gImi : List Nat := [248, 601, 729, 613, 625, 717, 755, 107, 169, 173, 415, 411, 645, 270, 593, 597, 891, 919, 438, 317, 738, 783, 788, 805, 230, 557, 565, 605, 277, 310, 943, 955, 573, 434, 101, 621, 426, 161, 708, 629, 725, 760, 793, 818, 657, 846, 862, 165, 661, 181, 637, 633, 177, 641, 797, 850, 214, 450, 561, 400, 126, 801, 92, 446, 396, 529, 745, 773, 812, 827, 842, 858, 869, 905, 914, 926, 950, 407, 419, 430, 618, 538, 778, 534, 582, 586, 590, 610, 651, 836, 705, 701, 714, 722, 752, 832, 879, 888, 899, 931, 964, 935, 940, 960, 969, 1124, 982, 986, 978, 1188, 990, 994, 1184, 1180, 974, 1192, 1176, 1208, 1228, 1224, 1244, 1240, 1252, 1196, 1272, 1280, 1128, 1132, 1149, 1145, 1156, 1172, 1168, 1284, 1200, 1141, 1236, 1264, 1160, 1204, 1212, 1164, 1136, 1220, 1215, 1231, 1247, 1260, 1255, 1267, 1275, 1303, 1299, 1295, 1287, 1306, 1315, 1310, 1327, 1323, 1318, 1330, 1334, 1338, 1342]
set_option maxRecDepth 100000 in
set_option maxHeartbeats 4000000 in
theorem gIm_ok : ∀ q ∈ gIm, gIw q ∈ gw := gmem gIw gIm gImi (by decide +kernel) (by decide +kernel)
def gSm : List Nat := [80, 81, 82, 86, 88, 89, 90, 104, 114, 160, 175, 176]
def gSw : Nat → Cond := fun y => .static (gN y)
def gSmi : List Nat := [423, 873, 654, 577, 665, 733, 764, 882, 1152, 1291, 569, 895]
set_option maxRecDepth 100000 in
set_option maxHeartbeats 4000000 in
theorem gSm_ok : ∀ q ∈ gSm, gSw q ∈ gw := gmem gSw gSm gSmi (by decide +kernel) (by decide +kernel)
def gVm : List Nat := [1, 2, 3, 4, 5, 6, 8, 9, 10, 11, 12, 14, 15, 16, 17, 18, 20, 21, 22, 23, 25, 26, 27, 30, 31, 32, 33, 35, 36, 37, 38, 39, 40, 41, 42, 43, 44, 45, 46, 47, 48, 49, 50, 51, 52, 53, 54, 55, 57, 58, 59, 61, 83, 84, 85, 87, 91, 92, 93, 94, 95, 96, 97, 98, 99, 100, 101, 102, 103, 105, 106, 107, 108, 109, 110, 111, 115, 116, 117, 118, 119, 120, 121, 122, 123, 124, 125, 126, 127, 128, 129, 130, 131, 132, 133, 134, 137, 138, 139, 140, 141, 142, 143, 144, 145, 146, 147, 148, 149, 150, 152, 156, 161, 162, 163, 166, 168, 169]
def gVw : Nat → Cond := fun y => .selects (gR (gCn y)) (gN y) (gN y)
def gVmi : List Nat := [602, 730, 614, 626, 718, 756, 170, 174, 416, 412, 646, 594, 598, 892, 920, 439, 739, 784, 789, 806, 558, 566, 606, 944, 956, 574, 435, 622, 427, 162, 709, 630, 726, 761, 794, 819, 658, 847, 863, 166, 662, 182, 638, 634, 178, 642, 798, 851, 451, 562, 401, 802, 7, 2, 14, 1, 3, 4, 5, 6, 8, 16, 10, 9, 11, 12, 13, 15, 17, 18, 19, 20, 24, 21, 22, 23, 27, 28, 26, 42, 29, 30, 41, 40, 25, 43, 39, 47, 51, 50, 54, 53, 55, 44, 58, 59, 33, 32, 34, 38, 37, 60, 45, 31, 52, 57, 35, 46, 48, 36, 49, 56, 63, 62, 61, 64, 66, 65]
set_option maxRecDepth 100000 in
set_option maxHeartbeats 4000000 in
theorem gVm_ok : ∀ q ∈ gVm, gVw q ∈ gw := gmem gVw gVm gVmi (by decide +kernel) (by decide +kernel)
def gIn : List Nat := [0, 1, 2, 3, 4, 5, 6, 7, 8, 9, 10, 11, 12]
def gInw : Nat → Cond := fun y => .initialized (gR y)
def gIni : List Nat := [74, 70, 75, 78, 73, 76, 77, 69, 72, 71, 68, 79, 86]
set_option maxRecDepth 100000 in
set_option maxHeartbeats 4000000 in
theorem gIn_ok : ∀ q ∈ gIn, gInw q ∈ gw := gmem gInw gIn gIni (by decide +kernel) (by decide +kernel)
def gIs : List Nat := [0, 1, 2, 3, 4, 5, 6, 7, 8, 9, 10, 11]
def gIsw : Nat → Cond := fun y => .instantiable (gR y) (gNf y)
def gIsi : List Nat := [246, 105, 268, 315, 228, 275, 308, 99, 212, 124, 90, 967]
set_option maxRecDepth 100000 in
set_option maxHeartbeats 4000000 in
theorem gIs_ok : ∀ q ∈ gIs, gIsw q ∈ gw := gmem gIsw gIs gIsi (by decide +kernel) (by decide +kernel)
def gAO : List (Nat) := [7, 2, 6, 9, 5, 3]
def gAOw : Nat → Cond := fun q => .arrayOver (.object (gR q))
def gAOi : List Nat := [98, 208, 210, 123, 274, 314]
set_option maxRecDepth 100000 in
set_option maxHeartbeats 4000000 in
theorem gAO_ok : ∀ q ∈ gAO, gAOw q ∈ lw_tbl := gmem0 gAOw gAO gAOi (by decide +kernel)
def gEL : List (Nat × Nat × Nat × Nat × Nat) := [(10, 69, 71, 73, 1), (10, 69, 200, 73, 1), (10, 69, 296, 73, 1), (10, 69, 350, 73, 1), (10, 69, 361, 73, 1), (10, 69, 445, 73, 1), (10, 91, 93, 95, 0), (10, 91, 133, 95, 0), (10, 91, 192, 95, 0), (10, 91, 241, 95, 0), (10, 91, 258, 95, 0), (10, 91, 305, 95, 0), (10, 91, 346, 95, 0), (10, 91, 348, 95, 0), (10, 135, 137, 139, 3), (10, 135, 151, 139, 3), (10, 135, 194, 139, 3), (10, 135, 225, 139, 3), (10, 135, 246, 139, 3), (10, 135, 274, 139, 3), (10, 135, 355, 139, 3), (10, 135, 359, 139, 3), (10, 135, 365, 139, 3), (10, 135, 425, 139, 3), (10, 135, 447, 139, 3), (10, 187, 189, 191, 2), (10, 187, 357, 191, 2), (10, 187, 363, 191, 2)]
def gStL : List (Nat × Nat × String) := [(10, 71, "the text is full"), (10, 93, "no path, or no mode"), (10, 133, "no path"), (10, 137, "the path is /"), (10, 151, "open for writing alone"), (10, 189, "the file is gone"), (10, 192, "no byte"), (10, 194, "open for reading alone"), (10, 200, "the file is full"), (10, 225, "the file has to stay"), (10, 241, "no path, or no way to bind"), (10, 246, "what is bound is no directory"), (10, 258, "no path, no server, or no way to mount"), (10, 274, "no place"), (10, 296, "four processes are there"), (10, 305, "process 0 stays"), (10, 346, "no such process"), (10, 348, "no such open file"), (10, 350, "five files are open"), (10, 355, "no directory"), (10, 357, "no file of that name"), (10, 359, "a directory is only read"), (10, 361, "the server is full"), (10, 363, "the directory is gone"), (10, 365, "no directory, or the name is taken"), (10, 425, "files may be made in no member"), (10, 445, "too many places or members"), (10, 447, "the place is no directory")]
def gStw : Nat × Nat × String → Cond := fun q => .stringRef (gR q.1) q.2.1 q.2.2
def gStLi : List Nat := [495, 571, 748, 749, 781, 736, 815, 816, 822, 853, 875, 876, 908, 917, 937, 953, 549, 780, 579, 676, 692, 735, 766, 767, 768, 758, 884, 885]
set_option maxRecDepth 100000 in
set_option maxHeartbeats 4000000 in
theorem gStL_ok : ∀ q ∈ gStL, gStw q ∈ lw_tbl := gmem0 gStw gStL gStLi (by decide +kernel)
