/-! the code of each method that the law reaches, by a program out of javap (wip/p40/pg.py); where no run comes, o_no -/
def L1_isb : List Nat := [4597454643604897138, 4597454643604897138, 4602768891165194322, 4597454643604897138, 4597454643604897138, 4602768891165194322, 13823348696251000424, 13823348696251000424, 13817944376698155832, 13826861503960349410, 13826861503960349410, 13819385528578914387, 13826861503960349410, 13826861503960349410, 13819385528578914387, 13830779635636161742, 13830779635636161742, 13827401935915633870, 13829563663736771707, 13829563663736771707, 13827762223885823508, 13829563663736771707, 13829563663736771707, 13827762223885823508, 13832130715524372890, 13832130715524372890, 13831229995598898790, 13826861503960349409, 13826861503960349409, 13824069272191379700, 13826861503960349409, 13826861503960349409, 13824069272191379700, 13830779635636161741, 13830779635636161741, 13829203375766582067, 13826861503960349409, 13826861503960349409, 13824069272191379700, 13826861503960349409, 13826861503960349409, 13824069272191379700, 13830779635636161741, 13830779635636161741, 13829203375766582067, 13826861503960349409, 13826861503960349409, 13824069272191379700, 13826861503960349409, 13826861503960349409, 13824069272191379700, 13830779635636161741, 13830779635636161741, 13829203375766582067, 13826861503960349409, 13826861503960349409, 13824069272191379700, 13826861503960349409, 13826861503960349409, 13824069272191379700, 13830779635636161741, 13830779635636161741, 13829203375766582067, 4605561122934164030, 4605561122934164030, 4607632778762754457, 4605561122934164030, 4605561122934164030, 4607632778762754457, 4599075939470750516, 4599075939470750516, 4602678819172646909, 13580604676335730688, 13580604676335730688, 4600877379321698711, 13580604676335730688, 13580604676335730688, 4600877379321698711, 13824249416176474522, 13824249416176474522, 13594115475217842176, 13822447976325526322, 13822447976325526322, 13815242216921733532, 13822447976325526322, 13822447976325526322, 13815242216921733532, 13827852295878370918, 13827852295878370918, 13826050856027422720, 4366802788689117184, 4366802788689117184, 4596373779694328218, 4366802788689117184, 4366802788689117184, 4596373779694328218, 13824249416176474520, 13824249416176474520, 13819745816549104026, 4366802788689117184, 4366802788689117184, 4596373779694328218, 4366802788689117184, 4366802788689117184, 4596373779694328218, 13824249416176474520, 13824249416176474520, 13819745816549104026, 4366802788689117184, 4366802788689117184, 4596373779694328218, 4366802788689117184, 4366802788689117184, 4596373779694328218, 13824249416176474520, 13824249416176474520, 13819745816549104026, 4366802788689117184, 4366802788689117184, 4596373779694328218, 4366802788689117184, 4366802788689117184, 4596373779694328218, 13824249416176474520, 13824249416176474520, 13819745816549104026, 4606912202822375178, 4606912202822375178, 4608308318706860032, 4606912202822375178, 4606912202822375178, 4608308318706860032, 4604029899060858060, 4604029899060858060, 4605831338911806259, 4594572339843380019, 4594572339843380019, 4603129179135383962, 4594572339843380019, 4594572339843380019, 4603129179135383962, 13810738617294363036, 13810738617294363036, 4599976659396224614, 13817944376698155825, 13817944376698155825, 4587366580439587224, 13817944376698155825, 13817944376698155825, 4587366580439587224, 13823348696251000422, 13823348696251000422, 13817944376698155827, 4594572339843380019, 4594572339843380019, 4599976659396224615, 4594572339843380019, 4594572339843380019, 4599976659396224615, 13810738617294363036, 13810738617294363036, 4594572339843380021, 4594572339843380019, 4594572339843380019, 4599976659396224615, 4594572339843380019, 4594572339843380019, 4599976659396224615, 13810738617294363036, 13810738617294363036, 4594572339843380021, 4594572339843380019, 4594572339843380019, 4599976659396224615, 4594572339843380019, 4594572339843380019, 4599976659396224615, 13810738617294363036, 13810738617294363036, 4594572339843380021, 4594572339843380019, 4594572339843380019, 4599976659396224615, 4594572339843380019, 4594572339843380019, 4599976659396224615, 13810738617294363036, 13810738617294363036, 4594572339843380021, 4606371770867090718, 4606371770867090718, 4608038102729217802, 4606371770867090718, 4606371770867090718, 4608038102729217802, 4604029899060858060, 4604029899060858060, 4605831338911806259, 4591149604126578442, 4591149604126578442, 4602498675187552092, 4591149604126578442, 4591149604126578442, 4602498675187552092, 13810738617294363036, 13810738617294363036, 4599976659396224614, 13820106104519293663, 13820106104519293663, 13800290266158863488, 13820106104519293663, 13820106104519293663, 13800290266158863488, 13823348696251000422, 13823348696251000422, 13817944376698155827, 4591149604126578442, 4591149604126578442, 4598895795485655696, 4591149604126578442, 4591149604126578442, 4598895795485655696, 13810738617294363036, 13810738617294363036, 4594572339843380021, 4591149604126578442, 4591149604126578442, 4598895795485655696, 4591149604126578442, 4591149604126578442, 4598895795485655696, 13810738617294363036, 13810738617294363036, 4594572339843380021, 4591149604126578442, 4591149604126578442, 4598895795485655696, 4591149604126578442, 4591149604126578442, 4598895795485655696, 13810738617294363036, 13810738617294363036, 4594572339843380021, 4591149604126578442, 4591149604126578442, 4598895795485655696, 4591149604126578442, 4591149604126578442, 4598895795485655696, 13810738617294363036, 13810738617294363036, 4594572339843380021, 4605561122934164028, 4605561122934164028, 4607632778762754458, 4605561122934164028, 4605561122934164028, 4607632778762754458, 4602678819172646910, 4602678819172646910, 4604480259023595110, 13589611875590471680, 13589611875590471680, 4600877379321698714, 13589611875590471680, 13589611875590471680, 4600877379321698714, 13819745816549104028, 13819745816549104028, 4596373779694328218, 13822447976325526324, 13822447976325526324, 13815242216921733528, 13822447976325526324, 13822447976325526324, 13815242216921733528, 13826050856027422720, 13826050856027422720, 13822447976325526323, 4359484439294640128, 4359484439294640128, 4596373779694328218, 4359484439294640128, 4359484439294640128, 4596373779694328218, 13819745816549104024, 13819745816549104024, 0, 4359484439294640128, 4359484439294640128, 4596373779694328218, 4359484439294640128, 4359484439294640128, 4596373779694328218, 13819745816549104024, 13819745816549104024, 0, 4359484439294640128, 4359484439294640128, 4596373779694328218, 4359484439294640128, 4359484439294640128, 4596373779694328218, 13819745816549104024, 13819745816549104024, 0, 4359484439294640128, 4359484439294640128, 4596373779694328218, 4359484439294640128, 4359484439294640128, 4596373779694328218, 13819745816549104024, 13819745816549104024, 0, 4605561122934164028, 4605561122934164028, 4607632778762754458, 4605561122934164028, 4605561122934164028, 4607632778762754458, 4602678819172646910, 4602678819172646910, 4604480259023595110, 13589611875590471680, 13589611875590471680, 4600877379321698714, 13589611875590471680, 13589611875590471680, 4600877379321698714, 13819745816549104028, 13819745816549104028, 4596373779694328218, 13822447976325526324, 13822447976325526324, 13815242216921733528, 13822447976325526324, 13822447976325526324, 13815242216921733528, 13826050856027422720, 13826050856027422720, 13822447976325526323, 4359484439294640128, 4359484439294640128, 4596373779694328218, 4359484439294640128, 4359484439294640128, 4596373779694328218, 13819745816549104024, 13819745816549104024, 0, 4359484439294640128, 4359484439294640128, 4596373779694328218, 4359484439294640128, 4359484439294640128, 4596373779694328218, 13819745816549104024, 13819745816549104024, 0, 4359484439294640128, 4359484439294640128, 4596373779694328218, 4359484439294640128, 4359484439294640128, 4596373779694328218, 13819745816549104024, 13819745816549104024, 0, 4359484439294640128, 4359484439294640128, 4596373779694328218, 4359484439294640128, 4359484439294640128, 4596373779694328218, 13819745816549104024, 13819745816549104024, 0, 4605561122934164028, 4605561122934164028, 4607632778762754458, 4605561122934164028, 4605561122934164028, 4607632778762754458, 4602678819172646910, 4602678819172646910, 4604480259023595110, 13589611875590471680, 13589611875590471680, 4600877379321698714, 13589611875590471680, 13589611875590471680, 4600877379321698714, 13819745816549104028, 13819745816549104028, 4596373779694328218, 13822447976325526324, 13822447976325526324, 13815242216921733528, 13822447976325526324, 13822447976325526324, 13815242216921733528, 13826050856027422720, 13826050856027422720, 13822447976325526323, 4359484439294640128, 4359484439294640128, 4596373779694328218, 4359484439294640128, 4359484439294640128, 4596373779694328218, 13819745816549104024, 13819745816549104024, 0, 4359484439294640128, 4359484439294640128, 4596373779694328218, 4359484439294640128, 4359484439294640128, 4596373779694328218, 13819745816549104024, 13819745816549104024, 0, 4359484439294640128, 4359484439294640128, 4596373779694328218, 4359484439294640128, 4359484439294640128, 4596373779694328218, 13819745816549104024, 13819745816549104024, 0, 4359484439294640128, 4359484439294640128, 4596373779694328218, 4359484439294640128, 4359484439294640128, 4596373779694328218, 13819745816549104024, 13819745816549104024, 0]
def L2_isb : List Nat := [4599075939470750516, 4599075939470750516, 4599075939470750516, 4599075939470750516, 4599075939470750516, 4599075939470750516, 13822447976325526324, 13822447976325526324, 13822447976325526324, 13827852295878370918, 13827852295878370918, 13827852295878370918, 13827852295878370918, 13827852295878370918, 13827852295878370918, 13831905535543004365, 13831905535543004365, 13831905535543004365, 13827852295878370918, 13827852295878370918, 13827852295878370918, 13827852295878370918, 13827852295878370918, 13827852295878370918, 13831905535543004365, 13831905535543004365, 13831905535543004365, 13824249416176474520, 13824249416176474520, 13824249416176474520, 13824249416176474520, 13824249416176474520, 13824249416176474520, 13830554455654793216, 13830554455654793216, 13830554455654793216, 13824249416176474520, 13824249416176474520, 13824249416176474520, 13824249416176474520, 13824249416176474520, 13824249416176474520, 13830554455654793216, 13830554455654793216, 13830554455654793216, 13824249416176474520, 13824249416176474520, 13824249416176474520, 13824249416176474520, 13824249416176474520, 13824249416176474520, 13830554455654793216, 13830554455654793216, 13830554455654793216, 13824249416176474520, 13824249416176474520, 13824249416176474520, 13824249416176474520, 13824249416176474520, 13824249416176474520, 13830554455654793216, 13830554455654793216, 13830554455654793216, 4606281698874543309, 4606281698874543309, 4606281698874543309, 4606281698874543309, 4606281698874543309, 4606281698874543309, 4604480259023595110, 4604480259023595110, 4604480259023595110, 13815242216921733528, 13815242216921733528, 13815242216921733528, 13815242216921733528, 13815242216921733528, 13815242216921733528, 13822447976325526323, 13822447976325526323, 13822447976325526323, 13815242216921733528, 13815242216921733528, 13815242216921733528, 13815242216921733528, 13815242216921733528, 13815242216921733528, 13822447976325526323, 13822447976325526323, 13822447976325526323, 4596373779694328218, 4596373779694328218, 4596373779694328218, 4596373779694328218, 4596373779694328218, 4596373779694328218, 0, 0, 0, 4596373779694328218, 4596373779694328218, 4596373779694328218, 4596373779694328218, 4596373779694328218, 4596373779694328218, 0, 0, 0, 4596373779694328218, 4596373779694328218, 4596373779694328218, 4596373779694328218, 4596373779694328218, 4596373779694328218, 0, 0, 0, 4596373779694328218, 4596373779694328218, 4596373779694328218, 4596373779694328218, 4596373779694328218, 4596373779694328218, 0, 0, 0, 4606281698874543309, 4606281698874543309, 4606281698874543309, 4606281698874543309, 4606281698874543309, 4606281698874543309, 4604480259023595110, 4604480259023595110, 4604480259023595110, 13815242216921733528, 13815242216921733528, 13815242216921733528, 13815242216921733528, 13815242216921733528, 13815242216921733528, 13822447976325526323, 13822447976325526323, 13822447976325526323, 13815242216921733528, 13815242216921733528, 13815242216921733528, 13815242216921733528, 13815242216921733528, 13815242216921733528, 13822447976325526323, 13822447976325526323, 13822447976325526323, 4596373779694328218, 4596373779694328218, 4596373779694328218, 4596373779694328218, 4596373779694328218, 4596373779694328218, 0, 0, 0, 4596373779694328218, 4596373779694328218, 4596373779694328218, 4596373779694328218, 4596373779694328218, 4596373779694328218, 0, 0, 0, 4596373779694328218, 4596373779694328218, 4596373779694328218, 4596373779694328218, 4596373779694328218, 4596373779694328218, 0, 0, 0, 4596373779694328218, 4596373779694328218, 4596373779694328218, 4596373779694328218, 4596373779694328218, 4596373779694328218, 0, 0, 0, 4606281698874543309, 4606281698874543309, 4606281698874543309, 4606281698874543309, 4606281698874543309, 4606281698874543309, 4604480259023595110, 4604480259023595110, 4604480259023595110, 13815242216921733528, 13815242216921733528, 13815242216921733528, 13815242216921733528, 13815242216921733528, 13815242216921733528, 13822447976325526323, 13822447976325526323, 13822447976325526323, 13815242216921733528, 13815242216921733528, 13815242216921733528, 13815242216921733528, 13815242216921733528, 13815242216921733528, 13822447976325526323, 13822447976325526323, 13822447976325526323, 4596373779694328218, 4596373779694328218, 4596373779694328218, 4596373779694328218, 4596373779694328218, 4596373779694328218, 0, 0, 0, 4596373779694328218, 4596373779694328218, 4596373779694328218, 4596373779694328218, 4596373779694328218, 4596373779694328218, 0, 0, 0, 4596373779694328218, 4596373779694328218, 4596373779694328218, 4596373779694328218, 4596373779694328218, 4596373779694328218, 0, 0, 0, 4596373779694328218, 4596373779694328218, 4596373779694328218, 4596373779694328218, 4596373779694328218, 4596373779694328218, 0, 0, 0, 4606281698874543309, 4606281698874543309, 4606281698874543309, 4606281698874543309, 4606281698874543309, 4606281698874543309, 4604480259023595110, 4604480259023595110, 4604480259023595110, 13815242216921733528, 13815242216921733528, 13815242216921733528, 13815242216921733528, 13815242216921733528, 13815242216921733528, 13822447976325526323, 13822447976325526323, 13822447976325526323, 13815242216921733528, 13815242216921733528, 13815242216921733528, 13815242216921733528, 13815242216921733528, 13815242216921733528, 13822447976325526323, 13822447976325526323, 13822447976325526323, 4596373779694328218, 4596373779694328218, 4596373779694328218, 4596373779694328218, 4596373779694328218, 4596373779694328218, 0, 0, 0, 4596373779694328218, 4596373779694328218, 4596373779694328218, 4596373779694328218, 4596373779694328218, 4596373779694328218, 0, 0, 0, 4596373779694328218, 4596373779694328218, 4596373779694328218, 4596373779694328218, 4596373779694328218, 4596373779694328218, 0, 0, 0, 4596373779694328218, 4596373779694328218, 4596373779694328218, 4596373779694328218, 4596373779694328218, 4596373779694328218, 0, 0, 0, 4606281698874543309, 4606281698874543309, 4606281698874543309, 4606281698874543309, 4606281698874543309, 4606281698874543309, 4604480259023595110, 4604480259023595110, 4604480259023595110, 13815242216921733528, 13815242216921733528, 13815242216921733528, 13815242216921733528, 13815242216921733528, 13815242216921733528, 13822447976325526323, 13822447976325526323, 13822447976325526323, 13815242216921733528, 13815242216921733528, 13815242216921733528, 13815242216921733528, 13815242216921733528, 13815242216921733528, 13822447976325526323, 13822447976325526323, 13822447976325526323, 4596373779694328218, 4596373779694328218, 4596373779694328218, 4596373779694328218, 4596373779694328218, 4596373779694328218, 0, 0, 0, 4596373779694328218, 4596373779694328218, 4596373779694328218, 4596373779694328218, 4596373779694328218, 4596373779694328218, 0, 0, 0, 4596373779694328218, 4596373779694328218, 4596373779694328218, 4596373779694328218, 4596373779694328218, 4596373779694328218, 0, 0, 0, 4596373779694328218, 4596373779694328218, 4596373779694328218, 4596373779694328218, 4596373779694328218, 4596373779694328218, 0, 0, 0, 4606281698874543309, 4606281698874543309, 4606281698874543309, 4606281698874543309, 4606281698874543309, 4606281698874543309, 4604480259023595110, 4604480259023595110, 4604480259023595110, 13815242216921733528, 13815242216921733528, 13815242216921733528, 13815242216921733528, 13815242216921733528, 13815242216921733528, 13822447976325526323, 13822447976325526323, 13822447976325526323, 13815242216921733528, 13815242216921733528, 13815242216921733528, 13815242216921733528, 13815242216921733528, 13815242216921733528, 13822447976325526323, 13822447976325526323, 13822447976325526323, 4596373779694328218, 4596373779694328218, 4596373779694328218, 4596373779694328218, 4596373779694328218, 4596373779694328218, 0, 0, 0, 4596373779694328218, 4596373779694328218, 4596373779694328218, 4596373779694328218, 4596373779694328218, 4596373779694328218, 0, 0, 0, 4596373779694328218, 4596373779694328218, 4596373779694328218, 4596373779694328218, 4596373779694328218, 4596373779694328218, 0, 0, 0, 4596373779694328218, 4596373779694328218, 4596373779694328218, 4596373779694328218, 4596373779694328218, 4596373779694328218, 0, 0, 0]
noncomputable def k_X11_init : List Op := [fun nx jp cal => o_ald 0 (o_oinit (o_ald 0 (o_new 6 8 [.inr (.inl 0), .inr (.inl 0), .inr (.inl 0), .inr (.inl 0), .inr (.inl 0), .inr (.inl 0), .inr (.inl 0), .inl 0] (o_dup (o_invI 105 1 (o_putR 11 0 (o_ald 0 (o_new 1 5 [.inr (.inl 0), .inr (.inl 0), .inr (.inl 0), .inr (.inl 0), .inl 0] (o_dup (o_invI 64 1 (o_putR 11 1 (o_ald 0 (o_new 0 4 [.inl 0, .inl 0, .inl 0, .inl 0] (o_dup (o_invI 59 1 (o_putR 11 2 (o_ald 0 (o_new 2 4 [.inl 0, .inl 0, .inl 0, .inl 0] (o_dup (o_invI 72 1 (o_putR 11 3 (o_ald 0 (o_new 4 9 [.inr (.inl 0), .inr (.inl 0), .inr (.inl 0), .inr (.inl 0), .inl 0, .inl 0, .inl 0, .inl 0, .inl 0] (o_dup (o_invI 81 1 (o_putR 11 4 (o_ald 0 (o_new 5 11 [.inr (.inl 0), .inl 0, .inl 0, .inl 0, .inl 0, .inl 0, .inl 0, .inl 0, .inl 0, .inl 0, .inl 0] (o_dup (o_invI 93 1 (o_putR 11 5 (o_ald 0 (o_new 9 7 [.inr (.inl 0), .inr (.inl 0), .inr (.inl 0), .inr (.inl 0), .inl 0, .inl 0, .inl 0] (o_dup (o_invI 124 1 (o_putR 11 6 (o_ald 0 (o_new 10 8 [.inr (.inl 0), .inr (.inl 0), .inl 0, .inl 0, .inl 0, .inl 0, .inl 0, .inl 0] (o_dup (o_invI 126 1 (o_putR 11 7 (o_ret nx jp cal) jp cal) jp cal) jp cal) jp cal) jp cal) jp cal) jp cal) jp cal) jp cal) jp cal) jp cal) jp cal) jp cal) jp cal) jp cal) jp cal) jp cal) jp cal) jp cal) jp cal) jp cal) jp cal) jp cal) jp cal) jp cal) jp cal) jp cal) jp cal) jp cal) jp cal) jp cal) jp cal) jp cal) jp cal) jp cal) jp cal) jp cal) jp cal) jp cal) jp cal) jp cal) jp cal]
noncomputable def k_X11_allOut : List Op := [fun nx jp cal => o_ald 1 (o_get 8 0 (o_get 3 1 (o_if 2 p_le0 nx jp cal) jp cal) jp cal) jp cal,
  fun nx jp cal => o_ic 0 (o_iret nx jp cal) jp cal,
  o_no]
noncomputable def k_X11_arePursesRight : List Op := [fun nx jp cal => o_ic 0 (o_ist 0 nx jp cal) jp cal,
  fun nx jp cal => o_ild 1 (o_ald 0 (o_get 11 1 (o_get 1 4 (o_if2 6 p_ge nx jp cal) jp cal) jp cal) jp cal) jp cal,
  fun nx jp cal => o_ald 0 (o_get 11 1 (o_get 1 0 (o_ild 1 (o_invV 113 2 7 (o_ist 1 (o_ild 2 (o_if 4 p_lt0 nx jp cal) jp cal) jp cal) jp cal) jp cal) jp cal) jp cal) jp cal,
  fun nx jp cal => o_ild 2 (o_ic 200 (o_ald 0 (o_get 11 0 (o_ild 1 (o_invV 107 2 6 (o_bin f_sub (o_if2 5 p_eq nx jp cal) jp cal) jp cal) jp cal) jp cal) jp cal) jp cal) jp cal,
  o_no,
  fun nx jp cal => o_inc 1 1 (o_go 1 nx jp cal) jp cal,
  fun nx jp cal => o_ic 1 (o_bret 1 nx jp cal) jp cal]
noncomputable def k_X11_baseOf : List Op := [fun nx jp cal => o_ild 0 (o_ic 97 (o_if2 2 p_ne nx jp cal) jp cal) jp cal,
  o_no,
  fun nx jp cal => o_ild 0 (o_ic 98 (o_if2 4 p_ne nx jp cal) jp cal) jp cal,
  o_no,
  fun nx jp cal => o_ild 0 (o_ic 99 (o_if2 6 p_ne nx jp cal) jp cal) jp cal,
  fun nx jp cal => o_ic 10 (o_go 7 nx jp cal) jp cal,
  o_ic 0,
  o_iret]
noncomputable def k_X11_begin : List Op := [fun nx jp cal => o_ald 0 (o_ild 1 (o_invV 33 2 11 (o_ald 0 (o_ild 2 (o_invV 33 2 11 (o_ild 1 (o_ild 2 (o_if2 3 p_ne nx jp cal) jp cal) jp cal) jp cal) jp cal) jp cal) jp cal) jp cal) jp cal,
  o_thr 1,
  o_no,
  fun nx jp cal => o_ald 0 (o_get 11 0 (o_ild 1 (o_invV 109 2 6 (o_ald 0 (o_get 11 3 (o_get 2 0 (o_if2 5 p_lt nx jp cal) jp cal) jp cal) jp cal) jp cal) jp cal) jp cal) jp cal,
  fun nx jp cal => o_ald 0 (o_get 11 0 (o_ild 2 (o_invV 109 2 6 (o_ald 0 (o_get 11 3 (o_get 2 0 (o_if2 6 p_ge nx jp cal) jp cal) jp cal) jp cal) jp cal) jp cal) jp cal) jp cal,
  o_no,
  fun nx jp cal => o_ald 0 (o_get 11 4 (o_get 4 4 (o_if 8 p_ne0 nx jp cal) jp cal) jp cal) jp cal,
  fun nx jp cal => o_ald 0 (o_get 11 2 (o_invV 61 1 0 (o_if 10 p_eq0 nx jp cal) jp cal) jp cal) jp cal,
  o_thr 2,
  o_no,
  fun nx jp cal => o_ald 0 (o_get 11 4 (o_ild 3 (o_ald 0 (o_get 11 3 (o_get 2 3 (o_invV 92 3 4 (o_ald 0 (o_get 11 4 (o_get 4 0 (o_ald 0 (o_get 11 0 (o_ild 1 (o_ald 0 (o_get 11 3 (o_get 2 0 (o_invV 120 4 8 (o_ald 0 (o_get 11 4 (o_get 4 1 (o_ald 0 (o_get 11 0 (o_ild 2 (o_ald 0 (o_get 11 3 (o_get 2 0 (o_invV 120 4 8 (o_ald 0 (o_get 11 5 (o_invV 95 1 5 (o_ald 0 (o_get 11 4 (o_get 4 8 (o_iret nx jp cal) jp cal) jp cal) jp cal) jp cal) jp cal) jp cal) jp cal) jp cal) jp cal) jp cal) jp cal) jp cal) jp cal) jp cal) jp cal) jp cal) jp cal) jp cal) jp cal) jp cal) jp cal) jp cal) jp cal) jp cal) jp cal) jp cal) jp cal) jp cal) jp cal) jp cal) jp cal) jp cal) jp cal]
noncomputable def k_X11_benchAt : List Op := [fun nx jp cal => o_ald 0 (o_ild 1 (o_invV 38 2 11 (o_get 8 2 (o_ild 2 (o_invV 76 2 3 (o_invS 40 1 (o_iret nx jp cal) jp cal) jp cal) jp cal) jp cal) jp cal) jp cal) jp cal]
noncomputable def k_X11_bid : List Op := [fun nx jp cal => o_ald 0 (o_ild 1 (o_invV 33 2 11 (o_ald 0 (o_get 11 2 (o_invV 61 1 0 (o_if 2 p_ne0 nx jp cal) jp cal) jp cal) jp cal) jp cal) jp cal) jp cal,
  o_no,
  fun nx jp cal => o_ild 2 (o_ald 0 (o_invV 25 1 11 (o_if2 4 p_ge nx jp cal) jp cal) jp cal) jp cal,
  o_no,
  fun nx jp cal => o_ald 0 (o_get 11 2 (o_get 0 1 (o_ild 1 (o_if2 6 p_eq nx jp cal) jp cal) jp cal) jp cal) jp cal,
  fun nx jp cal => o_ald 0 (o_ild 1 (o_ild 2 (o_invV 9 3 11 (o_if 7 p_ne0 nx jp cal) jp cal) jp cal) jp cal) jp cal,
  o_no,
  fun nx jp cal => o_ald 0 (o_get 11 2 (o_ild 1 (o_ild 2 (o_invV 63 3 0 (o_ald 0 (o_get 11 2 (o_get 0 3 (o_iret nx jp cal) jp cal) jp cal) jp cal) jp cal) jp cal) jp cal) jp cal) jp cal]
noncomputable def k_X11_bonus : List Op := [fun nx jp cal => o_ald 0 (o_invV 31 1 11 (o_ald 0 (o_get 11 5 (o_get 5 8 (o_if 2 p_ne0 nx jp cal) jp cal) jp cal) jp cal) jp cal) jp cal,
  fun nx jp cal => o_ald 0 (o_get 11 5 (o_get 5 6 (o_ald 0 (o_get 11 3 (o_get 2 1 (o_if2 4 p_ge nx jp cal) jp cal) jp cal) jp cal) jp cal) jp cal) jp cal,
  o_thr 3,
  o_no,
  o_no]
noncomputable def k_X11_bringHome : List Op := [fun nx jp cal => o_ald 0 (o_get 11 4 (o_invV 86 1 4 (o_ast 0 (o_ald 0 (o_get 11 5 (o_ic 1 (o_putZ 5 3 (o_ald 0 (o_ald 1 (o_ald 0 (o_get 11 4 (o_invV 82 1 4 (o_invV 54 3 11 (o_ald 0 (o_get 11 5 (o_get 5 10 (o_ald 0 (o_get 11 5 (o_get 5 8 (o_bin f_add (o_ic 3 (o_if2 2 p_lt nx jp cal) jp cal) jp cal) jp cal) jp cal) jp cal) jp cal) jp cal) jp cal) jp cal) jp cal) jp cal) jp cal) jp cal) jp cal) jp cal) jp cal) jp cal) jp cal) jp cal) jp cal) jp cal) jp cal,
  fun nx jp cal => o_ald 0 (o_get 11 6 (o_get 9 2 (o_ald 0 (o_get 11 5 (o_get 5 5 (o_ic 1 (o_invV 111 3 7 nx jp cal) jp cal) jp cal) jp cal) jp cal) jp cal) jp cal) jp cal,
  fun nx jp cal => o_ald 0 (o_get 11 5 (o_invV 94 1 5 (o_if 4 p_le0 nx jp cal) jp cal) jp cal) jp cal,
  fun nx jp cal => o_ald 1 (o_ic 0 (o_putI 8 5 (o_ald 0 (o_ald 0 (o_get 11 5 (o_get 5 10 (o_ald 0 (o_get 11 5 (o_get 5 9 (o_bin f_add (o_ic 0 (o_ald 0 (o_get 11 5 (o_invV 94 1 5 (o_ic 0 (o_invV 13 5 11 (o_go 7 nx jp cal) jp cal) jp cal) jp cal) jp cal) jp cal) jp cal) jp cal) jp cal) jp cal) jp cal) jp cal) jp cal) jp cal) jp cal) jp cal) jp cal) jp cal,
  fun nx jp cal => o_ald 0 (o_get 11 5 (o_get 5 2 (o_if 6 p_eq0 nx jp cal) jp cal) jp cal) jp cal,
  fun nx jp cal => o_ald 1 (o_ic 0 (o_putI 8 5 (o_ald 1 (o_ald 0 (o_get 11 5 (o_get 5 5 (o_invV 118 2 8 (o_pop (o_ald 0 (o_get 11 4 (o_invV 82 1 4 (o_dup (o_get 8 4 (o_ic 1 (o_bin f_add (o_putI 8 4 (o_ald 0 (o_ic 0 (o_ic 1 (o_ic 1 (o_ic 1 (o_invV 13 5 11 (o_go 7 nx jp cal) jp cal) jp cal) jp cal) jp cal) jp cal) jp cal) jp cal) jp cal) jp cal) jp cal) jp cal) jp cal) jp cal) jp cal) jp cal) jp cal) jp cal) jp cal) jp cal) jp cal) jp cal) jp cal) jp cal,
  fun nx jp cal => o_ald 1 (o_dup (o_get 8 5 (o_ic 1 (o_bin f_add (o_putI 8 5 (o_ald 0 (o_ic 0 (o_ic 0 (o_ic 0 (o_ic 1 (o_invV 13 5 11 nx jp cal) jp cal) jp cal) jp cal) jp cal) jp cal) jp cal) jp cal) jp cal) jp cal) jp cal) jp cal,
  o_ret]
noncomputable def k_X11_canTake : List Op := [fun nx jp cal => o_ald 0 (o_get 11 0 (o_ild 1 (o_invV 109 2 6 (o_ic 12 (o_if2 3 p_ge nx jp cal) jp cal) jp cal) jp cal) jp cal) jp cal,
  fun nx jp cal => o_ild 2 (o_ald 0 (o_get 11 1 (o_get 1 0 (o_ild 1 (o_invV 113 2 7 (o_if2 3 p_gt nx jp cal) jp cal) jp cal) jp cal) jp cal) jp cal) jp cal,
  fun nx jp cal => o_ic 1 (o_go 4 nx jp cal) jp cal,
  o_no,
  o_bret 1]
noncomputable def k_X11_card : List Op := [fun nx jp cal => o_ald 0 (o_ild 1 (o_invV 30 2 11 (o_ild 2 (o_ic 103 (o_if2 5 p_eq nx jp cal) jp cal) jp cal) jp cal) jp cal) jp cal,
  fun nx jp cal => o_ild 2 (o_ic 121 (o_if2 5 p_eq nx jp cal) jp cal) jp cal,
  fun nx jp cal => o_ild 2 (o_ic 114 (o_if2 5 p_eq nx jp cal) jp cal) jp cal,
  o_thr 1,
  o_no,
  fun nx jp cal => o_ald 0 (o_invV 29 1 11 (o_ald 0 (o_get 11 4 (o_ild 1 (o_invV 91 2 4 (o_ast 2 (o_ild 2 (o_ic 103 (o_if2 8 p_ne nx jp cal) jp cal) jp cal) jp cal) jp cal) jp cal) jp cal) jp cal) jp cal) jp cal,
  fun nx jp cal => o_ald 0 (o_get 11 4 (o_get 4 2 (o_ild 1 (o_invV 113 2 7 (o_if 8 p_le0 nx jp cal) jp cal) jp cal) jp cal) jp cal) jp cal,
  fun nx jp cal => o_ic 121 (o_go 9 nx jp cal) jp cal,
  o_ild 2,
  fun nx jp cal => o_ist 3 (o_ald 3 (o_get 8 0 (o_get 3 1 (o_ic 1 (o_if2 11 p_ne nx jp cal) jp cal) jp cal) jp cal) jp cal) jp cal,
  o_no,
  fun nx jp cal => o_ic 0 (o_ist 4 (o_ald 3 (o_ild 1 (o_invV 119 2 8 (o_if 14 p_eq0 nx jp cal) jp cal) jp cal) jp cal) jp cal) jp cal,
  fun nx jp cal => o_ild 5 (o_if 16 p_eq0 nx jp cal) jp cal,
  o_no,
  o_thr 3,
  o_no,
  fun nx jp cal => o_ild 4 (o_ic 103 (o_if2 18 p_ne nx jp cal) jp cal) jp cal,
  fun nx jp cal => o_ald 0 (o_get 11 4 (o_get 4 2 (o_ild 1 (o_ic 1 (o_invV 114 3 7 (o_go 22 nx jp cal) jp cal) jp cal) jp cal) jp cal) jp cal) jp cal,
  fun nx jp cal => o_ald 3 (o_ild 1 (o_invV 123 2 8 (o_ald 0 (o_get 11 4 (o_get 4 3 (o_ild 1 (o_ild 4 (o_ic 121 (o_if2 20 p_ne nx jp cal) jp cal) jp cal) jp cal) jp cal) jp cal) jp cal) jp cal) jp cal) jp cal,
  fun nx jp cal => o_ic 4 (o_go 21 nx jp cal) jp cal,
  o_ic 4294967295,
  o_invV 114 3 7,
  fun nx jp cal => o_ild 4 (o_bret 65535 nx jp cal) jp cal]
noncomputable def k_X11_champion : List Op := [fun nx jp cal => o_ald 0 (o_get 11 1 (o_get 1 4 (o_ic 3 (o_if2 3 p_ge nx jp cal) jp cal) jp cal) jp cal) jp cal,
  o_thr 3,
  o_no,
  o_no]
noncomputable def k_X11_checksum : List Op := [fun nx jp cal => o_v (.inr (.inr (.inl 7))) (o_wst false 0 (o_ald 0 (o_get 11 4 (o_get 4 8 (o_if 2 p_ne0 nx jp cal) jp cal) jp cal) jp cal) jp cal) jp cal,
  fun nx jp cal => o_lld 1 (o_go 3 nx jp cal) jp cal,
  o_no,
  o_lret]
noncomputable def k_X11_closeRaid : List Op := [fun nx jp cal => o_ald 0 (o_get 11 4 (o_invV 86 1 4 (o_ast 4 (o_ald 0 (o_get 11 4 (o_invV 82 1 4 (o_ast 5 (o_ald 0 (o_get 11 3 (o_get 2 2 (o_if 2 p_eq0 nx jp cal) jp cal) jp cal) jp cal) jp cal) jp cal) jp cal) jp cal) jp cal) jp cal) jp cal) jp cal,
  fun nx jp cal => o_ald 5 (o_ild 1 (o_invV 122 2 8 (o_ald 6 (o_ild 2 (o_invV 122 2 8 nx jp cal) jp cal) jp cal) jp cal) jp cal) jp cal,
  fun nx jp cal => o_ald 0 (o_get 11 5 (o_ic 0 (o_putZ 5 1 (o_ald 0 (o_get 11 4 (o_dup (o_get 4 7 (o_ic 1 (o_bin f_add (o_putI 4 7 (o_ald 0 (o_invV 17 1 11 (o_ald 0 (o_ald 0 (o_get 11 4 (o_get 4 0 (o_ald 0 (o_get 11 4 (o_get 4 1 (o_invV 1 3 11 (o_ald 0 (o_ald 0 (o_get 11 4 (o_get 4 1 (o_ald 0 (o_get 11 4 (o_get 4 0 (o_invV 1 3 11 (o_bin f_add (o_ist 6 (o_ald 0 (o_get 11 5 (o_ild 7 (o_if 4 p_le0 nx jp cal) jp cal) jp cal) jp cal) jp cal) jp cal) jp cal) jp cal) jp cal) jp cal) jp cal) jp cal) jp cal) jp cal) jp cal) jp cal) jp cal) jp cal) jp cal) jp cal) jp cal) jp cal) jp cal) jp cal) jp cal) jp cal) jp cal) jp cal) jp cal) jp cal) jp cal) jp cal) jp cal) jp cal) jp cal,
  o_no,
  fun nx jp cal => o_ic 0 (o_putZ 5 4 (o_ald 0 (o_get 11 6 (o_ald 0 (o_get 11 5 (o_get 5 5 (o_ild 3 (o_ild 7 (o_bin f_add (o_ild 4 (o_invV 125 4 9 (o_ald 0 (o_get 11 4 (o_get 4 4 (o_if 7 p_eq0 nx jp cal) jp cal) jp cal) jp cal) jp cal) jp cal) jp cal) jp cal) jp cal) jp cal) jp cal) jp cal) jp cal) jp cal) jp cal) jp cal,
  fun nx jp cal => o_ald 0 (o_get 11 4 (o_invV 83 1 4 (o_if 7 p_eq0 nx jp cal) jp cal) jp cal) jp cal,
  fun nx jp cal => o_ald 0 (o_get 11 4 (o_ic 0 (o_putZ 4 4 nx jp cal) jp cal) jp cal) jp cal,
  fun nx jp cal => o_ald 0 (o_get 11 4 (o_get 4 4 (o_if 9 p_ne0 nx jp cal) jp cal) jp cal) jp cal,
  fun nx jp cal => o_ald 0 (o_get 11 1 (o_ald 0 (o_get 11 4 (o_get 4 0 (o_ald 0 (o_get 11 4 (o_get 4 1 (o_invV 66 3 1 nx jp cal) jp cal) jp cal) jp cal) jp cal) jp cal) jp cal) jp cal) jp cal,
  o_ret]
noncomputable def k_X11_comeBack : List Op := [fun nx jp cal => o_ald 0 (o_invV 31 1 11 (o_ald 0 (o_get 11 5 (o_ic 2 (o_invV 96 2 5 (o_if 2 p_ne0 nx jp cal) jp cal) jp cal) jp cal) jp cal) jp cal) jp cal,
  o_no,
  fun nx jp cal => o_ald 0 (o_invV 8 1 11 (o_ald 0 (o_get 11 5 (o_invV 94 1 5 (o_iret nx jp cal) jp cal) jp cal) jp cal) jp cal) jp cal]
noncomputable def k_X11_edition : List Op := [fun nx jp cal => o_ild 1 (o_ic 3 (o_if2 7 p_lt nx jp cal) jp cal) jp cal,
  fun nx jp cal => o_ild 1 (o_ic 7 (o_if2 7 p_gt nx jp cal) jp cal) jp cal,
  fun nx jp cal => o_ild 2 (o_ic 1 (o_if2 7 p_lt nx jp cal) jp cal) jp cal,
  fun nx jp cal => o_ild 2 (o_ic 7 (o_if2 7 p_gt nx jp cal) jp cal) jp cal,
  fun nx jp cal => o_ild 4 (o_ic 2 (o_if2 7 p_lt nx jp cal) jp cal) jp cal,
  fun nx jp cal => o_ild 4 (o_ic 20 (o_if2 7 p_gt nx jp cal) jp cal) jp cal,
  fun nx jp cal => o_ild 4 (o_ic 1 (o_bin f_and (o_if 9 p_eq0 nx jp cal) jp cal) jp cal) jp cal,
  o_thr 1,
  o_no,
  fun nx jp cal => o_ald 0 (o_get 11 4 (o_get 4 4 (o_if 11 p_eq0 nx jp cal) jp cal) jp cal) jp cal,
  o_no,
  fun nx jp cal => o_ald 0 (o_get 11 3 (o_get 2 0 (o_ist 4 (o_ald 0 (o_get 11 3 (o_ild 1 (o_ild 2 (o_ild 3 (o_ild 4 (o_invV 73 5 2 (o_ild 5 (o_iret nx jp cal) jp cal) jp cal) jp cal) jp cal) jp cal) jp cal) jp cal) jp cal) jp cal) jp cal) jp cal) jp cal]
noncomputable def k_X11_emptyShare : List Op := [fun nx jp cal => o_ald 0 (o_get 11 6 (o_get 9 4 (o_if 3 p_ne0 nx jp cal) jp cal) jp cal) jp cal,
  o_thr 5,
  o_no,
  fun nx jp cal => o_ald 0 (o_get 11 6 (o_get 9 5 (o_i2f (o_ald 0 (o_get 11 6 (o_get 9 4 (o_i2f (o_fdiv (o_fret nx jp cal) jp cal) jp cal) jp cal) jp cal) jp cal) jp cal) jp cal) jp cal) jp cal]
noncomputable def k_X11_endSittings : List Op := [fun nx jp cal => o_ic 0 (o_ist 0 nx jp cal) jp cal,
  fun nx jp cal => o_ild 1 (o_ald 0 (o_get 11 0 (o_get 6 7 (o_if2 7 p_ge nx jp cal) jp cal) jp cal) jp cal) jp cal,
  fun nx jp cal => o_ald 0 (o_get 11 4 (o_get 4 3 (o_ild 1 (o_invV 113 2 7 (o_ist 1 (o_ild 2 (o_if 4 p_le0 nx jp cal) jp cal) jp cal) jp cal) jp cal) jp cal) jp cal) jp cal,
  fun nx jp cal => o_ald 0 (o_get 11 4 (o_get 4 3 (o_ild 1 (o_ild 2 (o_ic 1 (o_bin f_sub (o_invV 114 3 7 nx jp cal) jp cal) jp cal) jp cal) jp cal) jp cal) jp cal) jp cal,
  fun nx jp cal => o_ild 2 (o_ic 1 (o_if2 6 p_ne nx jp cal) jp cal) jp cal,
  fun nx jp cal => o_ald 0 (o_get 11 4 (o_ald 0 (o_get 11 0 (o_get 6 4 (o_ild 1 (o_invV 113 2 7 (o_invV 90 2 4 (o_get 8 1 (o_ild 1 (o_invV 75 2 3 nx jp cal) jp cal) jp cal) jp cal) jp cal) jp cal) jp cal) jp cal) jp cal) jp cal) jp cal,
  fun nx jp cal => o_inc 1 1 (o_go 1 nx jp cal) jp cal,
  o_ret]
noncomputable def k_X11_goesOn : List Op := [fun nx jp cal => o_ald 0 (o_get 11 4 (o_get 4 4 (o_bret 1 nx jp cal) jp cal) jp cal) jp cal]
noncomputable def k_X11_isAbility : List Op := [fun nx jp cal => o_ild 0 (o_ic 1 (o_if2 3 p_lt nx jp cal) jp cal) jp cal,
  fun nx jp cal => o_ild 0 (o_ic 9 (o_if2 3 p_gt nx jp cal) jp cal) jp cal,
  fun nx jp cal => o_ic 1 (o_go 4 nx jp cal) jp cal,
  o_ic 0,
  o_bret 1]
noncomputable def k_X11_isEachInOnePlace : List Op := [fun nx jp cal => o_ald 0 (o_get 11 4 (o_get 4 4 (o_if 2 p_ne0 nx jp cal) jp cal) jp cal) jp cal,
  fun nx jp cal => o_ic 1 (o_bret 1 nx jp cal) jp cal,
  fun nx jp cal => o_ic 0 (o_ist 0 nx jp cal) jp cal,
  fun nx jp cal => o_ild 1 (o_ald 0 (o_get 11 0 (o_get 6 7 (o_if2 16 p_ge nx jp cal) jp cal) jp cal) jp cal) jp cal,
  fun nx jp cal => o_ald 0 (o_get 11 0 (o_get 6 4 (o_ild 1 (o_invV 113 2 7 (o_ist 1 (o_ild 2 (o_ald 0 (o_get 11 4 (o_get 4 0 (o_get 8 3 (o_if2 6 p_eq nx jp cal) jp cal) jp cal) jp cal) jp cal) jp cal) jp cal) jp cal) jp cal) jp cal) jp cal) jp cal,
  fun nx jp cal => o_ild 2 (o_ald 0 (o_get 11 4 (o_get 4 1 (o_get 8 3 (o_if2 7 p_ne nx jp cal) jp cal) jp cal) jp cal) jp cal) jp cal,
  fun nx jp cal => o_ic 1 (o_go 8 nx jp cal) jp cal,
  o_no,
  fun nx jp cal => o_ist 2 (o_ald 0 (o_get 11 4 (o_get 4 0 (o_ild 1 (o_invV 121 2 8 (o_ald 0 (o_get 11 4 (o_get 4 1 (o_ild 1 (o_invV 121 2 8 (o_bin f_add (o_ist 3 (o_ald 0 (o_get 11 4 (o_get 4 3 (o_ild 1 (o_invV 113 2 7 (o_if 10 p_eq0 nx jp cal) jp cal) jp cal) jp cal) jp cal) jp cal) jp cal) jp cal) jp cal) jp cal) jp cal) jp cal) jp cal) jp cal) jp cal) jp cal) jp cal) jp cal) jp cal,
  o_inc 4 1,
  fun nx jp cal => o_ild 4 (o_ild 3 (o_if 12 p_eq0 nx jp cal) jp cal) jp cal,
  fun nx jp cal => o_ic 1 (o_go 13 nx jp cal) jp cal,
  o_no,
  o_if2 15 p_eq,
  o_no,
  fun nx jp cal => o_inc 1 1 (o_go 3 nx jp cal) jp cal,
  fun nx jp cal => o_ic 1 (o_bret 1 nx jp cal) jp cal]
noncomputable def k_X11_isEachInOneSquad : List Op := [fun nx jp cal => o_ic 0 (o_ist 0 (o_ic 0 (o_ist 1 nx jp cal) jp cal) jp cal) jp cal,
  fun nx jp cal => o_ild 2 (o_ald 0 (o_get 11 1 (o_get 1 4 (o_if2 5 p_ge nx jp cal) jp cal) jp cal) jp cal) jp cal,
  fun nx jp cal => o_ald 0 (o_get 11 0 (o_ild 2 (o_invV 109 2 6 (o_ic 12 (o_if2 4 p_le nx jp cal) jp cal) jp cal) jp cal) jp cal) jp cal,
  o_no,
  fun nx jp cal => o_ild 1 (o_ald 0 (o_get 11 0 (o_ild 2 (o_invV 109 2 6 (o_bin f_add (o_ist 0 (o_inc 2 1 (o_go 1 nx jp cal) jp cal) jp cal) jp cal) jp cal) jp cal) jp cal) jp cal) jp cal,
  fun nx jp cal => o_ild 1 (o_ald 0 (o_get 11 0 (o_ic 4294967295 (o_invV 109 2 6 (o_bin f_add (o_ald 0 (o_get 11 0 (o_get 6 7 (o_if2 7 p_ne nx jp cal) jp cal) jp cal) jp cal) jp cal) jp cal) jp cal) jp cal) jp cal) jp cal,
  fun nx jp cal => o_ic 1 (o_go 8 nx jp cal) jp cal,
  o_no,
  o_bret 1]
noncomputable def k_X11_isTrue : List Op := [fun nx jp cal => o_ald 0 (o_invV 20 1 11 (o_if 5 p_eq0 nx jp cal) jp cal) jp cal,
  fun nx jp cal => o_ald 0 (o_invV 21 1 11 (o_if 5 p_eq0 nx jp cal) jp cal) jp cal,
  fun nx jp cal => o_ald 0 (o_invV 2 1 11 (o_if 5 p_eq0 nx jp cal) jp cal) jp cal,
  fun nx jp cal => o_ald 0 (o_get 11 7 (o_isb L1_isb L2_isb 0 0 (o_if 5 p_eq0 nx jp cal) jp cal) jp cal) jp cal,
  fun nx jp cal => o_ic 1 (o_go 6 nx jp cal) jp cal,
  o_no,
  o_bret 1]
noncomputable def k_X11_knockDown : List Op := [fun nx jp cal => o_ald 0 (o_get 11 2 (o_invV 61 1 0 (o_if 3 p_ne0 nx jp cal) jp cal) jp cal) jp cal,
  o_thr 2,
  o_no,
  fun nx jp cal => o_ald 0 (o_get 11 2 (o_get 0 1 (o_ist 0 (o_ild 1 (o_ic 4294967295 (o_if2 5 p_eq nx jp cal) jp cal) jp cal) jp cal) jp cal) jp cal) jp cal,
  fun nx jp cal => o_ald 0 (o_ald 0 (o_get 11 2 (o_get 0 0 (o_ild 1 (o_ald 0 (o_get 11 2 (o_get 0 2 (o_invV 48 4 11 nx jp cal) jp cal) jp cal) jp cal) jp cal) jp cal) jp cal) jp cal) jp cal,
  fun nx jp cal => o_ald 0 (o_get 11 2 (o_invV 60 1 0 (o_ild 1 (o_iret nx jp cal) jp cal) jp cal) jp cal) jp cal]
noncomputable def k_X11_league : List Op := [fun nx jp cal => o_ald 0 (o_ild 1 (o_invV 33 2 11 (o_ald 0 (o_get 11 1 (o_get 1 2 (o_ild 1 (o_invV 113 2 7 (o_iret nx jp cal) jp cal) jp cal) jp cal) jp cal) jp cal) jp cal) jp cal) jp cal]
noncomputable def k_X11_lowestBid : List Op := [fun nx jp cal => o_ald 0 (o_get 11 2 (o_get 0 3 (o_if 2 p_ne0 nx jp cal) jp cal) jp cal) jp cal,
  fun nx jp cal => o_ald 0 (o_get 11 0 (o_get 6 3 (o_ald 0 (o_get 11 2 (o_get 0 0 (o_invV 113 2 7 (o_go 3 nx jp cal) jp cal) jp cal) jp cal) jp cal) jp cal) jp cal) jp cal,
  o_no,
  o_iret]
noncomputable def k_X11_matAt : List Op := [fun nx jp cal => o_ald 0 (o_ild 1 (o_invV 38 2 11 (o_get 8 0 (o_ild 2 (o_invV 76 2 3 (o_invS 40 1 (o_iret nx jp cal) jp cal) jp cal) jp cal) jp cal) jp cal) jp cal) jp cal]
noncomputable def k_X11_match : List Op := [fun nx jp cal => o_ald 0 (o_ild 1 (o_invV 33 2 11 (o_no nx jp cal) jp cal) jp cal) jp cal]
noncomputable def k_X11_meanPoints : List Op := [fun nx jp cal => o_ald 0 (o_get 11 6 (o_get 9 4 (o_if 3 p_ne0 nx jp cal) jp cal) jp cal) jp cal,
  o_thr 5,
  o_no,
  fun nx jp cal => o_ald 0 (o_get 11 6 (o_get 9 6 (o_i2d (o_ald 0 (o_get 11 6 (o_get 9 4 (o_i2d (o_dbin (FP.Core.div FP.Core.b64) (o_dret nx jp cal) jp cal) jp cal) jp cal) jp cal) jp cal) jp cal) jp cal) jp cal) jp cal]
noncomputable def k_X11_needPause : List Op := [fun nx jp cal => o_ald 0 (o_get 11 4 (o_get 4 4 (o_if 2 p_eq0 nx jp cal) jp cal) jp cal) jp cal,
  fun nx jp cal => o_ald 0 (o_get 11 5 (o_get 5 1 (o_if 4 p_eq0 nx jp cal) jp cal) jp cal) jp cal,
  o_thr 2,
  o_no,
  o_ret]
noncomputable def k_X11_needPlayer : List Op := [fun nx jp cal => o_ild 1 (o_if 2 p_lt0 nx jp cal) jp cal,
  fun nx jp cal => o_ild 1 (o_ald 0 (o_get 11 0 (o_get 6 7 (o_if2 4 p_lt nx jp cal) jp cal) jp cal) jp cal) jp cal,
  o_thr 0,
  o_no,
  o_ret]
noncomputable def k_X11_needRaid : List Op := [fun nx jp cal => o_ald 0 (o_get 11 5 (o_get 5 1 (o_if 3 p_ne0 nx jp cal) jp cal) jp cal) jp cal,
  o_thr 2,
  o_no,
  o_ret]
noncomputable def k_X11_needSide : List Op := [fun nx jp cal => o_ild 0 (o_if 4 p_eq0 nx jp cal) jp cal,
  fun nx jp cal => o_ild 0 (o_ic 1 (o_if2 4 p_eq nx jp cal) jp cal) jp cal,
  o_thr 1,
  o_no,
  o_ret]
noncomputable def k_X11_needSquad : List Op := [fun nx jp cal => o_ild 1 (o_if 2 p_lt0 nx jp cal) jp cal,
  fun nx jp cal => o_ild 1 (o_ald 0 (o_get 11 1 (o_get 1 4 (o_if2 4 p_lt nx jp cal) jp cal) jp cal) jp cal) jp cal,
  o_thr 0,
  o_no,
  o_ret]
noncomputable def k_X11_onMat : List Op := [fun nx jp cal => o_ald 0 (o_ild 1 (o_invV 38 2 11 (o_get 8 0 (o_get 3 1 (o_iret nx jp cal) jp cal) jp cal) jp cal) jp cal) jp cal]
noncomputable def k_X11_outAt : List Op := [fun nx jp cal => o_ald 0 (o_ild 1 (o_invV 38 2 11 (o_get 8 1 (o_ild 2 (o_invV 76 2 3 (o_invS 40 1 (o_iret nx jp cal) jp cal) jp cal) jp cal) jp cal) jp cal) jp cal) jp cal]
noncomputable def k_X11_placed : List Op := [fun nx jp cal => o_ild 1 (o_if 2 p_lt0 nx jp cal) jp cal,
  fun nx jp cal => o_ild 1 (o_ald 0 (o_get 11 1 (o_get 1 4 (o_if2 4 p_lt nx jp cal) jp cal) jp cal) jp cal) jp cal,
  o_thr 4,
  o_no,
  fun nx jp cal => o_ald 0 (o_get 11 1 (o_ild 1 (o_invV 70 2 1 (o_iret nx jp cal) jp cal) jp cal) jp cal) jp cal]
noncomputable def k_X11_player : List Op := [fun nx jp cal => o_ild 1 (o_invS 19 1 (o_if 4 p_eq0 nx jp cal) jp cal) jp cal,
  fun nx jp cal => o_ild 2 (o_invS 19 1 (o_if 4 p_eq0 nx jp cal) jp cal) jp cal,
  fun nx jp cal => o_ild 3 (o_invS 19 1 (o_if 4 p_eq0 nx jp cal) jp cal) jp cal,
  fun nx jp cal => o_ild 4 (o_invS 3 1 (o_if 6 p_ne0 nx jp cal) jp cal) jp cal,
  o_thr 1,
  o_no,
  fun nx jp cal => o_ald 0 (o_get 11 0 (o_get 6 7 (o_ic 40 (o_if2 8 p_lt nx jp cal) jp cal) jp cal) jp cal) jp cal,
  o_no,
  fun nx jp cal => o_ald 0 (o_get 11 0 (o_ild 1 (o_ild 2 (o_ild 3 (o_ild 4 (o_invS 3 1 (o_invV 106 5 6 (o_iret nx jp cal) jp cal) jp cal) jp cal) jp cal) jp cal) jp cal) jp cal) jp cal]
noncomputable def k_X11_playingSide : List Op := [fun nx jp cal => o_ild 1 (o_invS 32 1 (o_ald 0 (o_get 11 4 (o_get 4 4 (o_if 3 p_ne0 nx jp cal) jp cal) jp cal) jp cal) jp cal) jp cal,
  o_thr 2,
  o_no,
  fun nx jp cal => o_ald 0 (o_get 11 4 (o_ild 1 (o_invV 87 2 4 (o_aret nx jp cal) jp cal) jp cal) jp cal) jp cal]
noncomputable def k_X11_points : List Op := [fun nx jp cal => o_ild 1 (o_invS 32 1 (o_ald 0 (o_get 11 4 (o_ild 1 (o_invV 87 2 4 (o_get 8 4 (o_iret nx jp cal) jp cal) jp cal) jp cal) jp cal) jp cal) jp cal) jp cal]
noncomputable def k_X11_present : List Op := [fun nx jp cal => o_ild 0 (o_ic 4294967295 (o_if2 3 p_ne nx jp cal) jp cal) jp cal,
  o_thr 4,
  o_no,
  fun nx jp cal => o_ild 0 (o_iret nx jp cal) jp cal]
noncomputable def k_X11_purse : List Op := [fun nx jp cal => o_ald 0 (o_ild 1 (o_invV 33 2 11 (o_ald 0 (o_get 11 1 (o_get 1 0 (o_ild 1 (o_invV 113 2 7 (o_iret nx jp cal) jp cal) jp cal) jp cal) jp cal) jp cal) jp cal) jp cal) jp cal]
noncomputable def k_X11_putRight : List Op := [fun nx jp cal => o_ald 0 (o_get 11 4 (o_invV 84 1 4 (o_ast 1 (o_ald 0 (o_get 11 5 (o_ild 1 (o_invV 97 2 5 (o_if 2 p_eq0 nx jp cal) jp cal) jp cal) jp cal) jp cal) jp cal) jp cal) jp cal) jp cal,
  fun nx jp cal => o_ald 2 (o_ild 1 (o_invV 117 2 8 (o_ald 0 (o_get 11 4 (o_invV 85 1 4 (o_dup (o_get 8 4 (o_ic 1 (o_bin f_sub (o_putI 8 4 (o_go 3 nx jp cal) jp cal) jp cal) jp cal) jp cal) jp cal) jp cal) jp cal) jp cal) jp cal) jp cal) jp cal,
  fun nx jp cal => o_ald 2 (o_ild 1 (o_invV 118 2 8 (o_pop (o_ald 0 (o_get 11 4 (o_invV 85 1 4 (o_dup (o_get 8 4 (o_ic 1 (o_bin f_add (o_putI 8 4 nx jp cal) jp cal) jp cal) jp cal) jp cal) jp cal) jp cal) jp cal) jp cal) jp cal) jp cal) jp cal,
  o_ret]
noncomputable def k_X11_putUp : List Op := [fun nx jp cal => o_ald 0 (o_ild 1 (o_invV 30 2 11 (o_ald 0 (o_get 11 0 (o_get 6 4 (o_ild 1 (o_invV 113 2 7 (o_ic 4294967295 (o_if2 2 p_ne nx jp cal) jp cal) jp cal) jp cal) jp cal) jp cal) jp cal) jp cal) jp cal) jp cal,
  fun nx jp cal => o_ald 0 (o_get 11 4 (o_get 4 4 (o_if 4 p_eq0 nx jp cal) jp cal) jp cal) jp cal,
  o_thr 3,
  o_no,
  fun nx jp cal => o_ald 0 (o_get 11 2 (o_invV 61 1 0 (o_if 6 p_eq0 nx jp cal) jp cal) jp cal) jp cal,
  o_no,
  fun nx jp cal => o_ald 0 (o_get 11 2 (o_ild 1 (o_invV 62 2 0 (o_ald 0 (o_get 11 0 (o_get 6 3 (o_ild 1 (o_invV 113 2 7 (o_iret nx jp cal) jp cal) jp cal) jp cal) jp cal) jp cal) jp cal) jp cal) jp cal) jp cal]
noncomputable def k_X11_raid : List Op := [fun nx jp cal => o_ald 0 (o_ild 1 (o_invV 30 2 11 (o_ald 0 (o_invV 29 1 11 (o_ald 0 (o_get 11 4 (o_invV 86 1 4 (o_get 8 0 (o_ild 1 (o_invV 78 2 3 (o_if 2 p_ne0 nx jp cal) jp cal) jp cal) jp cal) jp cal) jp cal) jp cal) jp cal) jp cal) jp cal) jp cal) jp cal,
  o_no,
  fun nx jp cal => o_ald 0 (o_get 11 5 (o_ild 1 (o_ald 0 (o_get 11 4 (o_invV 82 1 4 (o_get 8 0 (o_get 3 1 (o_ald 0 (o_get 11 4 (o_invV 86 1 4 (o_get 8 5 (o_ic 2 (o_if2 4 p_ne nx jp cal) jp cal) jp cal) jp cal) jp cal) jp cal) jp cal) jp cal) jp cal) jp cal) jp cal) jp cal) jp cal) jp cal,
  fun nx jp cal => o_ic 1 (o_go 5 nx jp cal) jp cal,
  o_ic 0,
  fun nx jp cal => o_invV 104 4 5 (o_ald 0 (o_get 11 5 (o_get 5 2 (o_bret 1 nx jp cal) jp cal) jp cal) jp cal) jp cal]
noncomputable def k_X11_raids : List Op := [fun nx jp cal => o_ald 0 (o_get 11 4 (o_get 4 7 (o_iret nx jp cal) jp cal) jp cal) jp cal]
noncomputable def k_X11_review : List Op := [fun nx jp cal => o_ald 0 (o_ild 2 (o_invV 30 2 11 (o_ild 1 (o_invS 32 1 (o_ald 0 (o_invV 29 1 11 (o_ald 0 (o_get 11 5 (o_get 5 3 (o_if 2 p_eq0 nx jp cal) jp cal) jp cal) jp cal) jp cal) jp cal) jp cal) jp cal) jp cal) jp cal) jp cal,
  fun nx jp cal => o_ald 0 (o_get 11 5 (o_get 5 4 (o_if 4 p_eq0 nx jp cal) jp cal) jp cal) jp cal,
  o_thr 2,
  o_no,
  fun nx jp cal => o_ald 0 (o_get 11 4 (o_ild 1 (o_invV 87 2 4 (o_get 8 7 (o_if 7 p_eq0 nx jp cal) jp cal) jp cal) jp cal) jp cal) jp cal,
  fun nx jp cal => o_ald 0 (o_get 11 5 (o_ild 2 (o_invV 98 2 5 (o_if 7 p_eq0 nx jp cal) jp cal) jp cal) jp cal) jp cal,
  fun nx jp cal => o_ald 0 (o_ild 2 (o_invV 58 2 11 (o_if 9 p_eq0 nx jp cal) jp cal) jp cal) jp cal,
  o_thr 3,
  o_no,
  fun nx jp cal => o_ald 0 (o_get 11 5 (o_ild 2 (o_invV 101 2 5 (o_ald 0 (o_get 11 5 (o_ild 2 (o_invV 100 2 5 (o_if 11 p_ne0 nx jp cal) jp cal) jp cal) jp cal) jp cal) jp cal) jp cal) jp cal) jp cal,
  fun nx jp cal => o_ald 0 (o_get 11 4 (o_ild 1 (o_invV 87 2 4 (o_ic 0 (o_putZ 8 7 (o_ic 0 (o_bret 1 nx jp cal) jp cal) jp cal) jp cal) jp cal) jp cal) jp cal) jp cal,
  fun nx jp cal => o_ald 0 (o_ild 2 (o_invV 42 2 11 (o_ic 1 (o_bret 1 nx jp cal) jp cal) jp cal) jp cal) jp cal]
noncomputable def k_X11_season : List Op := [fun nx jp cal => o_ald 0 (o_get 11 4 (o_get 4 4 (o_if 2 p_ne0 nx jp cal) jp cal) jp cal) jp cal,
  fun nx jp cal => o_ald 0 (o_get 11 2 (o_invV 61 1 0 (o_if 4 p_eq0 nx jp cal) jp cal) jp cal) jp cal,
  o_thr 2,
  o_no,
  fun nx jp cal => o_ald 0 (o_get 11 1 (o_invV 71 1 1 (o_ald 0 (o_get 11 0 (o_invV 108 1 6 (o_iret nx jp cal) jp cal) jp cal) jp cal) jp cal) jp cal) jp cal]
noncomputable def k_X11_sell : List Op := [fun nx jp cal => o_ald 0 (o_get 11 0 (o_get 6 4 (o_ild 1 (o_ild 2 (o_invV 114 3 7 (o_ald 0 (o_get 11 0 (o_get 6 6 (o_ild 1 (o_ild 3 (o_invV 114 3 7 (o_ald 0 (o_get 11 1 (o_get 1 0 (o_ild 2 (o_ild 3 (o_un f_neg (o_invV 111 3 7 (o_ret nx jp cal) jp cal) jp cal) jp cal) jp cal) jp cal) jp cal) jp cal) jp cal) jp cal) jp cal) jp cal) jp cal) jp cal) jp cal) jp cal) jp cal) jp cal) jp cal) jp cal]
noncomputable def k_X11_squad : List Op := [fun nx jp cal => o_ald 0 (o_get 11 1 (o_get 1 4 (o_ic 4 (o_if2 2 p_lt nx jp cal) jp cal) jp cal) jp cal) jp cal,
  o_no,
  fun nx jp cal => o_ald 0 (o_get 11 1 (o_invV 65 1 1 (o_iret nx jp cal) jp cal) jp cal) jp cal]
noncomputable def k_X11_squadOf : List Op := [fun nx jp cal => o_ald 0 (o_ild 1 (o_invV 30 2 11 (o_ald 0 (o_get 11 0 (o_get 6 4 (o_ild 1 (o_invV 113 2 7 (o_iret nx jp cal) jp cal) jp cal) jp cal) jp cal) jp cal) jp cal) jp cal) jp cal]
noncomputable def k_X11_stepOut : List Op := [fun nx jp cal => o_ald 0 (o_ild 1 (o_invV 30 2 11 (o_no nx jp cal) jp cal) jp cal) jp cal]
noncomputable def k_X11_struggle : List Op := [fun nx jp cal => o_ald 0 (o_invV 31 1 11 (o_no nx jp cal) jp cal) jp cal]
noncomputable def k_X11_substitute : List Op := [fun nx jp cal => o_ald 0 (o_ild 1 (o_invV 30 2 11 (o_ald 0 (o_ild 2 (o_invV 30 2 11 (o_ald 0 (o_invV 29 1 11 (o_ald 0 (o_get 11 4 (o_ild 1 (o_invV 91 2 4 (o_ast 2 (o_ald 3 (o_get 8 0 (o_ild 1 (o_invV 78 2 3 (o_if 3 p_eq0 nx jp cal) jp cal) jp cal) jp cal) jp cal) jp cal) jp cal) jp cal) jp cal) jp cal) jp cal) jp cal) jp cal) jp cal) jp cal) jp cal) jp cal) jp cal,
  fun nx jp cal => o_ald 3 (o_get 8 2 (o_ild 2 (o_invV 78 2 3 (o_if 3 p_eq0 nx jp cal) jp cal) jp cal) jp cal) jp cal,
  fun nx jp cal => o_ald 3 (o_get 8 6 (o_ic 5 (o_if2 5 p_lt nx jp cal) jp cal) jp cal) jp cal,
  o_thr 3,
  o_no,
  fun nx jp cal => o_ald 3 (o_ild 1 (o_ild 2 (o_invV 116 3 8 (o_ald 3 (o_get 8 6 (o_iret nx jp cal) jp cal) jp cal) jp cal) jp cal) jp cal) jp cal]
noncomputable def k_X11_takeTouched : List Op := [fun nx jp cal => o_ic 0 (o_ist 2 nx jp cal) jp cal,
  fun nx jp cal => o_ild 3 (o_ald 0 (o_get 11 0 (o_get 6 7 (o_if2 6 p_ge nx jp cal) jp cal) jp cal) jp cal) jp cal,
  fun nx jp cal => o_ald 0 (o_get 11 5 (o_ild 3 (o_invV 97 2 5 (o_if 5 p_eq0 nx jp cal) jp cal) jp cal) jp cal) jp cal,
  fun nx jp cal => o_ald 2 (o_ild 3 (o_invV 118 2 8 (o_if 5 p_eq0 nx jp cal) jp cal) jp cal) jp cal,
  fun nx jp cal => o_ald 0 (o_get 11 5 (o_dup (o_get 5 10 (o_ic 1 (o_bin f_add (o_putI 5 10 nx jp cal) jp cal) jp cal) jp cal) jp cal) jp cal) jp cal,
  fun nx jp cal => o_inc 3 1 (o_go 1 nx jp cal) jp cal,
  fun nx jp cal => o_ald 1 (o_dup (o_get 8 4 (o_ald 0 (o_get 11 5 (o_get 5 10 (o_bin f_add (o_putI 8 4 (o_ald 0 (o_get 11 6 (o_get 9 0 (o_ald 0 (o_get 11 5 (o_get 5 5 (o_ald 0 (o_get 11 5 (o_get 5 10 (o_invV 111 3 7 (o_ret nx jp cal) jp cal) jp cal) jp cal) jp cal) jp cal) jp cal) jp cal) jp cal) jp cal) jp cal) jp cal) jp cal) jp cal) jp cal) jp cal) jp cal) jp cal) jp cal]
noncomputable def k_X11_told : List Op := [fun nx jp cal => o_ald 0 (o_ild 1 (o_invV 30 2 11 (o_ild 2 (o_ic 114 (o_if2 2 p_ne nx jp cal) jp cal) jp cal) jp cal) jp cal) jp cal,
  fun nx jp cal => o_ald 0 (o_get 11 6 (o_get 9 0 (o_ild 1 (o_invV 113 2 7 (o_iret nx jp cal) jp cal) jp cal) jp cal) jp cal) jp cal,
  fun nx jp cal => o_ild 2 (o_ic 116 (o_if2 4 p_ne nx jp cal) jp cal) jp cal,
  fun nx jp cal => o_ald 0 (o_get 11 6 (o_get 9 1 (o_ild 1 (o_invV 113 2 7 (o_iret nx jp cal) jp cal) jp cal) jp cal) jp cal) jp cal,
  fun nx jp cal => o_ild 2 (o_ic 115 (o_if2 6 p_ne nx jp cal) jp cal) jp cal,
  fun nx jp cal => o_ald 0 (o_get 11 6 (o_get 9 2 (o_ild 1 (o_invV 113 2 7 (o_iret nx jp cal) jp cal) jp cal) jp cal) jp cal) jp cal,
  fun nx jp cal => o_ild 2 (o_ic 110 (o_if2 8 p_ne nx jp cal) jp cal) jp cal,
  fun nx jp cal => o_ald 0 (o_get 11 6 (o_get 9 3 (o_ild 1 (o_invV 113 2 7 (o_iret nx jp cal) jp cal) jp cal) jp cal) jp cal) jp cal,
  o_no]
noncomputable def k_X11_touch : List Op := [fun nx jp cal => o_ald 0 (o_ild 1 (o_invV 30 2 11 (o_ald 0 (o_invV 31 1 11 (o_ald 0 (o_get 11 4 (o_invV 82 1 4 (o_get 8 0 (o_ild 1 (o_invV 78 2 3 (o_if 2 p_eq0 nx jp cal) jp cal) jp cal) jp cal) jp cal) jp cal) jp cal) jp cal) jp cal) jp cal) jp cal) jp cal,
  fun nx jp cal => o_ald 0 (o_get 11 5 (o_ild 1 (o_invV 99 2 5 (o_if 4 p_eq0 nx jp cal) jp cal) jp cal) jp cal) jp cal,
  o_thr 3,
  o_no,
  fun nx jp cal => o_ald 0 (o_get 11 0 (o_get 6 1 (o_ald 0 (o_get 11 5 (o_get 5 5 (o_invV 113 2 7 (o_ic 7 (o_if2 6 p_lt nx jp cal) jp cal) jp cal) jp cal) jp cal) jp cal) jp cal) jp cal) jp cal,
  fun nx jp cal => o_ic 2 (o_go 7 nx jp cal) jp cal,
  o_no,
  fun nx jp cal => o_ist 3 (o_ald 0 (o_get 11 5 (o_ild 4 (o_invV 96 2 5 (o_if 9 p_ne0 nx jp cal) jp cal) jp cal) jp cal) jp cal) jp cal,
  o_no,
  fun nx jp cal => o_ald 0 (o_get 11 5 (o_ild 1 (o_ild 2 (o_ild 3 (o_invV 102 4 5 (o_ald 0 (o_get 11 5 (o_ild 4 (o_invV 103 2 5 (o_iret nx jp cal) jp cal) jp cal) jp cal) jp cal) jp cal) jp cal) jp cal) jp cal) jp cal) jp cal]
noncomputable def k_X11_turn : List Op := [fun nx jp cal => o_ald 0 (o_get 11 4 (o_get 4 4 (o_if 3 p_ne0 nx jp cal) jp cal) jp cal) jp cal,
  o_thr 2,
  o_no,
  fun nx jp cal => o_ald 0 (o_get 11 4 (o_invV 88 1 4 (o_iret nx jp cal) jp cal) jp cal) jp cal]
noncomputable def k_X11_wouldEmptyMat : List Op := [fun nx jp cal => o_ald 0 (o_get 11 4 (o_invV 84 1 4 (o_ast 1 (o_ald 0 (o_get 11 5 (o_ild 1 (o_invV 100 2 5 (o_if 4 p_eq0 nx jp cal) jp cal) jp cal) jp cal) jp cal) jp cal) jp cal) jp cal) jp cal,
  fun nx jp cal => o_ald 0 (o_get 11 5 (o_ild 1 (o_invV 97 2 5 (o_if 4 p_ne0 nx jp cal) jp cal) jp cal) jp cal) jp cal,
  fun nx jp cal => o_ald 2 (o_get 8 0 (o_get 3 1 (o_ic 1 (o_if2 4 p_ne nx jp cal) jp cal) jp cal) jp cal) jp cal,
  o_no,
  fun nx jp cal => o_ic 0 (o_bret 1 nx jp cal) jp cal]
noncomputable def k_X0_init : List Op := [fun nx jp cal => o_ald 0 (o_oinit (o_ald 0 (o_ic 4294967295 (o_putI 0 0 (o_ald 0 (o_ic 4294967295 (o_putI 0 1 (o_ret nx jp cal) jp cal) jp cal) jp cal) jp cal) jp cal) jp cal) jp cal) jp cal]
noncomputable def k_X0_close : List Op := [fun nx jp cal => o_ald 0 (o_ic 4294967295 (o_invV 62 2 0 (o_ret nx jp cal) jp cal) jp cal) jp cal]
noncomputable def k_X0_isOpen : List Op := [fun nx jp cal => o_ald 0 (o_get 0 0 (o_ic 4294967295 (o_if2 2 p_eq nx jp cal) jp cal) jp cal) jp cal,
  fun nx jp cal => o_ic 1 (o_go 3 nx jp cal) jp cal,
  o_ic 0,
  o_bret 1]
noncomputable def k_X0_open : List Op := [fun nx jp cal => o_ald 0 (o_ild 1 (o_putI 0 0 (o_ald 0 (o_ic 4294967295 (o_putI 0 1 (o_ald 0 (o_ic 0 (o_putI 0 2 (o_ald 0 (o_ic 0 (o_putI 0 3 (o_ret nx jp cal) jp cal) jp cal) jp cal) jp cal) jp cal) jp cal) jp cal) jp cal) jp cal) jp cal) jp cal) jp cal]
noncomputable def k_X0_take : List Op := [fun nx jp cal => o_ald 0 (o_ild 1 (o_putI 0 1 (o_ald 0 (o_ild 2 (o_putI 0 2 (o_ald 0 (o_dup (o_get 0 3 (o_ic 1 (o_bin f_add (o_putI 0 3 (o_ret nx jp cal) jp cal) jp cal) jp cal) jp cal) jp cal) jp cal) jp cal) jp cal) jp cal) jp cal) jp cal) jp cal]
noncomputable def k_X1_init : List Op := [fun nx jp cal => o_ald 0 (o_oinit (o_ald 0 (o_new 7 1 [.inr (.inl 0)] (o_dup (o_ic 4 (o_invI 110 2 (o_putR 1 0 (o_ald 0 (o_new 7 1 [.inr (.inl 0)] (o_dup (o_ic 4 (o_invI 110 2 (o_putR 1 1 (o_ald 0 (o_new 7 1 [.inr (.inl 0)] (o_dup (o_ic 4 (o_invI 110 2 (o_putR 1 2 (o_ald 0 (o_new 7 1 [.inr (.inl 0)] (o_dup (o_ic 4 (o_invI 110 2 (o_putR 1 3 (o_ret nx jp cal) jp cal) jp cal) jp cal) jp cal) jp cal) jp cal) jp cal) jp cal) jp cal) jp cal) jp cal) jp cal) jp cal) jp cal) jp cal) jp cal) jp cal) jp cal) jp cal) jp cal) jp cal) jp cal) jp cal) jp cal) jp cal) jp cal]
noncomputable def k_X1_enter : List Op := [fun nx jp cal => o_ald 0 (o_get 1 4 (o_ist 0 (o_ald 0 (o_get 1 0 (o_ild 1 (o_ic 200 (o_invV 114 3 7 (o_ald 0 (o_dup (o_get 1 4 (o_ic 1 (o_bin f_add (o_putI 1 4 (o_ild 1 (o_iret nx jp cal) jp cal) jp cal) jp cal) jp cal) jp cal) jp cal) jp cal) jp cal) jp cal) jp cal) jp cal) jp cal) jp cal) jp cal) jp cal]
noncomputable def k_X1_enterResult : List Op := [fun nx jp cal => o_ald 0 (o_ald 1 (o_get 8 3 (o_ald 1 (o_get 8 4 (o_ald 2 (o_get 8 4 (o_bin f_sub (o_invV 67 3 1 (o_ald 0 (o_ald 2 (o_get 8 3 (o_ald 2 (o_get 8 4 (o_ald 1 (o_get 8 4 (o_bin f_sub (o_invV 67 3 1 (o_ret nx jp cal) jp cal) jp cal) jp cal) jp cal) jp cal) jp cal) jp cal) jp cal) jp cal) jp cal) jp cal) jp cal) jp cal) jp cal) jp cal) jp cal) jp cal) jp cal]
noncomputable def k_X1_enterResultOf : List Op := [fun nx jp cal => o_ald 0 (o_get 1 3 (o_ild 1 (o_ild 2 (o_invV 111 3 7 (o_ild 2 (o_if 2 p_le0 nx jp cal) jp cal) jp cal) jp cal) jp cal) jp cal) jp cal,
  o_no,
  fun nx jp cal => o_ild 2 (o_if 4 p_ne0 nx jp cal) jp cal,
  fun nx jp cal => o_ald 0 (o_get 1 2 (o_ild 1 (o_ic 3 (o_invV 111 3 7 (o_go 5 nx jp cal) jp cal) jp cal) jp cal) jp cal) jp cal,
  o_no,
  o_ret]
noncomputable def k_X1_isBetter : List Op := [fun nx jp cal => o_ald 0 (o_get 1 2 (o_ild 1 (o_invV 113 2 7 (o_ald 0 (o_get 1 2 (o_ild 2 (o_invV 113 2 7 (o_if2 2 p_eq nx jp cal) jp cal) jp cal) jp cal) jp cal) jp cal) jp cal) jp cal) jp cal,
  o_no,
  fun nx jp cal => o_ald 0 (o_get 1 3 (o_ild 1 (o_invV 113 2 7 (o_ald 0 (o_get 1 3 (o_ild 2 (o_invV 113 2 7 (o_if2 4 p_eq nx jp cal) jp cal) jp cal) jp cal) jp cal) jp cal) jp cal) jp cal) jp cal,
  o_no,
  fun nx jp cal => o_ild 1 (o_ild 2 (o_if2 6 p_ge nx jp cal) jp cal) jp cal,
  o_no,
  fun nx jp cal => o_ic 0 (o_bret 1 nx jp cal) jp cal]
noncomputable def k_X1_placeOf : List Op := [fun nx jp cal => o_ic 0 (o_ist 1 (o_ic 0 (o_ist 2 nx jp cal) jp cal) jp cal) jp cal,
  fun nx jp cal => o_ild 3 (o_ald 0 (o_get 1 4 (o_if2 5 p_ge nx jp cal) jp cal) jp cal) jp cal,
  fun nx jp cal => o_ald 0 (o_ild 3 (o_ild 1 (o_invV 68 3 1 (o_if 4 p_eq0 nx jp cal) jp cal) jp cal) jp cal) jp cal,
  o_no,
  fun nx jp cal => o_inc 3 1 (o_go 1 nx jp cal) jp cal,
  fun nx jp cal => o_ild 2 (o_iret nx jp cal) jp cal]
noncomputable def k_X1_squadAt : List Op := [fun nx jp cal => o_ic 0 (o_ist 1 (o_ild 2 (o_ald 0 (o_get 1 4 (o_if2 4 p_ge nx jp cal) jp cal) jp cal) jp cal) jp cal) jp cal,
  fun nx jp cal => o_ald 0 (o_ild 2 (o_invV 69 2 1 (o_ild 1 (o_if2 3 p_ne nx jp cal) jp cal) jp cal) jp cal) jp cal,
  fun nx jp cal => o_ild 2 (o_iret nx jp cal) jp cal,
  o_no,
  o_no]
noncomputable def k_X1_startAnew : List Op := [fun nx jp cal => o_ald 0 (o_get 1 0 (o_ic 200 (o_invV 112 2 7 (o_ald 0 (o_get 1 2 (o_ic 0 (o_invV 112 2 7 (o_ald 0 (o_get 1 3 (o_ic 0 (o_invV 112 2 7 (o_ret nx jp cal) jp cal) jp cal) jp cal) jp cal) jp cal) jp cal) jp cal) jp cal) jp cal) jp cal) jp cal) jp cal]
noncomputable def k_X2_init : List Op := [fun nx jp cal => o_ald 0 (o_oinit (o_ald 0 (o_ic 7 (o_putI 2 0 (o_ald 0 (o_ic 6 (o_putI 2 1 (o_ald 0 (o_ic 1 (o_putZ 2 2 (o_ald 0 (o_ic 10 (o_putI 2 3 (o_ret nx jp cal) jp cal) jp cal) jp cal) jp cal) jp cal) jp cal) jp cal) jp cal) jp cal) jp cal) jp cal) jp cal) jp cal) jp cal]
noncomputable def k_X2_change : List Op := [fun nx jp cal => o_ald 0 (o_ild 1 (o_putI 2 0 (o_ald 0 (o_ild 2 (o_putI 2 1 (o_ald 0 (o_ild 3 (o_putZ 2 2 (o_ald 0 (o_ild 4 (o_putI 2 3 (o_ret nx jp cal) jp cal) jp cal) jp cal) jp cal) jp cal) jp cal) jp cal) jp cal) jp cal) jp cal) jp cal) jp cal]
noncomputable def k_X3_init : List Op := [fun nx jp cal => o_ald 0 (o_oinit (o_ald 0 (o_ic 12 (o_newI (o_putR 3 0 (o_ret nx jp cal) jp cal) jp cal) jp cal) jp cal) jp cal) jp cal]
noncomputable def k_X3_append : List Op := [fun nx jp cal => o_ald 0 (o_get 3 1 (o_if 3 p_lt0 nx jp cal) jp cal) jp cal,
  fun nx jp cal => o_ald 0 (o_get 3 1 (o_ald 0 (o_get 3 0 (o_alen (o_if2 3 p_ge nx jp cal) jp cal) jp cal) jp cal) jp cal) jp cal,
  fun nx jp cal => o_ald 0 (o_get 3 0 (o_ald 0 (o_get 3 1 (o_ild 1 (o_iast (o_ald 0 (o_dup (o_get 3 1 (o_ic 1 (o_bin f_add (o_putI 3 1 nx jp cal) jp cal) jp cal) jp cal) jp cal) jp cal) jp cal) jp cal) jp cal) jp cal) jp cal) jp cal,
  o_ret]
noncomputable def k_X3_at : List Op := [fun nx jp cal => o_ild 1 (o_if 4 p_lt0 nx jp cal) jp cal,
  fun nx jp cal => o_ild 1 (o_ald 0 (o_get 3 1 (o_if2 4 p_ge nx jp cal) jp cal) jp cal) jp cal,
  fun nx jp cal => o_ild 1 (o_ald 0 (o_get 3 0 (o_alen (o_if2 4 p_ge nx jp cal) jp cal) jp cal) jp cal) jp cal,
  fun nx jp cal => o_ald 0 (o_get 3 0 (o_ild 1 (o_iald (o_go 5 nx jp cal) jp cal) jp cal) jp cal) jp cal,
  o_ic 4294967295,
  o_iret]
noncomputable def k_X3_clear : List Op := [fun nx jp cal => o_ald 0 (o_ic 0 (o_putI 3 1 (o_ret nx jp cal) jp cal) jp cal) jp cal]
noncomputable def k_X3_has : List Op := [fun nx jp cal => o_ic 0 (o_ist 1 nx jp cal) jp cal,
  fun nx jp cal => o_ild 2 (o_ald 0 (o_get 3 1 (o_if2 5 p_ge nx jp cal) jp cal) jp cal) jp cal,
  fun nx jp cal => o_ald 0 (o_ild 2 (o_invV 76 2 3 (o_ild 1 (o_if2 4 p_ne nx jp cal) jp cal) jp cal) jp cal) jp cal,
  fun nx jp cal => o_ic 1 (o_bret 1 nx jp cal) jp cal,
  fun nx jp cal => o_inc 2 1 (o_go 1 nx jp cal) jp cal,
  fun nx jp cal => o_ic 0 (o_bret 1 nx jp cal) jp cal]
noncomputable def k_X3_insertByNumber : List Op := [fun nx jp cal => o_ald 0 (o_get 3 1 (o_if 2 p_lt0 nx jp cal) jp cal) jp cal,
  fun nx jp cal => o_ald 0 (o_get 3 1 (o_ald 0 (o_get 3 0 (o_alen (o_if2 3 p_lt nx jp cal) jp cal) jp cal) jp cal) jp cal) jp cal,
  o_no,
  fun nx jp cal => o_ald 0 (o_get 3 1 (o_ist 1 (o_ald 0 (o_get 3 1 (o_ic 1 (o_bin f_sub (o_ist 2 nx jp cal) jp cal) jp cal) jp cal) jp cal) jp cal) jp cal) jp cal,
  fun nx jp cal => o_ild 3 (o_if 8 p_lt0 nx jp cal) jp cal,
  fun nx jp cal => o_ild 3 (o_ic 1 (o_bin f_add (o_ald 0 (o_get 3 0 (o_alen (o_if2 8 p_ge nx jp cal) jp cal) jp cal) jp cal) jp cal) jp cal) jp cal,
  fun nx jp cal => o_ald 0 (o_get 3 0 (o_ild 3 (o_iald (o_ild 1 (o_if2 8 p_le nx jp cal) jp cal) jp cal) jp cal) jp cal) jp cal,
  fun nx jp cal => o_ald 0 (o_get 3 0 (o_ild 3 (o_ic 1 (o_bin f_add (o_ald 0 (o_get 3 0 (o_ild 3 (o_iald (o_iast (o_ild 3 (o_ist 1 (o_inc 3 4294967295 (o_go 4 nx jp cal) jp cal) jp cal) jp cal) jp cal) jp cal) jp cal) jp cal) jp cal) jp cal) jp cal) jp cal) jp cal) jp cal,
  fun nx jp cal => o_ald 0 (o_get 3 0 (o_ild 2 (o_ild 1 (o_iast (o_ald 0 (o_dup (o_get 3 1 (o_ic 1 (o_bin f_add (o_putI 3 1 (o_ret nx jp cal) jp cal) jp cal) jp cal) jp cal) jp cal) jp cal) jp cal) jp cal) jp cal) jp cal) jp cal]
noncomputable def k_X3_remove : List Op := [fun nx jp cal => o_ic 0 (o_ist 1 (o_ic 0 (o_ist 2 nx jp cal) jp cal) jp cal) jp cal,
  fun nx jp cal => o_ild 3 (o_ald 0 (o_get 3 1 (o_if2 6 p_ge nx jp cal) jp cal) jp cal) jp cal,
  fun nx jp cal => o_ild 3 (o_ald 0 (o_get 3 0 (o_alen (o_if2 6 p_ge nx jp cal) jp cal) jp cal) jp cal) jp cal,
  fun nx jp cal => o_ald 0 (o_get 3 0 (o_ild 3 (o_iald (o_ild 1 (o_if2 5 p_eq nx jp cal) jp cal) jp cal) jp cal) jp cal) jp cal,
  fun nx jp cal => o_ald 0 (o_get 3 0 (o_ild 2 (o_ald 0 (o_get 3 0 (o_ild 3 (o_iald (o_iast (o_inc 2 1 nx jp cal) jp cal) jp cal) jp cal) jp cal) jp cal) jp cal) jp cal) jp cal,
  fun nx jp cal => o_inc 3 1 (o_go 1 nx jp cal) jp cal,
  fun nx jp cal => o_ild 2 (o_ald 0 (o_get 3 1 (o_if2 8 p_ge nx jp cal) jp cal) jp cal) jp cal,
  fun nx jp cal => o_ic 1 (o_go 9 nx jp cal) jp cal,
  o_ic 0,
  fun nx jp cal => o_ist 2 (o_ald 0 (o_ild 2 (o_putI 3 1 (o_ild 3 (o_bret 1 nx jp cal) jp cal) jp cal) jp cal) jp cal) jp cal]
noncomputable def k_X4_init : List Op := [fun nx jp cal => o_ald 0 (o_oinit (o_ald 0 (o_new 8 8 [.inr (.inl 0), .inr (.inl 0), .inr (.inl 0), .inl 0, .inl 0, .inl 0, .inl 0, .inl 0] (o_dup (o_invI 115 1 (o_putR 4 0 (o_ald 0 (o_new 8 8 [.inr (.inl 0), .inr (.inl 0), .inr (.inl 0), .inl 0, .inl 0, .inl 0, .inl 0, .inl 0] (o_dup (o_invI 115 1 (o_putR 4 1 (o_ald 0 (o_new 7 1 [.inr (.inl 0)] (o_dup (o_ic 40 (o_invI 110 2 (o_putR 4 2 (o_ald 0 (o_new 7 1 [.inr (.inl 0)] (o_dup (o_ic 40 (o_invI 110 2 (o_putR 4 3 (o_ret nx jp cal) jp cal) jp cal) jp cal) jp cal) jp cal) jp cal) jp cal) jp cal) jp cal) jp cal) jp cal) jp cal) jp cal) jp cal) jp cal) jp cal) jp cal) jp cal) jp cal) jp cal) jp cal) jp cal) jp cal) jp cal]
noncomputable def k_X4_defenders : List Op := [fun nx jp cal => o_ald 0 (o_ic 1 (o_ald 0 (o_ald 0 (o_get 4 7 (o_invV 89 2 4 (o_bin f_sub (o_invV 87 2 4 (o_aret nx jp cal) jp cal) jp cal) jp cal) jp cal) jp cal) jp cal) jp cal) jp cal]
noncomputable def k_X4_isDecided : List Op := [fun nx jp cal => o_ald 0 (o_get 4 7 (o_ic 2 (o_ald 0 (o_get 4 6 (o_bin f_mul (o_if2 2 p_ge nx jp cal) jp cal) jp cal) jp cal) jp cal) jp cal) jp cal,
  fun nx jp cal => o_ic 0 (o_bret 1 nx jp cal) jp cal,
  fun nx jp cal => o_ald 0 (o_get 4 7 (o_ic 2 (o_ald 0 (o_get 4 6 (o_bin f_mul (o_if2 5 p_ne nx jp cal) jp cal) jp cal) jp cal) jp cal) jp cal) jp cal,
  fun nx jp cal => o_ald 0 (o_get 4 5 (o_if 5 p_ne0 nx jp cal) jp cal) jp cal,
  fun nx jp cal => o_ic 1 (o_bret 1 nx jp cal) jp cal,
  o_no]
noncomputable def k_X4_lastDefenders : List Op := [fun nx jp cal => o_ald 0 (o_ic 1 (o_ald 0 (o_ald 0 (o_get 4 7 (o_ic 1 (o_bin f_sub (o_invV 89 2 4 (o_bin f_sub (o_invV 87 2 4 (o_aret nx jp cal) jp cal) jp cal) jp cal) jp cal) jp cal) jp cal) jp cal) jp cal) jp cal) jp cal]
noncomputable def k_X4_lastRaiders : List Op := [fun nx jp cal => o_ald 0 (o_ald 0 (o_ald 0 (o_get 4 7 (o_ic 1 (o_bin f_sub (o_invV 89 2 4 (o_invV 87 2 4 (o_aret nx jp cal) jp cal) jp cal) jp cal) jp cal) jp cal) jp cal) jp cal) jp cal]
noncomputable def k_X4_raiders : List Op := [fun nx jp cal => o_ald 0 (o_ald 0 (o_ald 0 (o_get 4 7 (o_invV 89 2 4 (o_invV 87 2 4 (o_aret nx jp cal) jp cal) jp cal) jp cal) jp cal) jp cal) jp cal]
noncomputable def k_X4_sideAt : List Op := [fun nx jp cal => o_ild 1 (o_if 2 p_ne0 nx jp cal) jp cal,
  fun nx jp cal => o_ald 0 (o_get 4 0 (o_go 3 nx jp cal) jp cal) jp cal,
  fun nx jp cal => o_ald 0 (o_get 4 1 nx jp cal) jp cal,
  o_aret]
noncomputable def k_X4_sideInTurn : List Op := [fun nx jp cal => o_ald 0 (o_ald 0 (o_get 4 7 (o_invV 89 2 4 (o_iret nx jp cal) jp cal) jp cal) jp cal) jp cal]
noncomputable def k_X4_sideOfRaid : List Op := [fun nx jp cal => o_ild 1 (o_ald 0 (o_get 4 6 (o_if2 3 p_lt nx jp cal) jp cal) jp cal) jp cal,
  fun nx jp cal => o_ild 1 (o_ic 2 (o_ald 0 (o_get 4 6 (o_bin f_mul (o_if2 3 p_ge nx jp cal) jp cal) jp cal) jp cal) jp cal) jp cal,
  fun nx jp cal => o_ic 1 (o_go 4 nx jp cal) jp cal,
  o_ic 0,
  fun nx jp cal => o_ist 1 (o_ild 2 (o_if 6 p_eq0 nx jp cal) jp cal) jp cal,
  fun nx jp cal => o_ic 1 (o_ild 1 (o_ic 1 (o_bin f_and (o_bin f_sub (o_go 7 nx jp cal) jp cal) jp cal) jp cal) jp cal) jp cal,
  fun nx jp cal => o_ild 1 (o_ic 1 (o_bin f_and nx jp cal) jp cal) jp cal,
  o_iret]
noncomputable def k_X4_sideOfSquad : List Op := [fun nx jp cal => o_ild 1 (o_ald 0 (o_get 4 0 (o_get 8 3 (o_if2 2 p_ne nx jp cal) jp cal) jp cal) jp cal) jp cal,
  fun nx jp cal => o_ald 0 (o_get 4 0 (o_go 3 nx jp cal) jp cal) jp cal,
  fun nx jp cal => o_ald 0 (o_get 4 1 nx jp cal) jp cal,
  o_aret]
noncomputable def k_X4_sideWith : List Op := [fun nx jp cal => o_ald 0 (o_get 4 0 (o_ild 1 (o_invV 119 2 8 (o_if 2 p_eq0 nx jp cal) jp cal) jp cal) jp cal) jp cal,
  fun nx jp cal => o_ald 0 (o_get 4 0 (o_go 3 nx jp cal) jp cal) jp cal,
  fun nx jp cal => o_ald 0 (o_get 4 1 nx jp cal) jp cal,
  o_aret]
noncomputable def k_X4_start : List Op := [fun nx jp cal => o_ald 0 (o_get 4 2 (o_ic 0 (o_invV 112 2 7 (o_ald 0 (o_get 4 3 (o_ic 0 (o_invV 112 2 7 (o_ald 0 (o_ic 1 (o_putZ 4 4 (o_ald 0 (o_ild 1 (o_putZ 4 5 (o_ald 0 (o_ild 2 (o_putI 4 6 (o_ald 0 (o_ic 0 (o_putI 4 7 (o_ald 0 (o_dup (o_get 4 8 (o_ic 1 (o_bin f_add (o_putI 4 8 (o_ret nx jp cal) jp cal) jp cal) jp cal) jp cal) jp cal) jp cal) jp cal) jp cal) jp cal) jp cal) jp cal) jp cal) jp cal) jp cal) jp cal) jp cal) jp cal) jp cal) jp cal) jp cal) jp cal) jp cal) jp cal) jp cal) jp cal) jp cal]
noncomputable def k_X5_init : List Op := [fun nx jp cal => o_ald 0 (o_oinit (o_ald 0 (o_new 7 1 [.inr (.inl 0)] (o_dup (o_ic 40 (o_invI 110 2 (o_putR 5 0 (o_ald 0 (o_ic 4294967295 (o_putI 5 5 (o_ret nx jp cal) jp cal) jp cal) jp cal) jp cal) jp cal) jp cal) jp cal) jp cal) jp cal) jp cal) jp cal]
noncomputable def k_X5_brought : List Op := [fun nx jp cal => o_ald 0 (o_get 5 10 (o_ald 0 (o_get 5 8 (o_bin f_add (o_ald 0 (o_get 5 9 (o_bin f_add (o_iret nx jp cal) jp cal) jp cal) jp cal) jp cal) jp cal) jp cal) jp cal) jp cal]
noncomputable def k_X5_forget : List Op := [fun nx jp cal => o_ald 0 (o_ic 4294967295 (o_ic 0 (o_ic 0 (o_invV 104 4 5 (o_ald 0 (o_ic 0 (o_putZ 5 1 (o_ret nx jp cal) jp cal) jp cal) jp cal) jp cal) jp cal) jp cal) jp cal) jp cal]
noncomputable def k_X5_hasBreathFor : List Op := [fun nx jp cal => o_ald 0 (o_get 5 7 (o_ild 1 (o_bin f_add (o_ic 30 (o_if2 2 p_gt nx jp cal) jp cal) jp cal) jp cal) jp cal) jp cal,
  fun nx jp cal => o_ic 1 (o_go 3 nx jp cal) jp cal,
  o_no,
  o_bret 1]
noncomputable def k_X5_isCalled : List Op := [fun nx jp cal => o_ald 0 (o_get 5 0 (o_ild 1 (o_invV 113 2 7 (o_ic 4 (o_bin f_and (o_if 2 p_eq0 nx jp cal) jp cal) jp cal) jp cal) jp cal) jp cal) jp cal,
  fun nx jp cal => o_ic 1 (o_go 3 nx jp cal) jp cal,
  o_ic 0,
  o_bret 1]
noncomputable def k_X5_isReviewable : List Op := [fun nx jp cal => o_ald 0 (o_get 5 0 (o_ild 1 (o_invV 113 2 7 (o_ic 9 (o_bin f_and (o_ic 1 (o_if2 2 p_ne nx jp cal) jp cal) jp cal) jp cal) jp cal) jp cal) jp cal) jp cal,
  fun nx jp cal => o_ic 1 (o_go 3 nx jp cal) jp cal,
  o_ic 0,
  o_bret 1]
noncomputable def k_X5_isTouched : List Op := [fun nx jp cal => o_ald 0 (o_get 5 0 (o_ild 1 (o_invV 113 2 7 (o_if 2 p_eq0 nx jp cal) jp cal) jp cal) jp cal) jp cal,
  fun nx jp cal => o_ic 1 (o_go 3 nx jp cal) jp cal,
  o_ic 0,
  o_bret 1]
noncomputable def k_X5_isWrong : List Op := [fun nx jp cal => o_ald 0 (o_get 5 0 (o_ild 1 (o_invV 113 2 7 (o_ic 2 (o_bin f_and (o_if 2 p_eq0 nx jp cal) jp cal) jp cal) jp cal) jp cal) jp cal) jp cal,
  fun nx jp cal => o_ic 1 (o_go 3 nx jp cal) jp cal,
  o_ic 0,
  fun nx jp cal => o_ist 1 (o_ild 2 (o_ald 0 (o_ild 1 (o_invV 97 2 5 (o_if2 5 p_eq nx jp cal) jp cal) jp cal) jp cal) jp cal) jp cal,
  fun nx jp cal => o_ic 1 (o_go 6 nx jp cal) jp cal,
  o_ic 0,
  o_bret 1]
noncomputable def k_X5_markReviewed : List Op := [fun nx jp cal => o_ald 0 (o_get 5 0 (o_ild 1 (o_ald 0 (o_get 5 0 (o_ild 1 (o_invV 113 2 7 (o_ic 8 (o_bin f_or (o_invV 114 3 7 (o_ret nx jp cal) jp cal) jp cal) jp cal) jp cal) jp cal) jp cal) jp cal) jp cal) jp cal) jp cal]
noncomputable def k_X5_markTold : List Op := [fun nx jp cal => o_ald 0 (o_get 5 0 (o_ild 1 (o_ic 1 (o_ild 2 (o_if 2 p_eq0 nx jp cal) jp cal) jp cal) jp cal) jp cal) jp cal,
  fun nx jp cal => o_ic 2 (o_go 3 nx jp cal) jp cal,
  o_ic 0,
  fun nx jp cal => o_bin f_or (o_ild 3 (o_if 5 p_eq0 nx jp cal) jp cal) jp cal,
  fun nx jp cal => o_ic 4 (o_go 6 nx jp cal) jp cal,
  o_ic 0,
  fun nx jp cal => o_bin f_or (o_invV 114 3 7 (o_ret nx jp cal) jp cal) jp cal]
noncomputable def k_X5_spend : List Op := [fun nx jp cal => o_ald 0 (o_dup (o_get 5 7 (o_ild 1 (o_bin f_add (o_putI 5 7 (o_ald 0 (o_get 5 7 (o_iret nx jp cal) jp cal) jp cal) jp cal) jp cal) jp cal) jp cal) jp cal) jp cal]
noncomputable def k_X5_start : List Op := [fun nx jp cal => o_ald 0 (o_get 5 0 (o_ic 0 (o_invV 112 2 7 (o_ald 0 (o_ic 1 (o_putZ 5 1 (o_ald 0 (o_ild 3 (o_putZ 5 2 (o_ald 0 (o_ic 0 (o_putZ 5 3 (o_ald 0 (o_ic 0 (o_putZ 5 4 (o_ald 0 (o_ild 1 (o_putI 5 5 (o_ald 0 (o_ild 2 (o_putI 5 6 (o_ald 0 (o_ic 0 (o_putI 5 7 (o_ald 0 (o_ic 0 (o_putI 5 8 (o_ald 0 (o_ic 0 (o_putI 5 9 (o_ald 0 (o_ic 0 (o_putI 5 10 (o_ret nx jp cal) jp cal) jp cal) jp cal) jp cal) jp cal) jp cal) jp cal) jp cal) jp cal) jp cal) jp cal) jp cal) jp cal) jp cal) jp cal) jp cal) jp cal) jp cal) jp cal) jp cal) jp cal) jp cal) jp cal) jp cal) jp cal) jp cal) jp cal) jp cal) jp cal) jp cal) jp cal) jp cal) jp cal) jp cal]
noncomputable def k_X6_init : List Op := [fun nx jp cal => o_ald 0 (o_oinit (o_ald 0 (o_new 7 1 [.inr (.inl 0)] (o_dup (o_ic 40 (o_invI 110 2 (o_putR 6 0 (o_ald 0 (o_new 7 1 [.inr (.inl 0)] (o_dup (o_ic 40 (o_invI 110 2 (o_putR 6 1 (o_ald 0 (o_new 7 1 [.inr (.inl 0)] (o_dup (o_ic 40 (o_invI 110 2 (o_putR 6 2 (o_ald 0 (o_new 7 1 [.inr (.inl 0)] (o_dup (o_ic 40 (o_invI 110 2 (o_putR 6 3 (o_ald 0 (o_new 7 1 [.inr (.inl 0)] (o_dup (o_ic 40 (o_invI 110 2 (o_putR 6 4 (o_ald 0 (o_new 7 1 [.inr (.inl 0)] (o_dup (o_ic 40 (o_invI 110 2 (o_putR 6 5 (o_ald 0 (o_new 7 1 [.inr (.inl 0)] (o_dup (o_ic 40 (o_invI 110 2 (o_putR 6 6 (o_ret nx jp cal) jp cal) jp cal) jp cal) jp cal) jp cal) jp cal) jp cal) jp cal) jp cal) jp cal) jp cal) jp cal) jp cal) jp cal) jp cal) jp cal) jp cal) jp cal) jp cal) jp cal) jp cal) jp cal) jp cal) jp cal) jp cal) jp cal) jp cal) jp cal) jp cal) jp cal) jp cal) jp cal) jp cal) jp cal) jp cal) jp cal) jp cal) jp cal) jp cal) jp cal) jp cal) jp cal) jp cal) jp cal]
noncomputable def k_X6_enter : List Op := [fun nx jp cal => o_ald 0 (o_get 6 7 (o_ist 4 (o_ald 0 (o_get 6 0 (o_ild 5 (o_ild 1 (o_invV 114 3 7 (o_ald 0 (o_get 6 1 (o_ild 5 (o_ild 2 (o_invV 114 3 7 (o_ald 0 (o_get 6 2 (o_ild 5 (o_ild 3 (o_invV 114 3 7 (o_ald 0 (o_get 6 3 (o_ild 5 (o_ild 4 (o_invV 114 3 7 (o_ald 0 (o_get 6 4 (o_ild 5 (o_ic 4294967295 (o_invV 114 3 7 (o_ald 0 (o_get 6 5 (o_ild 5 (o_ic 4294967295 (o_invV 114 3 7 (o_ald 0 (o_dup (o_get 6 7 (o_ic 1 (o_bin f_add (o_putI 6 7 (o_ild 5 (o_iret nx jp cal) jp cal) jp cal) jp cal) jp cal) jp cal) jp cal) jp cal) jp cal) jp cal) jp cal) jp cal) jp cal) jp cal) jp cal) jp cal) jp cal) jp cal) jp cal) jp cal) jp cal) jp cal) jp cal) jp cal) jp cal) jp cal) jp cal) jp cal) jp cal) jp cal) jp cal) jp cal) jp cal) jp cal) jp cal) jp cal) jp cal) jp cal) jp cal) jp cal) jp cal]
noncomputable def k_X6_paidBy : List Op := [fun nx jp cal => o_ic 0 (o_ist 1 (o_ic 0 (o_ist 2 nx jp cal) jp cal) jp cal) jp cal,
  fun nx jp cal => o_ild 3 (o_ald 0 (o_get 6 7 (o_if2 5 p_ge nx jp cal) jp cal) jp cal) jp cal,
  fun nx jp cal => o_ald 0 (o_get 6 4 (o_ild 3 (o_invV 113 2 7 (o_ild 1 (o_if2 4 p_ne nx jp cal) jp cal) jp cal) jp cal) jp cal) jp cal,
  fun nx jp cal => o_ild 2 (o_ald 0 (o_get 6 6 (o_ild 3 (o_invV 113 2 7 (o_bin f_add (o_ist 1 nx jp cal) jp cal) jp cal) jp cal) jp cal) jp cal) jp cal,
  fun nx jp cal => o_inc 3 1 (o_go 1 nx jp cal) jp cal,
  fun nx jp cal => o_ild 2 (o_iret nx jp cal) jp cal]
noncomputable def k_X6_release : List Op := [fun nx jp cal => o_ic 0 (o_ist 0 (o_ic 0 (o_ist 1 nx jp cal) jp cal) jp cal) jp cal,
  fun nx jp cal => o_ild 2 (o_ald 0 (o_get 6 7 (o_if2 5 p_ge nx jp cal) jp cal) jp cal) jp cal,
  fun nx jp cal => o_ald 0 (o_get 6 4 (o_ild 2 (o_invV 113 2 7 (o_ist 2 (o_ild 3 (o_ic 4294967295 (o_if2 4 p_eq nx jp cal) jp cal) jp cal) jp cal) jp cal) jp cal) jp cal) jp cal,
  fun nx jp cal => o_ald 0 (o_get 6 5 (o_ild 2 (o_ild 3 (o_invV 114 3 7 (o_ald 0 (o_get 6 4 (o_ild 2 (o_ic 4294967295 (o_invV 114 3 7 (o_ald 0 (o_get 6 6 (o_ild 2 (o_ic 0 (o_invV 114 3 7 (o_inc 1 1 nx jp cal) jp cal) jp cal) jp cal) jp cal) jp cal) jp cal) jp cal) jp cal) jp cal) jp cal) jp cal) jp cal) jp cal) jp cal) jp cal,
  fun nx jp cal => o_inc 2 1 (o_go 1 nx jp cal) jp cal,
  fun nx jp cal => o_ild 1 (o_iret nx jp cal) jp cal]
noncomputable def k_X6_sizeOf : List Op := [fun nx jp cal => o_ic 0 (o_ist 1 (o_ic 0 (o_ist 2 nx jp cal) jp cal) jp cal) jp cal,
  fun nx jp cal => o_ild 3 (o_ald 0 (o_get 6 7 (o_if2 5 p_ge nx jp cal) jp cal) jp cal) jp cal,
  fun nx jp cal => o_ald 0 (o_get 6 4 (o_ild 3 (o_invV 113 2 7 (o_ild 1 (o_if2 4 p_ne nx jp cal) jp cal) jp cal) jp cal) jp cal) jp cal,
  o_inc 2 1,
  fun nx jp cal => o_inc 3 1 (o_go 1 nx jp cal) jp cal,
  fun nx jp cal => o_ild 2 (o_iret nx jp cal) jp cal]
noncomputable def k_X7_init : List Op := [fun nx jp cal => o_ald 0 (o_oinit (o_ald 0 (o_ild 1 (o_if 2 p_le0 nx jp cal) jp cal) jp cal) jp cal) jp cal,
  fun nx jp cal => o_ild 1 (o_go 3 nx jp cal) jp cal,
  o_no,
  fun nx jp cal => o_newI (o_putR 7 0 (o_ret nx jp cal) jp cal) jp cal]
noncomputable def k_X7_add : List Op := [fun nx jp cal => o_ald 0 (o_ild 1 (o_ald 0 (o_ild 1 (o_invV 113 2 7 (o_ild 2 (o_bin f_add (o_invV 114 3 7 (o_ret nx jp cal) jp cal) jp cal) jp cal) jp cal) jp cal) jp cal) jp cal) jp cal]
noncomputable def k_X7_fill : List Op := [fun nx jp cal => o_ic 0 (o_ist 1 nx jp cal) jp cal,
  fun nx jp cal => o_ild 2 (o_ald 0 (o_get 7 0 (o_alen (o_if2 3 p_ge nx jp cal) jp cal) jp cal) jp cal) jp cal,
  fun nx jp cal => o_ald 0 (o_get 7 0 (o_ild 2 (o_ild 1 (o_iast (o_inc 2 1 (o_go 1 nx jp cal) jp cal) jp cal) jp cal) jp cal) jp cal) jp cal,
  o_ret]
noncomputable def k_X7_get : List Op := [fun nx jp cal => o_ild 1 (o_if 3 p_lt0 nx jp cal) jp cal,
  fun nx jp cal => o_ild 1 (o_ald 0 (o_get 7 0 (o_alen (o_if2 3 p_ge nx jp cal) jp cal) jp cal) jp cal) jp cal,
  fun nx jp cal => o_ald 0 (o_get 7 0 (o_ild 1 (o_iald (o_go 4 nx jp cal) jp cal) jp cal) jp cal) jp cal,
  o_no,
  o_iret]
noncomputable def k_X7_set : List Op := [fun nx jp cal => o_ild 1 (o_if 3 p_lt0 nx jp cal) jp cal,
  fun nx jp cal => o_ild 1 (o_ald 0 (o_get 7 0 (o_alen (o_if2 3 p_ge nx jp cal) jp cal) jp cal) jp cal) jp cal,
  fun nx jp cal => o_ald 0 (o_get 7 0 (o_ild 1 (o_ild 2 (o_iast nx jp cal) jp cal) jp cal) jp cal) jp cal,
  o_ret]
noncomputable def k_X8_init : List Op := [fun nx jp cal => o_ald 0 (o_oinit (o_ald 0 (o_new 3 2 [.inr (.inl 0), .inl 0] (o_dup (o_invI 74 1 (o_putR 8 0 (o_ald 0 (o_new 3 2 [.inr (.inl 0), .inl 0] (o_dup (o_invI 74 1 (o_putR 8 1 (o_ald 0 (o_new 3 2 [.inr (.inl 0), .inl 0] (o_dup (o_invI 74 1 (o_putR 8 2 (o_ald 0 (o_ic 4294967295 (o_putI 8 3 (o_ret nx jp cal) jp cal) jp cal) jp cal) jp cal) jp cal) jp cal) jp cal) jp cal) jp cal) jp cal) jp cal) jp cal) jp cal) jp cal) jp cal) jp cal) jp cal) jp cal) jp cal) jp cal]
noncomputable def k_X8_change : List Op := [fun nx jp cal => o_ald 0 (o_get 8 0 (o_ild 1 (o_invV 80 2 3 (o_pop (o_ald 0 (o_get 8 2 (o_ild 2 (o_invV 80 2 3 (o_pop (o_ald 0 (o_get 8 0 (o_ild 2 (o_invV 79 2 3 (o_ald 0 (o_get 8 2 (o_ild 1 (o_invV 75 2 3 (o_ald 0 (o_dup (o_get 8 6 (o_ic 1 (o_bin f_add (o_putI 8 6 (o_ret nx jp cal) jp cal) jp cal) jp cal) jp cal) jp cal) jp cal) jp cal) jp cal) jp cal) jp cal) jp cal) jp cal) jp cal) jp cal) jp cal) jp cal) jp cal) jp cal) jp cal) jp cal) jp cal) jp cal) jp cal) jp cal]
noncomputable def k_X8_comeOn : List Op := [fun nx jp cal => o_ald 0 (o_get 8 1 (o_ild 1 (o_invV 80 2 3 (o_if 2 p_eq0 nx jp cal) jp cal) jp cal) jp cal) jp cal,
  fun nx jp cal => o_ald 0 (o_get 8 0 (o_ild 1 (o_invV 79 2 3 nx jp cal) jp cal) jp cal) jp cal,
  o_ret]
noncomputable def k_X8_goOut : List Op := [fun nx jp cal => o_ald 0 (o_get 8 0 (o_ild 1 (o_invV 80 2 3 (o_ist 1 (o_ild 2 (o_if 2 p_eq0 nx jp cal) jp cal) jp cal) jp cal) jp cal) jp cal) jp cal,
  fun nx jp cal => o_ald 0 (o_get 8 1 (o_ild 1 (o_invV 75 2 3 nx jp cal) jp cal) jp cal) jp cal,
  fun nx jp cal => o_ild 2 (o_bret 1 nx jp cal) jp cal]
noncomputable def k_X8_isInPlay : List Op := [fun nx jp cal => o_ald 0 (o_get 8 0 (o_ild 1 (o_invV 78 2 3 (o_if 2 p_ne0 nx jp cal) jp cal) jp cal) jp cal) jp cal,
  fun nx jp cal => o_ald 0 (o_get 8 1 (o_ild 1 (o_invV 78 2 3 (o_if 3 p_eq0 nx jp cal) jp cal) jp cal) jp cal) jp cal,
  fun nx jp cal => o_ic 1 (o_go 4 nx jp cal) jp cal,
  o_ic 0,
  o_bret 1]
noncomputable def k_X8_lineUp : List Op := [fun nx jp cal => o_ald 0 (o_ild 2 (o_putI 8 3 (o_ald 0 (o_ic 0 (o_putI 8 4 (o_ald 0 (o_ic 0 (o_putI 8 5 (o_ald 0 (o_ic 0 (o_putI 8 6 (o_ald 0 (o_ic 1 (o_putZ 8 7 (o_ald 0 (o_get 8 0 (o_invV 77 1 3 (o_ald 0 (o_get 8 1 (o_invV 77 1 3 (o_ald 0 (o_get 8 2 (o_invV 77 1 3 (o_ic 0 (o_ist 3 nx jp cal) jp cal) jp cal) jp cal) jp cal) jp cal) jp cal) jp cal) jp cal) jp cal) jp cal) jp cal) jp cal) jp cal) jp cal) jp cal) jp cal) jp cal) jp cal) jp cal) jp cal) jp cal) jp cal) jp cal) jp cal) jp cal,
  fun nx jp cal => o_ild 4 (o_ald 1 (o_get 6 7 (o_if2 7 p_ge nx jp cal) jp cal) jp cal) jp cal,
  fun nx jp cal => o_ald 1 (o_get 6 4 (o_ild 4 (o_invV 113 2 7 (o_ald 0 (o_get 8 3 (o_if2 6 p_ne nx jp cal) jp cal) jp cal) jp cal) jp cal) jp cal) jp cal,
  fun nx jp cal => o_ald 0 (o_get 8 0 (o_get 3 1 (o_ild 3 (o_if2 5 p_ge nx jp cal) jp cal) jp cal) jp cal) jp cal,
  fun nx jp cal => o_ald 0 (o_get 8 0 (o_ild 4 (o_invV 75 2 3 (o_go 6 nx jp cal) jp cal) jp cal) jp cal) jp cal,
  fun nx jp cal => o_ald 0 (o_get 8 2 (o_ild 4 (o_invV 75 2 3 nx jp cal) jp cal) jp cal) jp cal,
  fun nx jp cal => o_inc 4 1 (o_go 1 nx jp cal) jp cal,
  o_ret]
noncomputable def k_X8_placesOf : List Op := [fun nx jp cal => o_ald 0 (o_get 8 0 (o_ild 1 (o_invV 78 2 3 (o_if 2 p_eq0 nx jp cal) jp cal) jp cal) jp cal) jp cal,
  fun nx jp cal => o_ic 1 (o_go 3 nx jp cal) jp cal,
  o_ic 0,
  fun nx jp cal => o_ist 1 (o_ald 0 (o_get 8 1 (o_ild 1 (o_invV 78 2 3 (o_if 5 p_eq0 nx jp cal) jp cal) jp cal) jp cal) jp cal) jp cal,
  o_inc 2 1,
  fun nx jp cal => o_ald 0 (o_get 8 2 (o_ild 1 (o_invV 78 2 3 (o_if 7 p_eq0 nx jp cal) jp cal) jp cal) jp cal) jp cal,
  fun nx jp cal => o_ild 2 (o_ic 1 (o_bin f_add (o_go 8 nx jp cal) jp cal) jp cal) jp cal,
  o_ild 2,
  o_iret]
noncomputable def k_X8_revive : List Op := [fun nx jp cal => o_ic 0 (o_ist 1 nx jp cal) jp cal,
  fun nx jp cal => o_ild 2 (o_ild 1 (o_if2 4 p_ge nx jp cal) jp cal) jp cal,
  fun nx jp cal => o_ald 0 (o_get 8 1 (o_get 3 1 (o_if 4 p_le0 nx jp cal) jp cal) jp cal) jp cal,
  fun nx jp cal => o_ald 0 (o_ald 0 (o_get 8 1 (o_ic 0 (o_invV 76 2 3 (o_invV 117 2 8 (o_inc 2 1 (o_go 1 nx jp cal) jp cal) jp cal) jp cal) jp cal) jp cal) jp cal) jp cal,
  o_ret]
noncomputable def k_X8_sendOff : List Op := [fun nx jp cal => o_ald 0 (o_get 8 0 (o_ild 1 (o_invV 80 2 3 (o_pop (o_ald 0 (o_get 8 1 (o_ild 1 (o_invV 80 2 3 (o_pop (o_ret nx jp cal) jp cal) jp cal) jp cal) jp cal) jp cal) jp cal) jp cal) jp cal) jp cal) jp cal]
noncomputable def k_X9_init : List Op := [fun nx jp cal => o_ald 0 (o_oinit (o_ald 0 (o_new 7 1 [.inr (.inl 0)] (o_dup (o_ic 40 (o_invI 110 2 (o_putR 9 0 (o_ald 0 (o_new 7 1 [.inr (.inl 0)] (o_dup (o_ic 40 (o_invI 110 2 (o_putR 9 1 (o_ald 0 (o_new 7 1 [.inr (.inl 0)] (o_dup (o_ic 40 (o_invI 110 2 (o_putR 9 2 (o_ald 0 (o_new 7 1 [.inr (.inl 0)] (o_dup (o_ic 40 (o_invI 110 2 (o_putR 9 3 (o_ret nx jp cal) jp cal) jp cal) jp cal) jp cal) jp cal) jp cal) jp cal) jp cal) jp cal) jp cal) jp cal) jp cal) jp cal) jp cal) jp cal) jp cal) jp cal) jp cal) jp cal) jp cal) jp cal) jp cal) jp cal) jp cal) jp cal) jp cal]
noncomputable def k_X9_record : List Op := [fun nx jp cal => o_ald 0 (o_get 9 3 (o_ild 1 (o_ic 1 (o_invV 111 3 7 (o_ald 0 (o_dup (o_get 9 4 (o_ic 1 (o_bin f_add (o_putI 9 4 (o_ald 0 (o_dup (o_get 9 6 (o_ild 2 (o_bin f_add (o_putI 9 6 (o_ild 3 (o_if 2 p_eq0 nx jp cal) jp cal) jp cal) jp cal) jp cal) jp cal) jp cal) jp cal) jp cal) jp cal) jp cal) jp cal) jp cal) jp cal) jp cal) jp cal) jp cal) jp cal) jp cal,
  fun nx jp cal => o_ald 0 (o_dup (o_get 9 5 (o_ic 1 (o_bin f_add (o_putI 9 5 nx jp cal) jp cal) jp cal) jp cal) jp cal) jp cal,
  o_ret]
noncomputable def k_X10_init : List Op := [fun nx jp cal => o_ald 0 (o_oinit (o_ald 0 (o_ic 441 (o_newD (o_putR 10 0 (o_ald 0 (o_ic 441 (o_newD (o_putR 10 1 (o_ald 0 (o_ic 7 (o_putI 10 2 (o_ald 0 (o_ic 7 (o_putI 10 3 (o_ald 0 (o_ic 50 (o_putI 10 6 (o_ald 0 (o_ic 30 (o_putI 10 7 (o_ret nx jp cal) jp cal) jp cal) jp cal) jp cal) jp cal) jp cal) jp cal) jp cal) jp cal) jp cal) jp cal) jp cal) jp cal) jp cal) jp cal) jp cal) jp cal) jp cal) jp cal) jp cal) jp cal) jp cal]
noncomputable def k_L_ask : List Op := [fun nx jp cal => o_ild 1 (o_sw 66 [4, 37, 47, 10, 47, 14, 47, 47, 47, 6, 46, 5, 9, 47, 1, 47, 23, 2, 17, 3, 40, 47, 36, 47, 39, 47, 47, 47, 47, 47, 47, 20, 22, 38, 44, 47, 47, 47, 47, 18, 47, 47, 45, 19, 34, 7, 8, 47, 47, 35, 27, 21] nx jp cal) jp cal,
  fun nx jp cal => o_ald 0 (o_ald 2 (o_ic 0 (o_iald (o_ald 2 (o_ic 1 (o_iald (o_ald 2 (o_ic 2 (o_iald (o_ald 2 (o_ic 3 (o_iald (o_un f_char (o_invX 37 5 11 [(0, 48), (1, 49), (2, 50), (3, 51), (4, 52)] (o_iret nx jp cal) jp cal) jp cal) jp cal) jp cal) jp cal) jp cal) jp cal) jp cal) jp cal) jp cal) jp cal) jp cal) jp cal) jp cal) jp cal,
  fun nx jp cal => o_ald 0 (o_invX 49 1 11 [(0, 48), (1, 49), (2, 50), (3, 51), (4, 52)] (o_iret nx jp cal) jp cal) jp cal,
  fun nx jp cal => o_ald 0 (o_ald 2 (o_ic 0 (o_iald (o_invX 43 2 11 [(0, 48), (1, 49), (2, 50), (3, 51), (4, 52)] (o_iret nx jp cal) jp cal) jp cal) jp cal) jp cal) jp cal,
  fun nx jp cal => o_ald 0 (o_ald 2 (o_ic 0 (o_iald (o_ald 2 (o_ic 1 (o_iald (o_invX 6 3 11 [(0, 48), (1, 49), (2, 50), (3, 51), (4, 52)] (o_iret nx jp cal) jp cal) jp cal) jp cal) jp cal) jp cal) jp cal) jp cal) jp cal,
  fun nx jp cal => o_ald 0 (o_ald 2 (o_ic 0 (o_iald (o_invX 27 2 11 [(0, 48), (1, 49), (2, 50), (3, 51), (4, 52)] (o_no nx jp cal) jp cal) jp cal) jp cal) jp cal) jp cal,
  fun nx jp cal => o_ald 0 (o_invX 23 1 11 [(0, 48), (1, 49), (2, 50), (3, 51), (4, 52)] (o_iret nx jp cal) jp cal) jp cal,
  fun nx jp cal => o_ald 0 (o_ald 2 (o_ic 0 (o_iald (o_invX 50 2 11 [(0, 48), (1, 49), (2, 50), (3, 51), (4, 52)] (o_iret nx jp cal) jp cal) jp cal) jp cal) jp cal) jp cal,
  fun nx jp cal => o_ald 0 (o_ald 2 (o_ic 0 (o_iald (o_invX 41 2 11 [(0, 48), (1, 49), (2, 50), (3, 51), (4, 52)] (o_iret nx jp cal) jp cal) jp cal) jp cal) jp cal) jp cal,
  fun nx jp cal => o_ald 0 (o_invX 47 1 11 [(0, 48), (1, 49), (2, 50), (3, 51), (4, 52)] (o_iret nx jp cal) jp cal) jp cal,
  fun nx jp cal => o_ald 0 (o_ald 2 (o_ic 0 (o_iald (o_ald 2 (o_ic 1 (o_iald (o_ald 2 (o_ic 2 (o_iald (o_ic 1 (o_if2 12 p_ne nx jp cal) jp cal) jp cal) jp cal) jp cal) jp cal) jp cal) jp cal) jp cal) jp cal) jp cal) jp cal,
  fun nx jp cal => o_ic 1 (o_go 13 nx jp cal) jp cal,
  o_no,
  fun nx jp cal => o_ald 2 (o_ic 3 (o_iald (o_invX 15 5 11 [(0, 48), (1, 49), (2, 50), (3, 51), (4, 52)] (o_iret nx jp cal) jp cal) jp cal) jp cal) jp cal,
  fun nx jp cal => o_ald 0 (o_ald 2 (o_ic 0 (o_iald (o_ald 2 (o_ic 1 (o_iald (o_ald 2 (o_ic 2 (o_iald (o_ic 1 (o_if2 16 p_ne nx jp cal) jp cal) jp cal) jp cal) jp cal) jp cal) jp cal) jp cal) jp cal) jp cal) jp cal) jp cal,
  o_no,
  fun nx jp cal => o_ic 0 (o_invX 4 4 11 [(0, 48), (1, 49), (2, 50), (3, 51), (4, 52)] (o_iret nx jp cal) jp cal) jp cal,
  fun nx jp cal => o_ald 0 (o_invX 57 1 11 [(0, 48), (1, 49), (2, 50), (3, 51), (4, 52)] (o_iret nx jp cal) jp cal) jp cal,
  fun nx jp cal => o_ald 0 (o_ald 2 (o_ic 0 (o_iald (o_invX 39 2 11 [(0, 48), (1, 49), (2, 50), (3, 51), (4, 52)] (o_iret nx jp cal) jp cal) jp cal) jp cal) jp cal) jp cal,
  fun nx jp cal => o_ald 0 (o_ald 2 (o_ic 0 (o_iald (o_invX 34 2 11 [(0, 48), (1, 49), (2, 50), (3, 51), (4, 52)] (o_iret nx jp cal) jp cal) jp cal) jp cal) jp cal) jp cal,
  fun nx jp cal => o_ald 0 (o_ald 2 (o_ic 0 (o_iald (o_ald 2 (o_ic 1 (o_iald (o_invX 26 3 11 [(0, 48), (1, 49), (2, 50), (3, 51), (4, 52)] (o_iret nx jp cal) jp cal) jp cal) jp cal) jp cal) jp cal) jp cal) jp cal) jp cal,
  fun nx jp cal => o_ald 0 (o_ald 2 (o_ic 0 (o_iald (o_ald 2 (o_ic 1 (o_iald (o_invX 35 3 11 [(0, 48), (1, 49), (2, 50), (3, 51), (4, 52)] (o_iret nx jp cal) jp cal) jp cal) jp cal) jp cal) jp cal) jp cal) jp cal) jp cal,
  fun nx jp cal => o_ald 0 (o_ald 2 (o_ic 0 (o_iald (o_ald 2 (o_ic 1 (o_iald (o_invX 5 3 11 [(0, 48), (1, 49), (2, 50), (3, 51), (4, 52)] (o_iret nx jp cal) jp cal) jp cal) jp cal) jp cal) jp cal) jp cal) jp cal) jp cal,
  fun nx jp cal => o_ald 0 (o_ald 2 (o_ic 0 (o_iald (o_invX 44 2 11 [(0, 48), (1, 49), (2, 50), (3, 51), (4, 52)] (o_if 25 p_eq0 nx jp cal) jp cal) jp cal) jp cal) jp cal) jp cal,
  fun nx jp cal => o_ic 1 (o_go 26 nx jp cal) jp cal,
  o_ic 0,
  o_iret,
  fun nx jp cal => o_ald 0 (o_ald 2 (o_ic 0 (o_iald (o_ald 2 (o_ic 1 (o_iald (o_ic 1 (o_if2 29 p_ne nx jp cal) jp cal) jp cal) jp cal) jp cal) jp cal) jp cal) jp cal) jp cal,
  fun nx jp cal => o_ic 1 (o_go 30 nx jp cal) jp cal,
  o_ic 0,
  fun nx jp cal => o_ald 2 (o_ic 2 (o_iald (o_ic 1 (o_if2 32 p_ne nx jp cal) jp cal) jp cal) jp cal) jp cal,
  fun nx jp cal => o_ic 1 (o_go 33 nx jp cal) jp cal,
  o_ic 0,
  fun nx jp cal => o_invX 56 4 11 [(0, 48), (1, 49), (2, 50), (3, 51), (4, 52)] (o_iret nx jp cal) jp cal,
  fun nx jp cal => o_ald 0 (o_invX 7 1 11 [(0, 48), (1, 49), (2, 50), (3, 51), (4, 52)] (o_no nx jp cal) jp cal) jp cal,
  fun nx jp cal => o_ald 0 (o_ald 2 (o_ic 0 (o_iald (o_invX 52 2 11 [(0, 48), (1, 49), (2, 50), (3, 51), (4, 52)] (o_no nx jp cal) jp cal) jp cal) jp cal) jp cal) jp cal,
  fun nx jp cal => o_ald 0 (o_ald 2 (o_ic 0 (o_iald (o_invX 51 2 11 [(0, 48), (1, 49), (2, 50), (3, 51), (4, 52)] (o_no nx jp cal) jp cal) jp cal) jp cal) jp cal) jp cal,
  fun nx jp cal => o_ald 0 (o_invX 14 1 11 [(0, 48), (1, 49), (2, 50), (3, 51), (4, 52)] (o_iret nx jp cal) jp cal) jp cal,
  fun nx jp cal => o_ald 0 (o_ald 2 (o_ic 0 (o_iald (o_ald 2 (o_ic 1 (o_iald (o_un f_char (o_invX 10 3 11 [(0, 48), (1, 49), (2, 50), (3, 51), (4, 52)] (o_iret nx jp cal) jp cal) jp cal) jp cal) jp cal) jp cal) jp cal) jp cal) jp cal) jp cal,
  fun nx jp cal => o_ald 0 (o_ald 2 (o_ic 0 (o_iald (o_ald 2 (o_ic 1 (o_iald (o_invX 53 3 11 [(0, 48), (1, 49), (2, 50), (3, 51), (4, 52)] (o_iret nx jp cal) jp cal) jp cal) jp cal) jp cal) jp cal) jp cal) jp cal) jp cal,
  fun nx jp cal => o_ald 0 (o_ald 2 (o_ic 0 (o_iald (o_ald 2 (o_ic 1 (o_iald (o_invX 46 3 11 [(0, 48), (1, 49), (2, 50), (3, 51), (4, 52)] (o_if 42 p_eq0 nx jp cal) jp cal) jp cal) jp cal) jp cal) jp cal) jp cal) jp cal) jp cal,
  fun nx jp cal => o_ic 1 (o_go 43 nx jp cal) jp cal,
  o_ic 0,
  o_iret,
  fun nx jp cal => o_ald 0 (o_ald 2 (o_ic 0 (o_iald (o_ald 2 (o_ic 1 (o_iald (o_un f_char (o_invX 55 3 11 [(0, 48), (1, 49), (2, 50), (3, 51), (4, 52)] (o_iret nx jp cal) jp cal) jp cal) jp cal) jp cal) jp cal) jp cal) jp cal) jp cal) jp cal,
  fun nx jp cal => o_ald 0 (o_ald 2 (o_ic 0 (o_iald (o_invX 24 2 11 [(0, 48), (1, 49), (2, 50), (3, 51), (4, 52)] (o_iret nx jp cal) jp cal) jp cal) jp cal) jp cal) jp cal,
  fun nx jp cal => o_ald 0 (o_ald 2 (o_ic 0 (o_iald (o_invX 36 2 11 [(0, 48), (1, 49), (2, 50), (3, 51), (4, 52)] (o_iret nx jp cal) jp cal) jp cal) jp cal) jp cal) jp cal,
  fun nx jp cal => o_ald 0 (o_invX 11 1 11 [(0, 48), (1, 49), (2, 50), (3, 51), (4, 52)] (o_no nx jp cal) jp cal) jp cal,
  fun nx jp cal => o_xst 2 (o_ic 2294967295 (o_iret nx jp cal) jp cal) jp cal,
  fun nx jp cal => o_xst 2 (o_ic 2294967294 (o_iret nx jp cal) jp cal) jp cal,
  fun nx jp cal => o_xst 2 (o_ic 2294967293 (o_iret nx jp cal) jp cal) jp cal,
  fun nx jp cal => o_xst 2 (o_ic 2294967292 (o_iret nx jp cal) jp cal) jp cal,
  fun nx jp cal => o_xst 2 (o_ic 2294967291 (o_iret nx jp cal) jp cal) jp cal]
noncomputable def k_L_begin : List Op := [fun nx jp cal => o_ald 0 (o_ic 83 (o_ic 0 (o_newI (o_invS 127 3 (o_if 3 p_ne0 nx jp cal) jp cal) jp cal) jp cal) jp cal) jp cal,
  fun nx jp cal => o_ald 0 (o_ic 83 (o_ic 0 (o_newI (o_invS 127 3 (o_ic 1 (o_if2 3 p_ne nx jp cal) jp cal) jp cal) jp cal) jp cal) jp cal) jp cal,
  fun nx jp cal => o_ald 0 (o_ic 69 (o_ic 4 (o_newI (o_dup (o_ic 0 (o_ic 4 (o_iast (o_dup (o_ic 1 (o_ic 7 (o_iast (o_dup (o_ic 2 (o_ic 1 (o_iast (o_dup (o_ic 3 (o_ild 2 (o_iast (o_invS 127 3 (o_ic 7 (o_if2 4 p_eq nx jp cal) jp cal) jp cal) jp cal) jp cal) jp cal) jp cal) jp cal) jp cal) jp cal) jp cal) jp cal) jp cal) jp cal) jp cal) jp cal) jp cal) jp cal) jp cal) jp cal) jp cal) jp cal) jp cal,
  o_no,
  fun nx jp cal => o_ic 0 (o_ist 2 nx jp cal) jp cal,
  fun nx jp cal => o_ild 3 (o_ic 12 (o_if2 12 p_ge nx jp cal) jp cal) jp cal,
  fun nx jp cal => o_ald 0 (o_ic 80 (o_ic 4 (o_newI (o_dup (o_ic 0 (o_ic 9 (o_iast (o_dup (o_ic 1 (o_ild 1 (o_iast (o_dup (o_ic 2 (o_ic 1 (o_iast (o_dup (o_ic 3 (o_ic 99 (o_iast (o_invS 127 3 (o_ild 3 (o_if2 10 p_ne nx jp cal) jp cal) jp cal) jp cal) jp cal) jp cal) jp cal) jp cal) jp cal) jp cal) jp cal) jp cal) jp cal) jp cal) jp cal) jp cal) jp cal) jp cal) jp cal) jp cal) jp cal) jp cal) jp cal,
  fun nx jp cal => o_ald 0 (o_ic 85 (o_ic 1 (o_newI (o_dup (o_ic 0 (o_ild 3 (o_iast (o_invS 127 3 (o_ic 10 (o_if2 10 p_ne nx jp cal) jp cal) jp cal) jp cal) jp cal) jp cal) jp cal) jp cal) jp cal) jp cal) jp cal,
  fun nx jp cal => o_ald 0 (o_ic 66 (o_ic 2 (o_newI (o_dup (o_ic 0 (o_ild 3 (o_ic 2 (o_rem (o_iast (o_dup (o_ic 1 (o_ic 10 (o_iast (o_invS 127 3 (o_ic 1 (o_if2 10 p_ne nx jp cal) jp cal) jp cal) jp cal) jp cal) jp cal) jp cal) jp cal) jp cal) jp cal) jp cal) jp cal) jp cal) jp cal) jp cal) jp cal) jp cal,
  fun nx jp cal => o_ald 0 (o_ic 75 (o_ic 0 (o_newI (o_invS 127 3 (o_ild 3 (o_ic 2 (o_rem (o_if2 11 p_eq nx jp cal) jp cal) jp cal) jp cal) jp cal) jp cal) jp cal) jp cal) jp cal,
  o_no,
  fun nx jp cal => o_inc 3 1 (o_go 5 nx jp cal) jp cal,
  fun nx jp cal => o_ald 0 (o_ic 112 (o_ic 1 (o_newI (o_dup (o_ic 0 (o_ic 0 (o_iast (o_invS 127 3 (o_ic 140 (o_if2 19 p_ne nx jp cal) jp cal) jp cal) jp cal) jp cal) jp cal) jp cal) jp cal) jp cal) jp cal) jp cal,
  fun nx jp cal => o_ald 0 (o_ic 71 (o_ic 3 (o_newI (o_dup (o_ic 0 (o_ic 0 (o_iast (o_dup (o_ic 1 (o_ic 0 (o_iast (o_dup (o_ic 2 (o_ic 0 (o_iast (o_invS 127 3 (o_ic 2294967294 (o_if2 19 p_ne nx jp cal) jp cal) jp cal) jp cal) jp cal) jp cal) jp cal) jp cal) jp cal) jp cal) jp cal) jp cal) jp cal) jp cal) jp cal) jp cal) jp cal) jp cal) jp cal,
  fun nx jp cal => o_ald 0 (o_ic 71 (o_ic 3 (o_newI (o_dup (o_ic 0 (o_ic 0 (o_iast (o_dup (o_ic 1 (o_ic 1 (o_iast (o_dup (o_ic 2 (o_ic 0 (o_iast (o_invS 127 3 (o_ic 1 (o_if2 19 p_ne nx jp cal) jp cal) jp cal) jp cal) jp cal) jp cal) jp cal) jp cal) jp cal) jp cal) jp cal) jp cal) jp cal) jp cal) jp cal) jp cal) jp cal) jp cal) jp cal,
  fun nx jp cal => o_ald 0 (o_ic 71 (o_ic 3 (o_newI (o_dup (o_ic 0 (o_ic 0 (o_iast (o_dup (o_ic 1 (o_ic 1 (o_iast (o_dup (o_ic 2 (o_ic 0 (o_iast (o_invS 127 3 (o_ic 2294967293 (o_if2 19 p_ne nx jp cal) jp cal) jp cal) jp cal) jp cal) jp cal) jp cal) jp cal) jp cal) jp cal) jp cal) jp cal) jp cal) jp cal) jp cal) jp cal) jp cal) jp cal) jp cal,
  fun nx jp cal => o_ald 0 (o_ic 85 (o_ic 1 (o_newI (o_dup (o_ic 0 (o_ic 0 (o_iast (o_invS 127 3 (o_ic 2294967292 (o_if2 19 p_ne nx jp cal) jp cal) jp cal) jp cal) jp cal) jp cal) jp cal) jp cal) jp cal) jp cal) jp cal,
  fun nx jp cal => o_ald 0 (o_ic 78 (o_ic 0 (o_newI (o_invS 127 3 (o_ic 2294967293 (o_if2 19 p_ne nx jp cal) jp cal) jp cal) jp cal) jp cal) jp cal) jp cal,
  fun nx jp cal => o_ic 1 (o_go 20 nx jp cal) jp cal,
  o_no,
  o_bret 1]
noncomputable def k_L_hasNone : List Op := [fun nx jp cal => o_ild 1 (o_if 2 p_eq0 nx jp cal) jp cal,
  fun nx jp cal => o_ald 0 (o_invX 16 1 11 [(5, 3)] (o_no nx jp cal) jp cal) jp cal,
  fun nx jp cal => o_ald 0 (o_invX 28 1 11 [(5, 3)] (o_no nx jp cal) jp cal) jp cal,
  fun nx jp cal => o_xst 1 (o_ic 1 (o_bret 1 nx jp cal) jp cal) jp cal]
noncomputable def k_X10_caughtLoss : List Op := [fun nx jp cal => o_ild 1 (o_ic 3 (o_if2 2 p_gt nx jp cal) jp cal) jp cal,
  fun nx jp cal => o_ic 2 (o_go 3 nx jp cal) jp cal,
  o_ic 1,
  fun nx jp cal => o_ist 1 (o_ild 0 (o_ic 1 (o_if2 5 p_ne nx jp cal) jp cal) jp cal) jp cal,
  fun nx jp cal => o_ild 2 (o_ic 2 (o_bin f_add (o_go 6 nx jp cal) jp cal) jp cal) jp cal,
  o_ild 2,
  o_iret]
noncomputable def k_X10_chance : List Op := [fun nx jp cal => o_ild 0 (o_i2d (o_v (.inr (.inr (.inr (.inl 4636737291354636288)))) (o_dbin (FP.Core.div FP.Core.b64) (o_dret nx jp cal) jp cal) jp cal) jp cal) jp cal]
noncomputable def k_X10_defendersBehindOut : List Op := [fun nx jp cal => o_ild 0 (o_ic 7 (o_if2 2 p_ge nx jp cal) jp cal) jp cal,
  fun nx jp cal => o_ild 0 (o_ic 1 (o_bin f_add (o_go 3 nx jp cal) jp cal) jp cal) jp cal,
  o_ic 7,
  o_iret]
noncomputable def k_X10_defendersBehindTouch : List Op := [fun nx jp cal => o_ild 0 (o_ic 1 (o_if2 2 p_ne nx jp cal) jp cal) jp cal,
  fun nx jp cal => o_ic 7 (o_go 3 nx jp cal) jp cal,
  fun nx jp cal => o_ild 0 (o_ic 1 (o_bin f_sub nx jp cal) jp cal) jp cal,
  o_iret]
noncomputable def k_X10_doOrDieLoss : List Op := [fun nx jp cal => o_ild 0 (o_ic 1 (o_if2 2 p_ne nx jp cal) jp cal) jp cal,
  fun nx jp cal => o_ic 3 (o_go 3 nx jp cal) jp cal,
  o_ic 1,
  o_iret]
noncomputable def k_X10_isSolvedBackward : List Op := [fun nx jp cal => o_ald 0 (o_ald 0 (o_get 10 2 (o_ald 0 (o_get 10 3 (o_ald 0 (o_get 10 4 (o_ald 0 (o_get 10 5 (o_ic 2 (o_invV 7 6 10 (o_ald 0 (o_ic 2 (o_invV 12 2 10 (o_dcmp (o_if 2 p_ne0 nx jp cal) jp cal) jp cal) jp cal) jp cal) jp cal) jp cal) jp cal) jp cal) jp cal) jp cal) jp cal) jp cal) jp cal) jp cal) jp cal,
  fun nx jp cal => o_ic 1 (o_go 3 nx jp cal) jp cal,
  o_no,
  o_bret 1]
noncomputable def k_X10_keep : List Op := [fun nx jp cal => o_ild 1 (o_if 3 p_lt0 nx jp cal) jp cal,
  fun nx jp cal => o_ild 1 (o_ald 0 (o_get 10 0 (o_alen (o_if2 3 p_ge nx jp cal) jp cal) jp cal) jp cal) jp cal,
  fun nx jp cal => o_ald 0 (o_get 10 0 (o_ild 1 (o_dld 2 (o_dast nx jp cal) jp cal) jp cal) jp cal) jp cal,
  o_ret]
noncomputable def k_X10_lookAhead : List Op := [fun nx jp cal => o_ild 5 (o_if 2 p_gt0 nx jp cal) jp cal,
  fun nx jp cal => o_v (.inr (.inr (.inr (.inl 0)))) (o_dret nx jp cal) jp cal,
  fun nx jp cal => o_ild 5 (o_ic 1 (o_bin f_sub (o_ist 5 (o_ild 2 (o_invS 15 1 (o_i2d (o_ald 0 (o_ild 2 (o_invS 3 1 (o_ild 1 (o_invS 10 1 (o_ild 4 (o_ic 0 (o_ild 6 (o_invV 7 6 10 (o_dbin (FP.Core.sub FP.Core.b64) (o_wst true 6 (o_ald 0 (o_ild 2 (o_invS 2 1 (o_ild 1 (o_invS 9 1 (o_ild 4 (o_ic 0 (o_ild 6 (o_invV 7 6 10 (o_wst true 8 (o_ild 3 (o_ic 2 (o_if2 4 p_ge nx jp cal) jp cal) jp cal) jp cal) jp cal) jp cal) jp cal) jp cal) jp cal) jp cal) jp cal) jp cal) jp cal) jp cal) jp cal) jp cal) jp cal) jp cal) jp cal) jp cal) jp cal) jp cal) jp cal) jp cal) jp cal) jp cal) jp cal) jp cal) jp cal) jp cal) jp cal,
  fun nx jp cal => o_v (.inr (.inr (.inr (.inl 0)))) (o_ald 0 (o_ild 2 (o_ild 1 (o_ild 4 (o_ild 3 (o_ic 1 (o_bin f_add (o_ild 6 (o_invV 7 6 10 (o_dbin (FP.Core.sub FP.Core.b64) (o_go 5 nx jp cal) jp cal) jp cal) jp cal) jp cal) jp cal) jp cal) jp cal) jp cal) jp cal) jp cal) jp cal,
  o_no,
  fun nx jp cal => o_wst true 10 (o_ald 0 (o_get 10 6 (o_invS 1 1 (o_dld 7 (o_dbin (FP.Core.mul FP.Core.b64) (o_ald 0 (o_get 10 7 (o_invS 1 1 (o_ild 1 (o_ild 2 (o_invS 0 2 (o_un f_neg (o_i2d (o_dld 9 (o_dbin (FP.Core.sub FP.Core.b64) (o_dbin (FP.Core.mul FP.Core.b64) (o_dbin (FP.Core.add FP.Core.b64) (o_ic 100 (o_ald 0 (o_get 10 6 (o_bin f_sub (o_ald 0 (o_get 10 7 (o_bin f_sub (o_invS 1 1 (o_dld 11 (o_dbin (FP.Core.mul FP.Core.b64) (o_dbin (FP.Core.add FP.Core.b64) (o_dret nx jp cal) jp cal) jp cal) jp cal) jp cal) jp cal) jp cal) jp cal) jp cal) jp cal) jp cal) jp cal) jp cal) jp cal) jp cal) jp cal) jp cal) jp cal) jp cal) jp cal) jp cal) jp cal) jp cal) jp cal) jp cal) jp cal) jp cal) jp cal) jp cal) jp cal]
noncomputable def k_X10_pair : List Op := [fun nx jp cal => o_ild 0 (o_ic 1 (o_bin f_sub (o_ic 7 (o_bin f_mul (o_ild 1 (o_bin f_add (o_ic 1 (o_bin f_sub (o_ic 9 (o_bin f_mul (o_iret nx jp cal) jp cal) jp cal) jp cal) jp cal) jp cal) jp cal) jp cal) jp cal) jp cal) jp cal) jp cal]
noncomputable def k_X10_raidersBehindOut : List Op := [fun nx jp cal => o_ild 0 (o_ic 1 (o_if2 2 p_ne nx jp cal) jp cal) jp cal,
  fun nx jp cal => o_ic 7 (o_go 3 nx jp cal) jp cal,
  fun nx jp cal => o_ild 0 (o_ic 1 (o_bin f_sub nx jp cal) jp cal) jp cal,
  o_iret]
noncomputable def k_X10_raidersBehindTouch : List Op := [fun nx jp cal => o_ild 0 (o_ic 7 (o_if2 2 p_ge nx jp cal) jp cal) jp cal,
  fun nx jp cal => o_ild 0 (o_ic 1 (o_bin f_add (o_go 3 nx jp cal) jp cal) jp cal) jp cal,
  o_ic 7,
  o_iret]
noncomputable def k_X10_read : List Op := [fun nx jp cal => o_ild 1 (o_if 3 p_lt0 nx jp cal) jp cal,
  fun nx jp cal => o_ild 1 (o_ald 0 (o_alen (o_if2 3 p_ge nx jp cal) jp cal) jp cal) jp cal,
  fun nx jp cal => o_ald 0 (o_ild 1 (o_dald (o_go 4 nx jp cal) jp cal) jp cal) jp cal,
  o_no,
  o_dret]
noncomputable def k_X10_solveBackward : List Op := [fun nx jp cal => o_ic 0 (o_ist 1 nx jp cal) jp cal,
  fun nx jp cal => o_ild 2 (o_ic 441 (o_if2 3 p_ge nx jp cal) jp cal) jp cal,
  fun nx jp cal => o_ald 0 (o_ild 2 (o_v (.inr (.inr (.inr (.inl 0)))) (o_invV 6 3 10 (o_inc 2 1 (o_go 1 nx jp cal) jp cal) jp cal) jp cal) jp cal) jp cal,
  fun nx jp cal => o_ic 1 (o_ist 1 nx jp cal) jp cal,
  fun nx jp cal => o_ild 2 (o_ild 1 (o_if2 6 p_gt nx jp cal) jp cal) jp cal,
  fun nx jp cal => o_ald 0 (o_get 10 0 (o_ast 2 (o_ald 0 (o_ald 0 (o_get 10 1 (o_putR 10 0 (o_ald 0 (o_ald 3 (o_putR 10 1 (o_ald 0 (o_invV 13 1 10 (o_inc 2 1 (o_go 4 nx jp cal) jp cal) jp cal) jp cal) jp cal) jp cal) jp cal) jp cal) jp cal) jp cal) jp cal) jp cal) jp cal) jp cal,
  fun nx jp cal => o_ald 0 (o_get 10 0 (o_ald 0 (o_get 10 2 (o_ald 0 (o_get 10 3 (o_invS 8 2 (o_ald 0 (o_get 10 4 (o_ic 3 (o_bin f_mul (o_bin f_add (o_ald 0 (o_get 10 5 (o_bin f_add (o_invS 11 2 (o_dret nx jp cal) jp cal) jp cal) jp cal) jp cal) jp cal) jp cal) jp cal) jp cal) jp cal) jp cal) jp cal) jp cal) jp cal) jp cal) jp cal) jp cal]
noncomputable def k_X10_solveOneMore : List Op := [fun nx jp cal => o_ic 1 (o_ist 0 nx jp cal) jp cal,
  fun nx jp cal => o_ild 1 (o_ic 7 (o_if2 6 p_gt nx jp cal) jp cal) jp cal,
  fun nx jp cal => o_ic 1 (o_ist 1 nx jp cal) jp cal,
  fun nx jp cal => o_ild 2 (o_ic 7 (o_if2 5 p_gt nx jp cal) jp cal) jp cal,
  fun nx jp cal => o_ald 0 (o_ild 1 (o_ild 2 (o_invV 14 3 10 (o_inc 2 1 (o_go 3 nx jp cal) jp cal) jp cal) jp cal) jp cal) jp cal,
  fun nx jp cal => o_inc 1 1 (o_go 1 nx jp cal) jp cal,
  o_ret]
noncomputable def k_X10_solvePair : List Op := [fun nx jp cal => o_ild 1 (o_ild 2 (o_invS 8 2 (o_ist 2 (o_ild 2 (o_ild 1 (o_invS 8 2 (o_ist 3 (o_ild 2 (o_invS 3 1 (o_ild 1 (o_invS 10 1 (o_invS 8 2 (o_ist 4 (o_ild 2 (o_invS 2 1 (o_ild 1 (o_invS 9 1 (o_invS 8 2 (o_ist 5 (o_ic 100 (o_ald 0 (o_get 10 6 (o_bin f_sub (o_ald 0 (o_get 10 7 (o_bin f_sub (o_invS 1 1 (o_wst true 6 (o_ic 0 (o_ist 8 nx jp cal) jp cal) jp cal) jp cal) jp cal) jp cal) jp cal) jp cal) jp cal) jp cal) jp cal) jp cal) jp cal) jp cal) jp cal) jp cal) jp cal) jp cal) jp cal) jp cal) jp cal) jp cal) jp cal) jp cal) jp cal) jp cal) jp cal) jp cal) jp cal) jp cal) jp cal,
  fun nx jp cal => o_ild 9 (o_ic 2 (o_if2 6 p_gt nx jp cal) jp cal) jp cal,
  fun nx jp cal => o_ald 0 (o_get 10 6 (o_invS 1 1 (o_ild 2 (o_invS 15 1 (o_i2d (o_ald 0 (o_get 10 1 (o_ild 5 (o_ild 9 (o_ic 3 (o_bin f_mul (o_bin f_add (o_invS 11 2 (o_dbin (FP.Core.sub FP.Core.b64) (o_dbin (FP.Core.mul FP.Core.b64) (o_ald 0 (o_get 10 7 (o_invS 1 1 (o_ild 1 (o_ild 2 (o_invS 0 2 (o_un f_neg (o_i2d (o_ald 0 (o_get 10 1 (o_ild 6 (o_ild 9 (o_ic 3 (o_bin f_mul (o_bin f_add (o_invS 11 2 (o_dbin (FP.Core.sub FP.Core.b64) (o_dbin (FP.Core.mul FP.Core.b64) (o_dbin (FP.Core.add FP.Core.b64) (o_wst true 9 (o_ic 0 (o_ist 11 nx jp cal) jp cal) jp cal) jp cal) jp cal) jp cal) jp cal) jp cal) jp cal) jp cal) jp cal) jp cal) jp cal) jp cal) jp cal) jp cal) jp cal) jp cal) jp cal) jp cal) jp cal) jp cal) jp cal) jp cal) jp cal) jp cal) jp cal) jp cal) jp cal) jp cal) jp cal) jp cal) jp cal) jp cal) jp cal) jp cal) jp cal) jp cal,
  fun nx jp cal => o_ild 12 (o_ic 2 (o_if2 5 p_ge nx jp cal) jp cal) jp cal,
  fun nx jp cal => o_ald 0 (o_ild 3 (o_ild 12 (o_ic 3 (o_bin f_mul (o_bin f_add (o_ild 9 (o_bin f_add (o_dld 10 (o_dld 7 (o_v (.inr (.inr (.inr (.inl 0)))) (o_ald 0 (o_get 10 1 (o_ild 4 (o_ild 9 (o_ic 3 (o_bin f_mul (o_bin f_add (o_ild 12 (o_bin f_add (o_ic 1 (o_bin f_add (o_invS 11 2 (o_dbin (FP.Core.sub FP.Core.b64) (o_dbin (FP.Core.mul FP.Core.b64) (o_dbin (FP.Core.add FP.Core.b64) (o_invV 6 3 10 (o_inc 12 1 (o_go 3 nx jp cal) jp cal) jp cal) jp cal) jp cal) jp cal) jp cal) jp cal) jp cal) jp cal) jp cal) jp cal) jp cal) jp cal) jp cal) jp cal) jp cal) jp cal) jp cal) jp cal) jp cal) jp cal) jp cal) jp cal) jp cal) jp cal) jp cal) jp cal) jp cal,
  fun nx jp cal => o_ald 0 (o_ild 3 (o_ic 6 (o_bin f_add (o_ild 9 (o_bin f_add (o_dld 10 (o_dld 7 (o_ild 1 (o_invS 4 1 (o_un f_neg (o_i2d (o_ald 0 (o_get 10 1 (o_ild 6 (o_ild 9 (o_ic 3 (o_bin f_mul (o_bin f_add (o_invS 11 2 (o_dbin (FP.Core.sub FP.Core.b64) (o_dbin (FP.Core.mul FP.Core.b64) (o_dbin (FP.Core.add FP.Core.b64) (o_invV 6 3 10 (o_inc 9 1 (o_go 1 nx jp cal) jp cal) jp cal) jp cal) jp cal) jp cal) jp cal) jp cal) jp cal) jp cal) jp cal) jp cal) jp cal) jp cal) jp cal) jp cal) jp cal) jp cal) jp cal) jp cal) jp cal) jp cal) jp cal) jp cal) jp cal) jp cal,
  o_ret]
noncomputable def k_X10_touchGain : List Op := [fun nx jp cal => o_ild 0 (o_ic 1 (o_if2 2 p_ne nx jp cal) jp cal) jp cal,
  fun nx jp cal => o_ic 3 (o_go 3 nx jp cal) jp cal,
  o_ic 1,
  o_iret]
noncomputable def t_X11_init : En := ((k_X11_init, []), (yX11_init, (cX11_init, (1, (none, [])))))
noncomputable def t_X11_allOut : En := ((k_X11_allOut, []), (yX11_allOut, (cX11_allOut, (3, ((Option.some FieldType.int), [])))))
noncomputable def t_X11_arePursesRight : En := ((k_X11_arePursesRight, [.inr (.inr (.inr (.inr (.inr 2)))), .inr (.inr (.inr (.inr (.inr 2))))]), (yX11_arePursesRight, (cX11_arePursesRight, (3, ((Option.some FieldType.boolean), [])))))
noncomputable def t_X11_baseOf : En := ((k_X11_baseOf, []), (yX11_baseOf, (cX11_baseOf, (1, ((Option.some FieldType.int), [])))))
noncomputable def t_X11_begin : En := ((k_X11_begin, []), (yX11_begin, (cX11_begin, (4, ((Option.some FieldType.int), [])))))
noncomputable def t_X11_benchAt : En := ((k_X11_benchAt, []), (yX11_benchAt, (cX11_benchAt, (3, ((Option.some FieldType.int), [])))))
noncomputable def t_X11_bid : En := ((k_X11_bid, []), (yX11_bid, (cX11_bid, (3, ((Option.some FieldType.int), [])))))
noncomputable def t_X11_bonus : En := ((k_X11_bonus, []), (yX11_bonus, (cX11_bonus, (1, ((Option.some FieldType.int), [])))))
noncomputable def t_X11_bringHome : En := ((k_X11_bringHome, [.inr (.inr (.inr (.inr (.inr 2))))]), (yX11_bringHome, (cX11_bringHome, (2, (none, [])))))
noncomputable def t_X11_canTake : En := ((k_X11_canTake, []), (yX11_canTake, (cX11_canTake, (3, ((Option.some FieldType.boolean), [])))))
noncomputable def t_X11_card : En := ((k_X11_card, [.inr (.inr (.inr (.inr (.inr 2)))), .inr (.inr (.inr (.inr (.inr 2)))), .inr (.inr (.inr (.inr (.inr 2))))]), (yX11_card, (cX11_card, (6, ((Option.some FieldType.char), [])))))
noncomputable def t_X11_champion : En := ((k_X11_champion, [.inr (.inr (.inr (.inr (.inr 2))))]), (yX11_champion, (cX11_champion, (2, ((Option.some FieldType.int), [])))))
noncomputable def t_X11_checksum : En := ((k_X11_checksum, [.inr (.inr (.inr (.inr (.inr 2)))), .inr (.inr (.inr (.inr (.inr 2))))]), (yX11_checksum, (cX11_checksum, (3, ((Option.some FieldType.long), [])))))
noncomputable def t_X11_closeRaid : En := ((k_X11_closeRaid, [.inr (.inr (.inr (.inr (.inr 2)))), .inr (.inr (.inr (.inr (.inr 2)))), .inr (.inr (.inr (.inr (.inr 2))))]), (yX11_closeRaid, (cX11_closeRaid, (8, (none, [])))))
noncomputable def t_X11_comeBack : En := ((k_X11_comeBack, []), (yX11_comeBack, (cX11_comeBack, (1, ((Option.some FieldType.int), [])))))
noncomputable def t_X11_edition : En := ((k_X11_edition, [.inr (.inr (.inr (.inr (.inr 2))))]), (yX11_edition, (cX11_edition, (6, ((Option.some FieldType.int), [])))))
noncomputable def t_X11_emptyShare : En := ((k_X11_emptyShare, []), (yX11_emptyShare, (cX11_emptyShare, (1, ((Option.some FieldType.float), [])))))
noncomputable def t_X11_endSittings : En := ((k_X11_endSittings, [.inr (.inr (.inr (.inr (.inr 2)))), .inr (.inr (.inr (.inr (.inr 2))))]), (yX11_endSittings, (cX11_endSittings, (3, (none, [])))))
noncomputable def t_X11_goesOn : En := ((k_X11_goesOn, []), (yX11_goesOn, (cX11_goesOn, (1, ((Option.some FieldType.boolean), [])))))
noncomputable def t_X11_isAbility : En := ((k_X11_isAbility, []), (yX11_isAbility, (cX11_isAbility, (1, ((Option.some FieldType.boolean), [])))))
noncomputable def t_X11_isEachInOnePlace : En := ((k_X11_isEachInOnePlace, [.inr (.inr (.inr (.inr (.inr 2)))), .inr (.inr (.inr (.inr (.inr 2)))), .inr (.inr (.inr (.inr (.inr 2)))), .inr (.inr (.inr (.inr (.inr 2))))]), (yX11_isEachInOnePlace, (cX11_isEachInOnePlace, (5, ((Option.some FieldType.boolean), [])))))
noncomputable def t_X11_isEachInOneSquad : En := ((k_X11_isEachInOneSquad, [.inr (.inr (.inr (.inr (.inr 2)))), .inr (.inr (.inr (.inr (.inr 2))))]), (yX11_isEachInOneSquad, (cX11_isEachInOneSquad, (3, ((Option.some FieldType.boolean), [])))))
noncomputable def t_X11_isTrue : En := ((k_X11_isTrue, []), (yX11_isTrue, (cX11_isTrue, (1, ((Option.some FieldType.boolean), [])))))
noncomputable def t_X11_knockDown : En := ((k_X11_knockDown, [.inr (.inr (.inr (.inr (.inr 2))))]), (yX11_knockDown, (cX11_knockDown, (2, ((Option.some FieldType.int), [])))))
noncomputable def t_X11_league : En := ((k_X11_league, []), (yX11_league, (cX11_league, (2, ((Option.some FieldType.int), [])))))
noncomputable def t_X11_lowestBid : En := ((k_X11_lowestBid, []), (yX11_lowestBid, (cX11_lowestBid, (1, ((Option.some FieldType.int), [])))))
noncomputable def t_X11_matAt : En := ((k_X11_matAt, []), (yX11_matAt, (cX11_matAt, (3, ((Option.some FieldType.int), [])))))
noncomputable def t_X11_match : En := ((k_X11_match, [.inr (.inr (.inr (.inr (.inr 2))))]), (yX11_match, (cX11_match, (3, ((Option.some FieldType.int), [])))))
noncomputable def t_X11_meanPoints : En := ((k_X11_meanPoints, []), (yX11_meanPoints, (cX11_meanPoints, (1, ((Option.some FieldType.double), [])))))
noncomputable def t_X11_needPause : En := ((k_X11_needPause, []), (yX11_needPause, (cX11_needPause, (1, (none, [])))))
noncomputable def t_X11_needPlayer : En := ((k_X11_needPlayer, []), (yX11_needPlayer, (cX11_needPlayer, (2, (none, [])))))
noncomputable def t_X11_needRaid : En := ((k_X11_needRaid, []), (yX11_needRaid, (cX11_needRaid, (1, (none, [])))))
noncomputable def t_X11_needSide : En := ((k_X11_needSide, []), (yX11_needSide, (cX11_needSide, (1, (none, [])))))
noncomputable def t_X11_needSquad : En := ((k_X11_needSquad, []), (yX11_needSquad, (cX11_needSquad, (2, (none, [])))))
noncomputable def t_X11_onMat : En := ((k_X11_onMat, []), (yX11_onMat, (cX11_onMat, (2, ((Option.some FieldType.int), [])))))
noncomputable def t_X11_outAt : En := ((k_X11_outAt, []), (yX11_outAt, (cX11_outAt, (3, ((Option.some FieldType.int), [])))))
noncomputable def t_X11_placed : En := ((k_X11_placed, []), (yX11_placed, (cX11_placed, (2, ((Option.some FieldType.int), [])))))
noncomputable def t_X11_player : En := ((k_X11_player, []), (yX11_player, (cX11_player, (5, ((Option.some FieldType.int), [])))))
noncomputable def t_X11_playingSide : En := ((k_X11_playingSide, []), (yX11_playingSide, (cX11_playingSide, (2, ((Option.some (FieldType.object "Raidline$Side")), [])))))
noncomputable def t_X11_points : En := ((k_X11_points, []), (yX11_points, (cX11_points, (2, ((Option.some FieldType.int), [])))))
noncomputable def t_X11_present : En := ((k_X11_present, []), (yX11_present, (cX11_present, (1, ((Option.some FieldType.int), [])))))
noncomputable def t_X11_purse : En := ((k_X11_purse, []), (yX11_purse, (cX11_purse, (2, ((Option.some FieldType.int), [])))))
noncomputable def t_X11_putRight : En := ((k_X11_putRight, [.inr (.inr (.inr (.inr (.inr 2))))]), (yX11_putRight, (cX11_putRight, (3, (none, [])))))
noncomputable def t_X11_putUp : En := ((k_X11_putUp, []), (yX11_putUp, (cX11_putUp, (2, ((Option.some FieldType.int), [])))))
noncomputable def t_X11_raid : En := ((k_X11_raid, []), (yX11_raid, (cX11_raid, (2, ((Option.some FieldType.boolean), [])))))
noncomputable def t_X11_raids : En := ((k_X11_raids, []), (yX11_raids, (cX11_raids, (1, ((Option.some FieldType.int), [])))))
noncomputable def t_X11_review : En := ((k_X11_review, []), (yX11_review, (cX11_review, (3, ((Option.some FieldType.boolean), [])))))
noncomputable def t_X11_season : En := ((k_X11_season, []), (yX11_season, (cX11_season, (1, ((Option.some FieldType.int), [])))))
noncomputable def t_X11_sell : En := ((k_X11_sell, []), (yX11_sell, (cX11_sell, (4, (none, [])))))
noncomputable def t_X11_squad : En := ((k_X11_squad, []), (yX11_squad, (cX11_squad, (1, ((Option.some FieldType.int), [])))))
noncomputable def t_X11_squadOf : En := ((k_X11_squadOf, []), (yX11_squadOf, (cX11_squadOf, (2, ((Option.some FieldType.int), [])))))
noncomputable def t_X11_stepOut : En := ((k_X11_stepOut, [.inr (.inr (.inr (.inr (.inr 2))))]), (yX11_stepOut, (cX11_stepOut, (3, ((Option.some FieldType.int), [])))))
noncomputable def t_X11_struggle : En := ((k_X11_struggle, [.inr (.inr (.inr (.inr (.inr 2)))), .inr (.inr (.inr (.inr (.inr 2))))]), (yX11_struggle, (cX11_struggle, (4, ((Option.some FieldType.int), [])))))
noncomputable def t_X11_substitute : En := ((k_X11_substitute, [.inr (.inr (.inr (.inr (.inr 2))))]), (yX11_substitute, (cX11_substitute, (4, ((Option.some FieldType.int), [])))))
noncomputable def t_X11_takeTouched : En := ((k_X11_takeTouched, [.inr (.inr (.inr (.inr (.inr 2))))]), (yX11_takeTouched, (cX11_takeTouched, (4, (none, [])))))
noncomputable def t_X11_told : En := ((k_X11_told, []), (yX11_told, (cX11_told, (3, ((Option.some FieldType.int), [])))))
noncomputable def t_X11_touch : En := ((k_X11_touch, [.inr (.inr (.inr (.inr (.inr 2))))]), (yX11_touch, (cX11_touch, (5, ((Option.some FieldType.int), [])))))
noncomputable def t_X11_turn : En := ((k_X11_turn, []), (yX11_turn, (cX11_turn, (1, ((Option.some FieldType.int), [])))))
noncomputable def t_X11_wouldEmptyMat : En := ((k_X11_wouldEmptyMat, [.inr (.inr (.inr (.inr (.inr 2))))]), (yX11_wouldEmptyMat, (cX11_wouldEmptyMat, (3, ((Option.some FieldType.boolean), [])))))
noncomputable def t_X0_init : En := ((k_X0_init, []), (yX0_init, (cX0_init, (1, (none, [])))))
noncomputable def t_X0_close : En := ((k_X0_close, []), (yX0_close, (cX0_close, (1, (none, [])))))
noncomputable def t_X0_isOpen : En := ((k_X0_isOpen, []), (yX0_isOpen, (cX0_isOpen, (1, ((Option.some FieldType.boolean), [])))))
noncomputable def t_X0_open : En := ((k_X0_open, []), (yX0_open, (cX0_open, (2, (none, [])))))
noncomputable def t_X0_take : En := ((k_X0_take, []), (yX0_take, (cX0_take, (3, (none, [])))))
noncomputable def t_X1_init : En := ((k_X1_init, []), (yX1_init, (cX1_init, (1, (none, [])))))
noncomputable def t_X1_enter : En := ((k_X1_enter, [.inr (.inr (.inr (.inr (.inr 2))))]), (yX1_enter, (cX1_enter, (2, ((Option.some FieldType.int), [])))))
noncomputable def t_X1_enterResult : En := ((k_X1_enterResult, []), (yX1_enterResult, (cX1_enterResult, (3, (none, [])))))
noncomputable def t_X1_enterResultOf : En := ((k_X1_enterResultOf, []), (yX1_enterResultOf, (cX1_enterResultOf, (3, (none, [])))))
noncomputable def t_X1_isBetter : En := ((k_X1_isBetter, []), (yX1_isBetter, (cX1_isBetter, (3, ((Option.some FieldType.boolean), [])))))
noncomputable def t_X1_placeOf : En := ((k_X1_placeOf, [.inr (.inr (.inr (.inr (.inr 2)))), .inr (.inr (.inr (.inr (.inr 2))))]), (yX1_placeOf, (cX1_placeOf, (4, ((Option.some FieldType.int), [])))))
noncomputable def t_X1_squadAt : En := ((k_X1_squadAt, [.inr (.inr (.inr (.inr (.inr 2))))]), (yX1_squadAt, (cX1_squadAt, (3, ((Option.some FieldType.int), [])))))
noncomputable def t_X1_startAnew : En := ((k_X1_startAnew, []), (yX1_startAnew, (cX1_startAnew, (1, (none, [])))))
noncomputable def t_X2_init : En := ((k_X2_init, []), (yX2_init, (cX2_init, (1, (none, [])))))
noncomputable def t_X2_change : En := ((k_X2_change, []), (yX2_change, (cX2_change, (5, (none, [])))))
noncomputable def t_X3_init : En := ((k_X3_init, []), (yX3_init, (cX3_init, (1, (none, [])))))
noncomputable def t_X3_append : En := ((k_X3_append, []), (yX3_append, (cX3_append, (2, (none, [])))))
noncomputable def t_X3_at : En := ((k_X3_at, []), (yX3_at, (cX3_at, (2, ((Option.some FieldType.int), [])))))
noncomputable def t_X3_clear : En := ((k_X3_clear, []), (yX3_clear, (cX3_clear, (1, (none, [])))))
noncomputable def t_X3_has : En := ((k_X3_has, [.inr (.inr (.inr (.inr (.inr 2))))]), (yX3_has, (cX3_has, (3, ((Option.some FieldType.boolean), [])))))
noncomputable def t_X3_insertByNumber : En := ((k_X3_insertByNumber, [.inr (.inr (.inr (.inr (.inr 2)))), .inr (.inr (.inr (.inr (.inr 2))))]), (yX3_insertByNumber, (cX3_insertByNumber, (4, (none, [])))))
noncomputable def t_X3_remove : En := ((k_X3_remove, [.inr (.inr (.inr (.inr (.inr 2)))), .inr (.inr (.inr (.inr (.inr 2))))]), (yX3_remove, (cX3_remove, (4, ((Option.some FieldType.boolean), [])))))
noncomputable def t_X4_init : En := ((k_X4_init, []), (yX4_init, (cX4_init, (1, (none, [])))))
noncomputable def t_X4_defenders : En := ((k_X4_defenders, []), (yX4_defenders, (cX4_defenders, (1, ((Option.some (FieldType.object "Raidline$Side")), [])))))
noncomputable def t_X4_isDecided : En := ((k_X4_isDecided, [.inr (.inr (.inr (.inr (.inr 2))))]), (yX4_isDecided, (cX4_isDecided, (2, ((Option.some FieldType.boolean), [])))))
noncomputable def t_X4_lastDefenders : En := ((k_X4_lastDefenders, []), (yX4_lastDefenders, (cX4_lastDefenders, (1, ((Option.some (FieldType.object "Raidline$Side")), [])))))
noncomputable def t_X4_lastRaiders : En := ((k_X4_lastRaiders, []), (yX4_lastRaiders, (cX4_lastRaiders, (1, ((Option.some (FieldType.object "Raidline$Side")), [])))))
noncomputable def t_X4_raiders : En := ((k_X4_raiders, []), (yX4_raiders, (cX4_raiders, (1, ((Option.some (FieldType.object "Raidline$Side")), [])))))
noncomputable def t_X4_sideAt : En := ((k_X4_sideAt, []), (yX4_sideAt, (cX4_sideAt, (2, ((Option.some (FieldType.object "Raidline$Side")), [])))))
noncomputable def t_X4_sideInTurn : En := ((k_X4_sideInTurn, []), (yX4_sideInTurn, (cX4_sideInTurn, (1, ((Option.some FieldType.int), [])))))
noncomputable def t_X4_sideOfRaid : En := ((k_X4_sideOfRaid, [.inr (.inr (.inr (.inr (.inr 2))))]), (yX4_sideOfRaid, (cX4_sideOfRaid, (3, ((Option.some FieldType.int), [])))))
noncomputable def t_X4_sideOfSquad : En := ((k_X4_sideOfSquad, []), (yX4_sideOfSquad, (cX4_sideOfSquad, (2, ((Option.some (FieldType.object "Raidline$Side")), [])))))
noncomputable def t_X4_sideWith : En := ((k_X4_sideWith, []), (yX4_sideWith, (cX4_sideWith, (2, ((Option.some (FieldType.object "Raidline$Side")), [])))))
noncomputable def t_X4_start : En := ((k_X4_start, []), (yX4_start, (cX4_start, (3, (none, [])))))
noncomputable def t_X5_init : En := ((k_X5_init, []), (yX5_init, (cX5_init, (1, (none, [])))))
noncomputable def t_X5_brought : En := ((k_X5_brought, []), (yX5_brought, (cX5_brought, (1, ((Option.some FieldType.int), [])))))
noncomputable def t_X5_forget : En := ((k_X5_forget, []), (yX5_forget, (cX5_forget, (1, (none, [])))))
noncomputable def t_X5_hasBreathFor : En := ((k_X5_hasBreathFor, []), (yX5_hasBreathFor, (cX5_hasBreathFor, (2, ((Option.some FieldType.boolean), [])))))
noncomputable def t_X5_isCalled : En := ((k_X5_isCalled, []), (yX5_isCalled, (cX5_isCalled, (2, ((Option.some FieldType.boolean), [])))))
noncomputable def t_X5_isReviewable : En := ((k_X5_isReviewable, []), (yX5_isReviewable, (cX5_isReviewable, (2, ((Option.some FieldType.boolean), [])))))
noncomputable def t_X5_isTouched : En := ((k_X5_isTouched, []), (yX5_isTouched, (cX5_isTouched, (2, ((Option.some FieldType.boolean), [])))))
noncomputable def t_X5_isWrong : En := ((k_X5_isWrong, [.inr (.inr (.inr (.inr (.inr 2))))]), (yX5_isWrong, (cX5_isWrong, (3, ((Option.some FieldType.boolean), [])))))
noncomputable def t_X5_markReviewed : En := ((k_X5_markReviewed, []), (yX5_markReviewed, (cX5_markReviewed, (2, (none, [])))))
noncomputable def t_X5_markTold : En := ((k_X5_markTold, []), (yX5_markTold, (cX5_markTold, (4, (none, [])))))
noncomputable def t_X5_spend : En := ((k_X5_spend, []), (yX5_spend, (cX5_spend, (2, ((Option.some FieldType.int), [])))))
noncomputable def t_X5_start : En := ((k_X5_start, []), (yX5_start, (cX5_start, (4, (none, [])))))
noncomputable def t_X6_init : En := ((k_X6_init, []), (yX6_init, (cX6_init, (1, (none, [])))))
noncomputable def t_X6_enter : En := ((k_X6_enter, [.inr (.inr (.inr (.inr (.inr 2))))]), (yX6_enter, (cX6_enter, (6, ((Option.some FieldType.int), [])))))
noncomputable def t_X6_paidBy : En := ((k_X6_paidBy, [.inr (.inr (.inr (.inr (.inr 2)))), .inr (.inr (.inr (.inr (.inr 2))))]), (yX6_paidBy, (cX6_paidBy, (4, ((Option.some FieldType.int), [])))))
noncomputable def t_X6_release : En := ((k_X6_release, [.inr (.inr (.inr (.inr (.inr 2)))), .inr (.inr (.inr (.inr (.inr 2)))), .inr (.inr (.inr (.inr (.inr 2))))]), (yX6_release, (cX6_release, (4, ((Option.some FieldType.int), [])))))
noncomputable def t_X6_sizeOf : En := ((k_X6_sizeOf, [.inr (.inr (.inr (.inr (.inr 2)))), .inr (.inr (.inr (.inr (.inr 2))))]), (yX6_sizeOf, (cX6_sizeOf, (4, ((Option.some FieldType.int), [])))))
noncomputable def t_X7_init : En := ((k_X7_init, []), (yX7_init, (cX7_init, (2, (none, [])))))
noncomputable def t_X7_add : En := ((k_X7_add, []), (yX7_add, (cX7_add, (3, (none, [])))))
noncomputable def t_X7_fill : En := ((k_X7_fill, [.inr (.inr (.inr (.inr (.inr 2))))]), (yX7_fill, (cX7_fill, (3, (none, [])))))
noncomputable def t_X7_get : En := ((k_X7_get, []), (yX7_get, (cX7_get, (2, ((Option.some FieldType.int), [])))))
noncomputable def t_X7_set : En := ((k_X7_set, []), (yX7_set, (cX7_set, (3, (none, [])))))
noncomputable def t_X8_init : En := ((k_X8_init, []), (yX8_init, (cX8_init, (1, (none, [])))))
noncomputable def t_X8_change : En := ((k_X8_change, []), (yX8_change, (cX8_change, (3, (none, [])))))
noncomputable def t_X8_comeOn : En := ((k_X8_comeOn, []), (yX8_comeOn, (cX8_comeOn, (2, (none, [])))))
noncomputable def t_X8_goOut : En := ((k_X8_goOut, [.inr (.inr (.inr (.inr (.inr 2))))]), (yX8_goOut, (cX8_goOut, (3, ((Option.some FieldType.boolean), [])))))
noncomputable def t_X8_isInPlay : En := ((k_X8_isInPlay, []), (yX8_isInPlay, (cX8_isInPlay, (2, ((Option.some FieldType.boolean), [])))))
noncomputable def t_X8_lineUp : En := ((k_X8_lineUp, [.inr (.inr (.inr (.inr (.inr 2))))]), (yX8_lineUp, (cX8_lineUp, (5, (none, [])))))
noncomputable def t_X8_placesOf : En := ((k_X8_placesOf, [.inr (.inr (.inr (.inr (.inr 2))))]), (yX8_placesOf, (cX8_placesOf, (3, ((Option.some FieldType.int), [])))))
noncomputable def t_X8_revive : En := ((k_X8_revive, [.inr (.inr (.inr (.inr (.inr 2))))]), (yX8_revive, (cX8_revive, (3, (none, [])))))
noncomputable def t_X8_sendOff : En := ((k_X8_sendOff, []), (yX8_sendOff, (cX8_sendOff, (2, (none, [])))))
noncomputable def t_X9_init : En := ((k_X9_init, []), (yX9_init, (cX9_init, (1, (none, [])))))
noncomputable def t_X9_record : En := ((k_X9_record, []), (yX9_record, (cX9_record, (4, (none, [])))))
noncomputable def t_X10_init : En := ((k_X10_init, []), (yX10_init, (cX10_init, (1, (none, [])))))
noncomputable def t_L_ask : En := ((k_L_ask, [.inr (.inr (.inr (.inr (.inr 2))))]), (yL_ask, (cL_ask, (4, ((Option.some FieldType.int), [(0, 241, 552, 110), (242, 246, 552, 110), (247, 254, 552, 110), (255, 265, 552, 110), (266, 273, 552, 110), (274, 278, 552, 110), (279, 286, 552, 110), (287, 294, 552, 110), (295, 299, 552, 110), (300, 325, 552, 110), (326, 348, 552, 110), (349, 353, 552, 110), (354, 361, 552, 110), (362, 369, 552, 110), (370, 380, 552, 110), (381, 391, 552, 110), (392, 402, 552, 110), (403, 418, 552, 110), (419, 450, 552, 110), (451, 455, 552, 110), (456, 463, 552, 110), (464, 471, 552, 110), (472, 476, 552, 110), (477, 488, 552, 110), (489, 499, 552, 110), (500, 518, 552, 110), (519, 530, 552, 110), (531, 538, 552, 110), (539, 546, 552, 110), (547, 551, 552, 110), (0, 241, 556, 115), (242, 246, 556, 115), (247, 254, 556, 115), (255, 265, 556, 115), (266, 273, 556, 115), (274, 278, 556, 115), (279, 286, 556, 115), (287, 294, 556, 115), (295, 299, 556, 115), (300, 325, 556, 115), (326, 348, 556, 115), (349, 353, 556, 115), (354, 361, 556, 115), (362, 369, 556, 115), (370, 380, 556, 115), (381, 391, 556, 115), (392, 402, 556, 115), (403, 418, 556, 115), (419, 450, 556, 115), (451, 455, 556, 115), (456, 463, 556, 115), (464, 471, 556, 115), (472, 476, 556, 115), (477, 488, 556, 115), (489, 499, 556, 115), (500, 518, 556, 115), (519, 530, 556, 115), (531, 538, 556, 115), (539, 546, 556, 115), (547, 551, 556, 115), (0, 241, 560, 118), (242, 246, 560, 118), (247, 254, 560, 118), (255, 265, 560, 118), (266, 273, 560, 118), (274, 278, 560, 118), (279, 286, 560, 118), (287, 294, 560, 118), (295, 299, 560, 118), (300, 325, 560, 118), (326, 348, 560, 118), (349, 353, 560, 118), (354, 361, 560, 118), (362, 369, 560, 118), (370, 380, 560, 118), (381, 391, 560, 118), (392, 402, 560, 118), (403, 418, 560, 118), (419, 450, 560, 118), (451, 455, 560, 118), (456, 463, 560, 118), (464, 471, 560, 118), (472, 476, 560, 118), (477, 488, 560, 118), (489, 499, 560, 118), (500, 518, 560, 118), (519, 530, 560, 118), (531, 538, 560, 118), (539, 546, 560, 118), (547, 551, 560, 118), (0, 241, 564, 121), (242, 246, 564, 121), (247, 254, 564, 121), (255, 265, 564, 121), (266, 273, 564, 121), (274, 278, 564, 121), (279, 286, 564, 121), (287, 294, 564, 121), (295, 299, 564, 121), (300, 325, 564, 121), (326, 348, 564, 121), (349, 353, 564, 121), (354, 361, 564, 121), (362, 369, 564, 121), (370, 380, 564, 121), (381, 391, 564, 121), (392, 402, 564, 121), (403, 418, 564, 121), (419, 450, 564, 121), (451, 455, 564, 121), (456, 463, 564, 121), (464, 471, 564, 121), (472, 476, 564, 121), (477, 488, 564, 121), (489, 499, 564, 121), (500, 518, 564, 121), (519, 530, 564, 121), (531, 538, 564, 121), (539, 546, 564, 121), (547, 551, 564, 121), (0, 241, 568, 124), (242, 246, 568, 124), (247, 254, 568, 124), (255, 265, 568, 124), (266, 273, 568, 124), (274, 278, 568, 124), (279, 286, 568, 124), (287, 294, 568, 124), (295, 299, 568, 124), (300, 325, 568, 124), (326, 348, 568, 124), (349, 353, 568, 124), (354, 361, 568, 124), (362, 369, 568, 124), (370, 380, 568, 124), (381, 391, 568, 124), (392, 402, 568, 124), (403, 418, 568, 124), (419, 450, 568, 124), (451, 455, 568, 124), (456, 463, 568, 124), (464, 471, 568, 124), (472, 476, 568, 124), (477, 488, 568, 124), (489, 499, 568, 124), (500, 518, 568, 124), (519, 530, 568, 124), (531, 538, 568, 124), (539, 546, 568, 124), (547, 551, 568, 124)])))))
noncomputable def t_L_begin : En := ((k_L_begin, [.inr (.inr (.inr (.inr (.inr 2))))]), (yL_begin, (cL_begin, (4, ((Option.some FieldType.boolean), [])))))
noncomputable def t_L_hasNone : En := ((k_L_hasNone, [.inr (.inr (.inr (.inr (.inr 2)))), .inr (.inr (.inr (.inr (.inr 2))))]), (yL_hasNone, (cL_hasNone, (4, ((Option.some FieldType.boolean), [(0, 18, 19, 135)])))))
noncomputable def t_X10_caughtLoss : En := ((k_X10_caughtLoss, [.inr (.inr (.inr (.inr (.inr 2))))]), (yX10_caughtLoss, (cX10_caughtLoss, (3, ((Option.some FieldType.int), [])))))
noncomputable def t_X10_chance : En := ((k_X10_chance, []), (yX10_chance, (cX10_chance, (1, ((Option.some FieldType.double), [])))))
noncomputable def t_X10_defendersBehindOut : En := ((k_X10_defendersBehindOut, []), (yX10_defendersBehindOut, (cX10_defendersBehindOut, (1, ((Option.some FieldType.int), [])))))
noncomputable def t_X10_defendersBehindTouch : En := ((k_X10_defendersBehindTouch, []), (yX10_defendersBehindTouch, (cX10_defendersBehindTouch, (1, ((Option.some FieldType.int), [])))))
noncomputable def t_X10_doOrDieLoss : En := ((k_X10_doOrDieLoss, []), (yX10_doOrDieLoss, (cX10_doOrDieLoss, (1, ((Option.some FieldType.int), [])))))
noncomputable def t_X10_isSolvedBackward : En := ((k_X10_isSolvedBackward, []), (yX10_isSolvedBackward, (cX10_isSolvedBackward, (1, ((Option.some FieldType.boolean), [])))))
noncomputable def t_X10_keep : En := ((k_X10_keep, []), (yX10_keep, (cX10_keep, (4, (none, [])))))
noncomputable def t_X10_lookAhead : En := ((k_X10_lookAhead, [.inr (.inr (.inr (.inr (.inr 2)))), .inr (.inr (.inr (.inr (.inr 2)))), .inr (.inr (.inr (.inr (.inr 2)))), .inr (.inr (.inr (.inr (.inr 2)))), .inr (.inr (.inr (.inr (.inr 2)))), .inr (.inr (.inr (.inr (.inr 2)))), .inr (.inr (.inr (.inr (.inr 2))))]), (yX10_lookAhead, (cX10_lookAhead, (13, ((Option.some FieldType.double), [])))))
noncomputable def t_X10_pair : En := ((k_X10_pair, []), (yX10_pair, (cX10_pair, (2, ((Option.some FieldType.int), [])))))
noncomputable def t_X10_raidersBehindOut : En := ((k_X10_raidersBehindOut, []), (yX10_raidersBehindOut, (cX10_raidersBehindOut, (1, ((Option.some FieldType.int), [])))))
noncomputable def t_X10_raidersBehindTouch : En := ((k_X10_raidersBehindTouch, []), (yX10_raidersBehindTouch, (cX10_raidersBehindTouch, (1, ((Option.some FieldType.int), [])))))
noncomputable def t_X10_read : En := ((k_X10_read, []), (yX10_read, (cX10_read, (2, ((Option.some FieldType.double), [])))))
noncomputable def t_X10_solveBackward : En := ((k_X10_solveBackward, [.inr (.inr (.inr (.inr (.inr 2)))), .inr (.inr (.inr (.inr (.inr 2))))]), (yX10_solveBackward, (cX10_solveBackward, (4, ((Option.some FieldType.double), [])))))
noncomputable def t_X10_solveOneMore : En := ((k_X10_solveOneMore, [.inr (.inr (.inr (.inr (.inr 2)))), .inr (.inr (.inr (.inr (.inr 2))))]), (yX10_solveOneMore, (cX10_solveOneMore, (3, (none, [])))))
noncomputable def t_X10_solvePair : En := ((k_X10_solvePair, [.inr (.inr (.inr (.inr (.inr 2)))), .inr (.inr (.inr (.inr (.inr 2)))), .inr (.inr (.inr (.inr (.inr 2)))), .inr (.inr (.inr (.inr (.inr 2)))), .inr (.inr (.inr (.inr (.inr 2)))), .inr (.inr (.inr (.inr (.inr 2)))), .inr (.inr (.inr (.inr (.inr 2)))), .inr (.inr (.inr (.inr (.inr 2)))), .inr (.inr (.inr (.inr (.inr 2)))), .inr (.inr (.inr (.inr (.inr 2))))]), (yX10_solvePair, (cX10_solvePair, (13, (none, [])))))
noncomputable def t_X10_touchGain : En := ((k_X10_touchGain, []), (yX10_touchGain, (cX10_touchGain, (1, ((Option.some FieldType.int), [])))))
noncomputable def tab : List En := [t_X11_init, t_X11_allOut, t_X11_arePursesRight, t_X11_baseOf, t_X11_begin, t_X11_benchAt, t_X11_bid, t_X11_bonus, t_X11_bringHome, t_X11_canTake, t_X11_card, t_X11_champion, t_X11_checksum, t_X11_closeRaid, t_X11_comeBack, t_X11_edition, t_X11_emptyShare, t_X11_endSittings, t_X11_goesOn, t_X11_isAbility, t_X11_isEachInOnePlace, t_X11_isEachInOneSquad, t_X11_isTrue, t_X11_knockDown, t_X11_league, t_X11_lowestBid, t_X11_matAt, t_X11_match, t_X11_meanPoints, t_X11_needPause, t_X11_needPlayer, t_X11_needRaid, t_X11_needSide, t_X11_needSquad, t_X11_onMat, t_X11_outAt, t_X11_placed, t_X11_player, t_X11_playingSide, t_X11_points, t_X11_present, t_X11_purse, t_X11_putRight, t_X11_putUp, t_X11_raid, t_X11_raids, t_X11_review, t_X11_season, t_X11_sell, t_X11_squad, t_X11_squadOf, t_X11_stepOut, t_X11_struggle, t_X11_substitute, t_X11_takeTouched, t_X11_told, t_X11_touch, t_X11_turn, t_X11_wouldEmptyMat, t_X0_init, t_X0_close, t_X0_isOpen, t_X0_open, t_X0_take, t_X1_init, t_X1_enter, t_X1_enterResult, t_X1_enterResultOf, t_X1_isBetter, t_X1_placeOf, t_X1_squadAt, t_X1_startAnew, t_X2_init, t_X2_change, t_X3_init, t_X3_append, t_X3_at, t_X3_clear, t_X3_has, t_X3_insertByNumber, t_X3_remove, t_X4_init, t_X4_defenders, t_X4_isDecided, t_X4_lastDefenders, t_X4_lastRaiders, t_X4_raiders, t_X4_sideAt, t_X4_sideInTurn, t_X4_sideOfRaid, t_X4_sideOfSquad, t_X4_sideWith, t_X4_start, t_X5_init, t_X5_brought, t_X5_forget, t_X5_hasBreathFor, t_X5_isCalled, t_X5_isReviewable, t_X5_isTouched, t_X5_isWrong, t_X5_markReviewed, t_X5_markTold, t_X5_spend, t_X5_start, t_X6_init, t_X6_enter, t_X6_paidBy, t_X6_release, t_X6_sizeOf, t_X7_init, t_X7_add, t_X7_fill, t_X7_get, t_X7_set, t_X8_init, t_X8_change, t_X8_comeOn, t_X8_goOut, t_X8_isInPlay, t_X8_lineUp, t_X8_placesOf, t_X8_revive, t_X8_sendOff, t_X9_init, t_X9_record, t_X10_init, t_L_ask, t_L_begin, t_L_hasNone]
noncomputable def tabV : List En := [t_X10_caughtLoss, t_X10_chance, t_X10_defendersBehindOut, t_X10_defendersBehindTouch, t_X10_doOrDieLoss, t_X10_isSolvedBackward, t_X10_keep, t_X10_lookAhead, t_X10_pair, t_X10_raidersBehindOut, t_X10_raidersBehindTouch, t_X10_read, t_X10_solveBackward, t_X10_solveOneMore, t_X10_solvePair, t_X10_touchGain]
theorem en_X11_init : tab[0]? = some t_X11_init := rfl
theorem en_X11_allOut : tab[1]? = some t_X11_allOut := rfl
theorem en_X11_arePursesRight : tab[2]? = some t_X11_arePursesRight := rfl
theorem en_X11_baseOf : tab[3]? = some t_X11_baseOf := rfl
theorem en_X11_begin : tab[4]? = some t_X11_begin := rfl
theorem en_X11_benchAt : tab[5]? = some t_X11_benchAt := rfl
theorem en_X11_bid : tab[6]? = some t_X11_bid := rfl
theorem en_X11_bonus : tab[7]? = some t_X11_bonus := rfl
theorem en_X11_bringHome : tab[8]? = some t_X11_bringHome := rfl
theorem en_X11_canTake : tab[9]? = some t_X11_canTake := rfl
theorem en_X11_card : tab[10]? = some t_X11_card := rfl
theorem en_X11_champion : tab[11]? = some t_X11_champion := rfl
theorem en_X11_checksum : tab[12]? = some t_X11_checksum := rfl
theorem en_X11_closeRaid : tab[13]? = some t_X11_closeRaid := rfl
theorem en_X11_comeBack : tab[14]? = some t_X11_comeBack := rfl
theorem en_X11_edition : tab[15]? = some t_X11_edition := rfl
theorem en_X11_emptyShare : tab[16]? = some t_X11_emptyShare := rfl
theorem en_X11_endSittings : tab[17]? = some t_X11_endSittings := rfl
theorem en_X11_goesOn : tab[18]? = some t_X11_goesOn := rfl
theorem en_X11_isAbility : tab[19]? = some t_X11_isAbility := rfl
theorem en_X11_isEachInOnePlace : tab[20]? = some t_X11_isEachInOnePlace := rfl
theorem en_X11_isEachInOneSquad : tab[21]? = some t_X11_isEachInOneSquad := rfl
theorem en_X11_isTrue : tab[22]? = some t_X11_isTrue := rfl
theorem en_X11_knockDown : tab[23]? = some t_X11_knockDown := rfl
theorem en_X11_league : tab[24]? = some t_X11_league := rfl
theorem en_X11_lowestBid : tab[25]? = some t_X11_lowestBid := rfl
theorem en_X11_matAt : tab[26]? = some t_X11_matAt := rfl
theorem en_X11_match : tab[27]? = some t_X11_match := rfl
theorem en_X11_meanPoints : tab[28]? = some t_X11_meanPoints := rfl
theorem en_X11_needPause : tab[29]? = some t_X11_needPause := rfl
theorem en_X11_needPlayer : tab[30]? = some t_X11_needPlayer := rfl
theorem en_X11_needRaid : tab[31]? = some t_X11_needRaid := rfl
theorem en_X11_needSide : tab[32]? = some t_X11_needSide := rfl
theorem en_X11_needSquad : tab[33]? = some t_X11_needSquad := rfl
theorem en_X11_onMat : tab[34]? = some t_X11_onMat := rfl
theorem en_X11_outAt : tab[35]? = some t_X11_outAt := rfl
theorem en_X11_placed : tab[36]? = some t_X11_placed := rfl
theorem en_X11_player : tab[37]? = some t_X11_player := rfl
theorem en_X11_playingSide : tab[38]? = some t_X11_playingSide := rfl
theorem en_X11_points : tab[39]? = some t_X11_points := rfl
theorem en_X11_present : tab[40]? = some t_X11_present := rfl
theorem en_X11_purse : tab[41]? = some t_X11_purse := rfl
theorem en_X11_putRight : tab[42]? = some t_X11_putRight := rfl
theorem en_X11_putUp : tab[43]? = some t_X11_putUp := rfl
theorem en_X11_raid : tab[44]? = some t_X11_raid := rfl
theorem en_X11_raids : tab[45]? = some t_X11_raids := rfl
theorem en_X11_review : tab[46]? = some t_X11_review := rfl
theorem en_X11_season : tab[47]? = some t_X11_season := rfl
theorem en_X11_sell : tab[48]? = some t_X11_sell := rfl
theorem en_X11_squad : tab[49]? = some t_X11_squad := rfl
theorem en_X11_squadOf : tab[50]? = some t_X11_squadOf := rfl
theorem en_X11_stepOut : tab[51]? = some t_X11_stepOut := rfl
theorem en_X11_struggle : tab[52]? = some t_X11_struggle := rfl
theorem en_X11_substitute : tab[53]? = some t_X11_substitute := rfl
theorem en_X11_takeTouched : tab[54]? = some t_X11_takeTouched := rfl
theorem en_X11_told : tab[55]? = some t_X11_told := rfl
theorem en_X11_touch : tab[56]? = some t_X11_touch := rfl
theorem en_X11_turn : tab[57]? = some t_X11_turn := rfl
theorem en_X11_wouldEmptyMat : tab[58]? = some t_X11_wouldEmptyMat := rfl
theorem en_X0_init : tab[59]? = some t_X0_init := rfl
theorem en_X0_close : tab[60]? = some t_X0_close := rfl
theorem en_X0_isOpen : tab[61]? = some t_X0_isOpen := rfl
theorem en_X0_open : tab[62]? = some t_X0_open := rfl
theorem en_X0_take : tab[63]? = some t_X0_take := rfl
theorem en_X1_init : tab[64]? = some t_X1_init := rfl
theorem en_X1_enter : tab[65]? = some t_X1_enter := rfl
theorem en_X1_enterResult : tab[66]? = some t_X1_enterResult := rfl
theorem en_X1_enterResultOf : tab[67]? = some t_X1_enterResultOf := rfl
theorem en_X1_isBetter : tab[68]? = some t_X1_isBetter := rfl
theorem en_X1_placeOf : tab[69]? = some t_X1_placeOf := rfl
theorem en_X1_squadAt : tab[70]? = some t_X1_squadAt := rfl
theorem en_X1_startAnew : tab[71]? = some t_X1_startAnew := rfl
theorem en_X2_init : tab[72]? = some t_X2_init := rfl
theorem en_X2_change : tab[73]? = some t_X2_change := rfl
theorem en_X3_init : tab[74]? = some t_X3_init := rfl
theorem en_X3_append : tab[75]? = some t_X3_append := rfl
theorem en_X3_at : tab[76]? = some t_X3_at := rfl
theorem en_X3_clear : tab[77]? = some t_X3_clear := rfl
theorem en_X3_has : tab[78]? = some t_X3_has := rfl
theorem en_X3_insertByNumber : tab[79]? = some t_X3_insertByNumber := rfl
theorem en_X3_remove : tab[80]? = some t_X3_remove := rfl
theorem en_X4_init : tab[81]? = some t_X4_init := rfl
theorem en_X4_defenders : tab[82]? = some t_X4_defenders := rfl
theorem en_X4_isDecided : tab[83]? = some t_X4_isDecided := rfl
theorem en_X4_lastDefenders : tab[84]? = some t_X4_lastDefenders := rfl
theorem en_X4_lastRaiders : tab[85]? = some t_X4_lastRaiders := rfl
theorem en_X4_raiders : tab[86]? = some t_X4_raiders := rfl
theorem en_X4_sideAt : tab[87]? = some t_X4_sideAt := rfl
theorem en_X4_sideInTurn : tab[88]? = some t_X4_sideInTurn := rfl
theorem en_X4_sideOfRaid : tab[89]? = some t_X4_sideOfRaid := rfl
theorem en_X4_sideOfSquad : tab[90]? = some t_X4_sideOfSquad := rfl
theorem en_X4_sideWith : tab[91]? = some t_X4_sideWith := rfl
theorem en_X4_start : tab[92]? = some t_X4_start := rfl
theorem en_X5_init : tab[93]? = some t_X5_init := rfl
theorem en_X5_brought : tab[94]? = some t_X5_brought := rfl
theorem en_X5_forget : tab[95]? = some t_X5_forget := rfl
theorem en_X5_hasBreathFor : tab[96]? = some t_X5_hasBreathFor := rfl
theorem en_X5_isCalled : tab[97]? = some t_X5_isCalled := rfl
theorem en_X5_isReviewable : tab[98]? = some t_X5_isReviewable := rfl
theorem en_X5_isTouched : tab[99]? = some t_X5_isTouched := rfl
theorem en_X5_isWrong : tab[100]? = some t_X5_isWrong := rfl
theorem en_X5_markReviewed : tab[101]? = some t_X5_markReviewed := rfl
theorem en_X5_markTold : tab[102]? = some t_X5_markTold := rfl
theorem en_X5_spend : tab[103]? = some t_X5_spend := rfl
theorem en_X5_start : tab[104]? = some t_X5_start := rfl
theorem en_X6_init : tab[105]? = some t_X6_init := rfl
theorem en_X6_enter : tab[106]? = some t_X6_enter := rfl
theorem en_X6_paidBy : tab[107]? = some t_X6_paidBy := rfl
theorem en_X6_release : tab[108]? = some t_X6_release := rfl
theorem en_X6_sizeOf : tab[109]? = some t_X6_sizeOf := rfl
theorem en_X7_init : tab[110]? = some t_X7_init := rfl
theorem en_X7_add : tab[111]? = some t_X7_add := rfl
theorem en_X7_fill : tab[112]? = some t_X7_fill := rfl
theorem en_X7_get : tab[113]? = some t_X7_get := rfl
theorem en_X7_set : tab[114]? = some t_X7_set := rfl
theorem en_X8_init : tab[115]? = some t_X8_init := rfl
theorem en_X8_change : tab[116]? = some t_X8_change := rfl
theorem en_X8_comeOn : tab[117]? = some t_X8_comeOn := rfl
theorem en_X8_goOut : tab[118]? = some t_X8_goOut := rfl
theorem en_X8_isInPlay : tab[119]? = some t_X8_isInPlay := rfl
theorem en_X8_lineUp : tab[120]? = some t_X8_lineUp := rfl
theorem en_X8_placesOf : tab[121]? = some t_X8_placesOf := rfl
theorem en_X8_revive : tab[122]? = some t_X8_revive := rfl
theorem en_X8_sendOff : tab[123]? = some t_X8_sendOff := rfl
theorem en_X9_init : tab[124]? = some t_X9_init := rfl
theorem en_X9_record : tab[125]? = some t_X9_record := rfl
theorem en_X10_init : tab[126]? = some t_X10_init := rfl
theorem en_L_ask : tab[127]? = some t_L_ask := rfl
theorem en_L_begin : tab[128]? = some t_L_begin := rfl
theorem en_L_hasNone : tab[129]? = some t_L_hasNone := rfl
theorem en_X10_caughtLoss : tabV[0]? = some t_X10_caughtLoss := rfl
theorem en_X10_chance : tabV[1]? = some t_X10_chance := rfl
theorem en_X10_defendersBehindOut : tabV[2]? = some t_X10_defendersBehindOut := rfl
theorem en_X10_defendersBehindTouch : tabV[3]? = some t_X10_defendersBehindTouch := rfl
theorem en_X10_doOrDieLoss : tabV[4]? = some t_X10_doOrDieLoss := rfl
theorem en_X10_isSolvedBackward : tabV[5]? = some t_X10_isSolvedBackward := rfl
theorem en_X10_keep : tabV[6]? = some t_X10_keep := rfl
theorem en_X10_lookAhead : tabV[7]? = some t_X10_lookAhead := rfl
theorem en_X10_pair : tabV[8]? = some t_X10_pair := rfl
theorem en_X10_raidersBehindOut : tabV[9]? = some t_X10_raidersBehindOut := rfl
theorem en_X10_raidersBehindTouch : tabV[10]? = some t_X10_raidersBehindTouch := rfl
theorem en_X10_read : tabV[11]? = some t_X10_read := rfl
theorem en_X10_solveBackward : tabV[12]? = some t_X10_solveBackward := rfl
theorem en_X10_solveOneMore : tabV[13]? = some t_X10_solveOneMore := rfl
theorem en_X10_solvePair : tabV[14]? = some t_X10_solvePair := rfl
theorem en_X10_touchGain : tabV[15]? = some t_X10_touchGain := rfl
/-- what a method's blocks may use -/
def Ctx (tab : List En) (B9 d : Nat) (G : Gm) (cal : Cal) (en : En) : Prop := B9 ≤ d ∧ Wk G en.2.2.1 en.2.2.2.1 en.2.1.cls ∧ (gc G).exceptionTable.toList = tableOf en.2.2.2.2.2 ∧ (gk G).name = en.2.1.name ∧ (gk G).sig.returnType = en.2.2.2.2.1 ∧ CalOK (gl G) tab d G.2.2 cal ∧ 10 + d + 1 ≤ (gR G).frames ∧ 260 + 60 * d ≤ (gR G).locals
theorem Ctx.bd {tab : List En} {B9 d : Nat} {G : Gm} {cal : Cal} {en : En} (c : Ctx tab B9 d G cal en) : B9 ≤ d := c.1
theorem Ctx.w {tab : List En} {B9 d : Nat} {G : Gm} {cal : Cal} {en : En} (c : Ctx tab B9 d G cal en) : Wk G en.2.2.1 en.2.2.2.1 en.2.1.cls := c.2.1
theorem Ctx.tb {tab : List En} {B9 d : Nat} {G : Gm} {cal : Cal} {en : En} (c : Ctx tab B9 d G cal en) : (gc G).exceptionTable.toList = tableOf en.2.2.2.2.2 := c.2.2.1
theorem Ctx.nm {tab : List En} {B9 d : Nat} {G : Gm} {cal : Cal} {en : En} (c : Ctx tab B9 d G cal en) : (gk G).name = en.2.1.name := c.2.2.2.1
theorem Ctx.re {tab : List En} {B9 d : Nat} {G : Gm} {cal : Cal} {en : En} (c : Ctx tab B9 d G cal en) : (gk G).sig.returnType = en.2.2.2.2.1 := c.2.2.2.2.1
theorem Ctx.ca {tab : List En} {B9 d : Nat} {G : Gm} {cal : Cal} {en : En} (c : Ctx tab B9 d G cal en) : CalOK (gl G) tab d G.2.2 cal := c.2.2.2.2.2.1
theorem Ctx.fr {tab : List En} {B9 d : Nat} {G : Gm} {cal : Cal} {en : En} (c : Ctx tab B9 d G cal en) : 10 + d + 1 ≤ (gR G).frames := c.2.2.2.2.2.2.1
theorem Ctx.lo {tab : List En} {B9 d : Nat} {G : Gm} {cal : Cal} {en : En} (c : Ctx tab B9 d G cal en) : 260 + 60 * d ≤ (gR G).locals := c.2.2.2.2.2.2.2
theorem Ctx.hT {tab : List En} {B9 d : Nat} {G : Gm} {cal : Cal} {k : List Op × List AV} {n : MethodName} {b : ByteArray} {m : Nat} {r : Option FieldType} (c : Ctx tab B9 d G cal (k, (n, (b, (m, (r, [])))))) : ∀ x ∈ (gc G).exceptionTable.toList, False := no_tab c.tb
theorem MethOK_mk {tab : List En} {B9 : Nat} {en : En} (h1 : plainName en.2.1.cls = true) (h2 : ∀ v ∈ en.1.2, v = (.inr (.inr (.inr (.inr (.inr 2)))) : AV)) (P : Nat → Nat) (hP : P 0 = 0) (h : ∀ (d : Nat) (G : Gm) (cal : Cal), Ctx tab B9 d G cal en → OKs G en.2.2.2.1 (Qm G) cal P 0 en.1.1) : MethOK tab B9 en := ⟨h1, h2, fun d hB G cal w htb hn hr hc hf hlo => ⟨P, hP, h d G cal ⟨hB, w, htb, hn, hr, hc, hf, hlo⟩⟩⟩
theorem OKs_nil {G : Gm} {nL : Nat} {Q : Rs → State → Prop} {cal : Cal} {P : Nat → Nat} {i : Nat} : OKs G nL Q cal P i [] := trivial
theorem OKs_cons {G : Gm} {nL : Nat} {Q : Rs → State → Prop} {cal : Cal} {P : Nat → Nat} {i : Nat} {op : Op} {t : List Op} (h : ∀ (nx : Kt) (jp : Nat → Kt), Snd G nL Q nx (P (i + 1)) → (∀ t, Snd G nL Q (jp t) (P t)) → Snd G nL Q (op nx jp cal) (P i)) (ht : OKs G nL Q cal P (i + 1) t) : OKs G nL Q cal P i (op :: t) := ⟨h, ht⟩
