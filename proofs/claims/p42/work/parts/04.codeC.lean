def sg0 : Sig := (⟨"", "", ""⟩, ⟨#[]⟩, 0, none, 0, 0, 0)
def sgX0_init : Sig := (yX0_init, cX0_init, 1, none, 1, 4, 484)
def sgX0_clear : Sig := (yX0_clear, cX0_clear, 1, none, 1, 0, 0)
def sgX0_add : Sig := (yX0_add, cX0_add, 3, none, 3, 0, 0)
def sgX0_endPart : Sig := (yX0_endPart, cX0_endPart, 2, none, 2, 0, 0)
def sgX0_truths : Sig := (yX0_truths, cX0_truths, 5, some .int, 3, 0, 0)
def sgX0_valueOf : Sig := (yX0_valueOf, cX0_valueOf, 6, some .int, 4, 0, 0)
def sgX0_step : Sig := (yX0_step, cX0_step, 6, none, 5, 0, 0)
def sgX0_joined : Sig := (yX0_joined, cX0_joined, 3, some .int, 3, 0, 0)
def sgX0_push : Sig := (yX0_push, cX0_push, 2, none, 2, 0, 0)
def sgX0_pop : Sig := (yX0_pop, cX0_pop, 1, some .int, 1, 0, 0)
def sgX1_init : Sig := (yX1_init, cX1_init, 3, none, 3, 0, 0)
def sgX1_readText : Sig := (yX1_readText, cX1_readText, 2, some .boolean, 1, 0, 0)
def sgX1_readToken : Sig := (yX1_readToken, cX1_readToken, 2, some .boolean, 2, 0, 0)
def sgX1_readOr : Sig := (yX1_readOr, cX1_readOr, 3, some .boolean, 2, 0, 0)
def sgX1_readAnd : Sig := (yX1_readAnd, cX1_readAnd, 3, some .boolean, 2, 0, 0)
def sgX1_readNot : Sig := (yX1_readNot, cX1_readNot, 2, some .boolean, 2, 0, 0)
def sgX1_readCompared : Sig := (yX1_readCompared, cX1_readCompared, 3, some .boolean, 2, 0, 0)
def sgX1_readSum : Sig := (yX1_readSum, cX1_readSum, 4, some .boolean, 2, 0, 0)
def sgX1_readTerm : Sig := (yX1_readTerm, cX1_readTerm, 3, some .boolean, 2, 0, 0)
def sgX1_readOne : Sig := (yX1_readOne, cX1_readOne, 3, some .boolean, 2, 0, 0)
def sgX1_readBracket : Sig := (yX1_readBracket, cX1_readBracket, 2, some .boolean, 2, 0, 0)
def sgX2_init : Sig := (yX2_init, cX2_init, 1, none, 1, 0, 0)
def sgX2_consider : Sig := (yX2_consider, cX2_consider, 6, none, 5, 0, 0)
def sgX3_init : Sig := (yX3_init, cX3_init, 2, none, 1, 4, 208)
def sgX3_isMissing : Sig := (yX3_isMissing, cX3_isMissing, 2, some .boolean, 2, 0, 0)
def sgX3_make : Sig := (yX3_make, cX3_make, 5, none, 4, 0, 0)
def sgX3_holds : Sig := (yX3_holds, cX3_holds, 3, some .boolean, 3, 0, 0)
def sgX3_holdsRun : Sig := (yX3_holdsRun, cX3_holdsRun, 4, some .boolean, 4, 0, 0)
def sgX3_read : Sig := (yX3_read, cX3_read, 3, some .int, 3, 0, 0)
def sgX3_write : Sig := (yX3_write, cX3_write, 6, none, 4, 0, 0)
def sgX3_move : Sig := (yX3_move, cX3_move, 7, none, 6, 0, 0)
def sgX4_init : Sig := (yX4_init, cX4_init, 1, none, 1, 3, 46)
def sgX4_become : Sig := (yX4_become, cX4_become, 4, none, 4, 0, 0)
def sgX4_append : Sig := (yX4_append, cX4_append, 4, none, 4, 0, 0)
def sgX4_sayingPart : Sig := (yX4_sayingPart, cX4_sayingPart, 3, some .int, 3, 0, 0)
def sgX4_becomeLike : Sig := (yX4_becomeLike, cX4_becomeLike, 3, none, 2, 0, 0)
def sgX5_init : Sig := (yX5_init, cX5_init, 2, none, 1, 3, 90)
def sgX5_add : Sig := (yX5_add, cX5_add, 4, none, 2, 0, 0)
def sgX5_side : Sig := (yX5_side, cX5_side, 4, some .int, 4, 0, 0)
def sgX5_costOf : Sig := (yX5_costOf, cX5_costOf, 3, some .int, 3, 0, 0)
def sgX6_init : Sig := (yX6_init, cX6_init, 1, none, 1, 1, 160)
def sgX6_append : Sig := (yX6_append, cX6_append, 2, none, 2, 0, 0)
def sgX6_start : Sig := (yX6_start, cX6_start, 1, none, 1, 0, 0)
def sgX6_advance : Sig := (yX6_advance, cX6_advance, 2, none, 1, 0, 0)
def sgX6_readWord : Sig := (yX6_readWord, cX6_readWord, 3, none, 1, 0, 0)
def sgX6_spells : Sig := (yX6_spells, cX6_spells, 3, some .boolean, 2, 0, 0)
def sgX6_readNumber : Sig := (yX6_readNumber, cX6_readNumber, 2, none, 1, 0, 0)
def sgX6_isBlank : Sig := (yX6_isBlank, cX6_isBlank, 1, some .boolean, 1, 0, 0)
def sgX6_isLetter : Sig := (yX6_isLetter, cX6_isLetter, 1, some .boolean, 1, 0, 0)
def sgX6_isDigit : Sig := (yX6_isDigit, cX6_isDigit, 1, some .boolean, 1, 0, 0)
def sgX6_isSign : Sig := (yX6_isSign, cX6_isSign, 1, some .boolean, 1, 0, 0)
def sgX7_init : Sig := (yX7_init, cX7_init, 1, none, 1, 26, 1072)
def sgX7_count : Sig := (yX7_count, cX7_count, 2, some .int, 2, 0, 0)
def sgX7_feed : Sig := (yX7_feed, cX7_feed, 8, some .int, 7, 0, 0)
def sgX7_text : Sig := (yX7_text, cX7_text, 3, some .int, 1, 0, 0)
def sgX7_force : Sig := (yX7_force, cX7_force, 3, some .int, 2, 0, 0)
def sgX7_asks : Sig := (yX7_asks, cX7_asks, 5, some .int, 5, 0, 0)
def sgX7_means : Sig := (yX7_means, cX7_means, 3, some .long, 3, 0, 0)
def sgX7_pairs : Sig := (yX7_pairs, cX7_pairs, 5, some .int, 2, 0, 0)
def sgX7_speaker : Sig := (yX7_speaker, cX7_speaker, 4, some .int, 3, 0, 0)
def sgX7_turn : Sig := (yX7_turn, cX7_turn, 5, some .int, 4, 0, 0)
def sgX7_told : Sig := (yX7_told, cX7_told, 3, some .int, 3, 0, 0)
def sgX7_say : Sig := (yX7_say, cX7_say, 4, some .int, 4, 0, 0)
def sgX7_unsay : Sig := (yX7_unsay, cX7_unsay, 1, some .int, 1, 0, 0)
def sgX7_said : Sig := (yX7_said, cX7_said, 3, some .int, 3, 0, 0)
def sgX7_worlds : Sig := (yX7_worlds, cX7_worlds, 1, some .long, 1, 0, 0)
def sgX7_behind : Sig := (yX7_behind, cX7_behind, 4, some .int, 3, 0, 0)
def sgX7_cannot : Sig := (yX7_cannot, cX7_cannot, 3, some .int, 1, 0, 0)
def sgX7_lies : Sig := (yX7_lies, cX7_lies, 3, some .int, 1, 0, 0)
def sgX7_least : Sig := (yX7_least, cX7_least, 5, some .int, 2, 0, 0)
def sgX7_mad : Sig := (yX7_mad, cX7_mad, 4, some .int, 2, 0, 0)
def sgX7_habit : Sig := (yX7_habit, cX7_habit, 9, some .long, 4, 0, 0)
def sgX7_kinds : Sig := (yX7_kinds, cX7_kinds, 5, some .int, 3, 0, 0)
def sgX7_ask : Sig := (yX7_ask, cX7_ask, 2, some .int, 2, 0, 0)
def sgX7_two : Sig := (yX7_two, cX7_two, 8, some .int, 2, 0, 0)
def sgX7_parts : Sig := (yX7_parts, cX7_parts, 7, some .long, 4, 0, 0)
def sgX7_hide : Sig := (yX7_hide, cX7_hide, 9, some .int, 4, 0, 0)
def sgX7_same : Sig := (yX7_same, cX7_same, 5, some .int, 4, 0, 0)
def sgX7_claims : Sig := (yX7_claims, cX7_claims, 5, some .int, 2, 0, 0)
def sgX7_settle : Sig := (yX7_settle, cX7_settle, 5, some .int, 2, 0, 0)
def sgX7_thrice : Sig := (yX7_thrice, cX7_thrice, 6, some .long, 4, 0, 0)
def sgX7_many : Sig := (yX7_many, cX7_many, 8, some .int, 2, 0, 0)
def sgX7_judge : Sig := (yX7_judge, cX7_judge, 5, some .int, 3, 0, 0)
def sgX7_film : Sig := (yX7_film, cX7_film, 4, some .int, 2, 0, 0)
def sgX7_drawn : Sig := (yX7_drawn, cX7_drawn, 3, some .int, 2, 0, 0)
def sgX7_mean : Sig := (yX7_mean, cX7_mean, 7, some .long, 4, 0, 0)
def sgX7_image : Sig := (yX7_image, cX7_image, 1, some .int, 1, 0, 0)
def sgX7_back : Sig := (yX7_back, cX7_back, 1, some .int, 1, 0, 0)
def sgX7_sheet : Sig := (yX7_sheet, cX7_sheet, 4, some .int, 4, 0, 0)
def sgX7_cell : Sig := (yX7_cell, cX7_cell, 4, some .int, 4, 0, 0)
def sgX7_copy : Sig := (yX7_copy, cX7_copy, 6, some .int, 6, 0, 0)
def sgX7_sayingsBy : Sig := (yX7_sayingsBy, cX7_sayingsBy, 8, some .int, 5, 0, 0)
def sgX7_taken : Sig := (yX7_taken, cX7_taken, 3, some .int, 3, 0, 0)
def sgX7_isBelow : Sig := (yX7_isBelow, cX7_isBelow, 2, some .boolean, 2, 0, 0)
def sgX7_isByte : Sig := (yX7_isByte, cX7_isByte, 1, some .boolean, 1, 0, 0)
def sgX7_isKind : Sig := (yX7_isKind, cX7_isKind, 1, some .boolean, 1, 0, 0)
def sgX7_isMore : Sig := (yX7_isMore, cX7_isMore, 1, some .boolean, 1, 0, 0)
def sgX7_isWorld : Sig := (yX7_isWorld, cX7_isWorld, 1, some .boolean, 1, 0, 0)
def sgX7_isText : Sig := (yX7_isText, cX7_isText, 2, some .boolean, 2, 0, 0)
def sgX7_isSpeaker : Sig := (yX7_isSpeaker, cX7_isSpeaker, 2, some .boolean, 2, 0, 0)
def sgX7_at : Sig := (yX7_at, cX7_at, 2, some .int, 2, 0, 0)
def sgX7_put : Sig := (yX7_put, cX7_put, 3, none, 3, 0, 0)
def sgX7_bit : Sig := (yX7_bit, cX7_bit, 2, some .int, 2, 0, 0)
def sgX7_bits : Sig := (yX7_bits, cX7_bits, 1, some .long, 1, 0, 0)
def sgX7_worldNumber : Sig := (yX7_worldNumber, cX7_worldNumber, 4, some .int, 2, 0, 0)
def sgX7_fewer : Sig := (yX7_fewer, cX7_fewer, 3, some .int, 2, 0, 0)
def sgX7_inLowestTerms : Sig := (yX7_inLowestTerms, cX7_inLowestTerms, 4, some .long, 3, 0, 0)
def sgX7_commonDivisor : Sig := (yX7_commonDivisor, cX7_commonDivisor, 6, some .int, 2, 0, 0)
def sgX7_canSay : Sig := (yX7_canSay, cX7_canSay, 5, some .int, 5, 0, 0)
def sgX7_turnsAt : Sig := (yX7_turnsAt, cX7_turnsAt, 3, some .boolean, 2, 0, 0)
def sgX7_onceOf : Sig := (yX7_onceOf, cX7_onceOf, 2, some .int, 2, 0, 0)
def sgX7_lawful : Sig := (yX7_lawful, cX7_lawful, 1, some .int, 1, 0, 0)
def sgX7_firstSaid : Sig := (yX7_firstSaid, cX7_firstSaid, 2, some .int, 2, 0, 0)
def sgX7_secondSaid : Sig := (yX7_secondSaid, cX7_secondSaid, 2, some .int, 2, 0, 0)
def sgX7_sayableNext : Sig := (yX7_sayableNext, cX7_sayableNext, 7, some .int, 5, 0, 0)
def sgX7_sayable : Sig := (yX7_sayable, cX7_sayable, 2, some .int, 2, 0, 0)
def sgX7_sayableAs : Sig := (yX7_sayableAs, cX7_sayableAs, 4, some .int, 3, 0, 0)
def sgX7_allSayableWere : Sig := (yX7_allSayableWere, cX7_allSayableWere, 5, some .int, 3, 0, 0)
def sgX7_fittingFirst : Sig := (yX7_fittingFirst, cX7_fittingFirst, 4, some .int, 2, 0, 0)
def sgX7_fitting : Sig := (yX7_fitting, cX7_fitting, 1, some .int, 1, 0, 0)
def sgX7_fittingWithout : Sig := (yX7_fittingWithout, cX7_fittingWithout, 4, some .int, 2, 0, 0)
def sgX7_fittingWereMad : Sig := (yX7_fittingWereMad, cX7_fittingWereMad, 5, some .int, 2, 0, 0)
def sgX7_misfits : Sig := (yX7_misfits, cX7_misfits, 4, some .int, 2, 0, 0)
def sgX7_isSure : Sig := (yX7_isSure, cX7_isSure, 3, some .boolean, 2, 0, 0)
def sgX7_thingsSure : Sig := (yX7_thingsSure, cX7_thingsSure, 5, some .int, 2, 0, 0)
def sgX7_findBest : Sig := (yX7_findBest, cX7_findBest, 5, some .boolean, 3, 0, 0)
def sgX7_worstOf : Sig := (yX7_worstOf, cX7_worstOf, 7, some .int, 5, 0, 0)
def sgX7_worstBehind : Sig := (yX7_worstBehind, cX7_worstBehind, 8, some .int, 4, 0, 0)
def sgX7_strangerAsks : Sig := (yX7_strangerAsks, cX7_strangerAsks, 11, some .int, 3, 0, 0)
def sgX7_answered : Sig := (yX7_answered, cX7_answered, 8, some .int, 4, 0, 0)
def sgX7_lotBehind : Sig := (yX7_lotBehind, cX7_lotBehind, 2, some .long, 1, 0, 0)
def sgX7_settles : Sig := (yX7_settles, cX7_settles, 8, some .boolean, 3, 0, 0)
def sgX7_markOf : Sig := (yX7_markOf, cX7_markOf, 5, some .int, 3, 0, 0)
def sgX7_rowFits : Sig := (yX7_rowFits, cX7_rowFits, 7, some .boolean, 4, 0, 0)
def sgX7_sayingTaken : Sig := (yX7_sayingTaken, cX7_sayingTaken, 3, some .int, 3, 0, 0)
def sgX7_speakerTaken : Sig := (yX7_speakerTaken, cX7_speakerTaken, 3, some .int, 3, 0, 0)
def sgX7_isOneOf : Sig := (yX7_isOneOf, cX7_isOneOf, 2, some .boolean, 2, 0, 0)
def sgX8_init : Sig := (yX8_init, cX8_init, 2, none, 1, 18, 2246)
def sgX8_in : Sig := (yX8_in, cX8_in, 3, some .boolean, 3, 0, 0)
def sgX8_within : Sig := (yX8_within, cX8_within, 3, some .int, 3, 0, 0)
def sgX8_isSpeaker : Sig := (yX8_isSpeaker, cX8_isSpeaker, 2, some .boolean, 2, 0, 0)
def sgX8_isOfTexts : Sig := (yX8_isOfTexts, cX8_isOfTexts, 2, some .boolean, 2, 0, 0)
def sgX8_isWorld : Sig := (yX8_isWorld, cX8_isWorld, 1, some .boolean, 1, 0, 0)
def sgX8_has : Sig := (yX8_has, cX8_has, 3, some .boolean, 2, 0, 0)
def sgX8_bitsOf : Sig := (yX8_bitsOf, cX8_bitsOf, 4, some .int, 1, 0, 0)
def sgX8_count : Sig := (yX8_count, cX8_count, 2, some .int, 2, 0, 0)
def sgX8_isByte : Sig := (yX8_isByte, cX8_isByte, 1, some .boolean, 1, 0, 0)
def sgX8_feed : Sig := (yX8_feed, cX8_feed, 8, some .int, 7, 0, 0)
def sgX8_wordFrom : Sig := (yX8_wordFrom, cX8_wordFrom, 6, some .int, 3, 0, 0)
def sgX8_next : Sig := (yX8_next, cX8_next, 3, none, 1, 0, 0)
def sgX8_rank : Sig := (yX8_rank, cX8_rank, 1, some .int, 1, 0, 0)
def sgX8_puts : Sig := (yX8_puts, cX8_puts, 2, none, 2, 0, 0)
def sgX8_unwinds : Sig := (yX8_unwinds, cX8_unwinds, 3, none, 2, 0, 0)
def sgX8_holds : Sig := (yX8_holds, cX8_holds, 2, none, 2, 0, 0)
def sgX8_opensOne : Sig := (yX8_opensOne, cX8_opensOne, 2, some .boolean, 2, 0, 0)
def sgX8_between : Sig := (yX8_between, cX8_between, 2, some .boolean, 2, 0, 0)
def sgX8_signOf : Sig := (yX8_signOf, cX8_signOf, 1, some .int, 1, 0, 0)
def sgX8_eRead : Sig := (yX8_eRead, cX8_eRead, 4, some .boolean, 1, 0, 0)
def sgX8_text : Sig := (yX8_text, cX8_text, 3, some .int, 1, 0, 0)
def sgX8_two : Sig := (yX8_two, cX8_two, 3, some .int, 3, 0, 0)
def sgX8_says : Sig := (yX8_says, cX8_says, 5, some .int, 2, 0, 0)
def sgX8_force : Sig := (yX8_force, cX8_force, 3, some .int, 2, 0, 0)
def sgX8_saysOf : Sig := (yX8_saysOf, cX8_saysOf, 7, some .int, 5, 0, 0)
def sgX8_asks : Sig := (yX8_asks, cX8_asks, 5, some .int, 5, 0, 0)
def sgX8_soIn : Sig := (yX8_soIn, cX8_soIn, 7, some .long, 4, 0, 0)
def sgX8_means : Sig := (yX8_means, cX8_means, 3, some .long, 3, 0, 0)
def sgX8_pairs : Sig := (yX8_pairs, cX8_pairs, 4, some .int, 2, 0, 0)
def sgX8_reads : Sig := (yX8_reads, cX8_reads, 2, none, 1, 0, 0)
def sgX8_once : Sig := (yX8_once, cX8_once, 2, some .long, 2, 0, 0)
def sgX8_isSo : Sig := (yX8_isSo, cX8_isSo, 2, some .boolean, 2, 0, 0)
def sgX8_speaker : Sig := (yX8_speaker, cX8_speaker, 3, some .int, 3, 0, 0)
def sgX8_turn : Sig := (yX8_turn, cX8_turn, 5, some .int, 4, 0, 0)
def sgX8_told : Sig := (yX8_told, cX8_told, 3, some .int, 3, 0, 0)
def sgX8_say : Sig := (yX8_say, cX8_say, 4, some .int, 4, 0, 0)
def sgX8_unsay : Sig := (yX8_unsay, cX8_unsay, 1, some .int, 1, 0, 0)
def sgX8_said : Sig := (yX8_said, cX8_said, 3, some .int, 3, 0, 0)
def sgX8_canSay : Sig := (yX8_canSay, cX8_canSay, 14, some .long, 7, 0, 0)
def sgX8_fits : Sig := (yX8_fits, cX8_fits, 5, some .long, 5, 0, 0)
def sgX8_fitsSaying : Sig := (yX8_fitsSaying, cX8_fitsSaying, 2, some .long, 2, 0, 0)
def sgX8_worldsOf : Sig := (yX8_worldsOf, cX8_worldsOf, 5, some .long, 2, 0, 0)
def sgX8_worldsNow : Sig := (yX8_worldsNow, cX8_worldsNow, 1, some .long, 1, 0, 0)
def sgX8_worlds : Sig := (yX8_worlds, cX8_worlds, 1, some .long, 1, 0, 0)
def sgX8_allIn : Sig := (yX8_allIn, cX8_allIn, 4, some .int, 1, 0, 0)
def sgX8_noneIn : Sig := (yX8_noneIn, cX8_noneIn, 4, some .int, 1, 0, 0)
def sgX8_leastOf : Sig := (yX8_leastOf, cX8_leastOf, 3, some .int, 1, 0, 0)
def sgX8_behind : Sig := (yX8_behind, cX8_behind, 5, some .int, 3, 0, 0)
def sgX8_cannot : Sig := (yX8_cannot, cX8_cannot, 2, some .int, 1, 0, 0)
def sgX8_findsFitting : Sig := (yX8_findsFitting, cX8_findsFitting, 2, none, 1, 0, 0)
def sgX8_without : Sig := (yX8_without, cX8_without, 5, some .long, 2, 0, 0)
def sgX8_lies : Sig := (yX8_lies, cX8_lies, 3, some .int, 1, 0, 0)
def sgX8_least : Sig := (yX8_least, cX8_least, 5, some .int, 2, 0, 0)
def sgX8_worldsMad : Sig := (yX8_worldsMad, cX8_worldsMad, 7, some .long, 2, 0, 0)
def sgX8_mad : Sig := (yX8_mad, cX8_mad, 5, some .int, 2, 0, 0)
def sgX8_lowest : Sig := (yX8_lowest, cX8_lowest, 11, some .long, 3, 0, 0)
def sgX8_habit : Sig := (yX8_habit, cX8_habit, 13, some .long, 4, 0, 0)
def sgX8_kinds : Sig := (yX8_kinds, cX8_kinds, 8, some .int, 3, 0, 0)
def sgX8_worstOf : Sig := (yX8_worstOf, cX8_worstOf, 8, some .int, 5, 0, 0)
def sgX8_findsQuestion : Sig := (yX8_findsQuestion, cX8_findsQuestion, 10, none, 3, 0, 0)
def sgX8_ask : Sig := (yX8_ask, cX8_ask, 2, some .int, 2, 0, 0)
def sgX8_worstBehind : Sig := (yX8_worstBehind, cX8_worstBehind, 3, some .int, 2, 0, 0)
def sgX8_two_ : Sig := (yX8_two_, cX8_two_, 12, some .int, 2, 0, 0)
def sgX8_parts : Sig := (yX8_parts, cX8_parts, 10, some .long, 4, 0, 0)
def sgX8_isSure : Sig := (yX8_isSure, cX8_isSure, 3, some .boolean, 2, 0, 0)
def sgX8_hide : Sig := (yX8_hide, cX8_hide, 10, some .int, 4, 0, 0)
def sgX8_same : Sig := (yX8_same, cX8_same, 8, some .int, 4, 0, 0)
def sgX8_claims : Sig := (yX8_claims, cX8_claims, 6, some .int, 2, 0, 0)
def sgX8_settles : Sig := (yX8_settles, cX8_settles, 9, some .boolean, 3, 0, 0)
def sgX8_settle : Sig := (yX8_settle, cX8_settle, 7, some .int, 2, 0, 0)
def sgX8_thrice : Sig := (yX8_thrice, cX8_thrice, 12, some .long, 4, 0, 0)
def sgX8_many : Sig := (yX8_many, cX8_many, 9, some .int, 2, 0, 0)
def sgX8_isRow : Sig := (yX8_isRow, cX8_isRow, 7, some .boolean, 4, 0, 0)
def sgX8_judge : Sig := (yX8_judge, cX8_judge, 4, some .int, 3, 0, 0)
def sgX8_film : Sig := (yX8_film, cX8_film, 3, some .int, 2, 0, 0)
def sgX8_worldAt : Sig := (yX8_worldAt, cX8_worldAt, 5, some .int, 2, 0, 0)
def sgX8_asksBy : Sig := (yX8_asksBy, cX8_asksBy, 15, some .int, 3, 0, 0)
def sgX8_drawn : Sig := (yX8_drawn, cX8_drawn, 4, some .int, 2, 0, 0)
def sgX8_mean : Sig := (yX8_mean, cX8_mean, 9, some .long, 4, 0, 0)
def sgX8_image : Sig := (yX8_image, cX8_image, 2, some .int, 1, 0, 0)
def sgX8_back : Sig := (yX8_back, cX8_back, 2, some .int, 1, 0, 0)
def sgX8_sheet : Sig := (yX8_sheet, cX8_sheet, 5, some .int, 4, 0, 0)
def sgX8_cell : Sig := (yX8_cell, cX8_cell, 4, some .int, 4, 0, 0)
def sgX8_copy : Sig := (yX8_copy, cX8_copy, 10, some .int, 6, 0, 0)
def sgX8_sayingsBy : Sig := (yX8_sayingsBy, cX8_sayingsBy, 9, some .int, 5, 0, 0)
def sgX8_isUnder : Sig := (yX8_isUnder, cX8_isUnder, 2, some .boolean, 2, 0, 0)
def sgX8_taken : Sig := (yX8_taken, cX8_taken, 3, some .int, 3, 0, 0)
def sgJ6_bitCount_0f7a4 : Sig := (yJ6_bitCount_0f7a4, cJ6_bitCount_0f7a4, 1, some .int, 1, 0, 0)
def sgJ0_length_8abf5 : Sig := (yJ0_length_8abf5, cJ0_length_8abf5, 1, some .int, 1, 0, 0)
def sgJ0_charAt_5068e : Sig := (yJ0_charAt_5068e, cJ0_charAt_5068e, 2, some .char, 2, 0, 0)
def sgJ0_coder_7d493 : Sig := (yJ0_coder_7d493, cJ0_coder_7d493, 1, some .byte, 1, 0, 0)
def sgJ0_isLatin1_aae02 : Sig := (yJ0_isLatin1_aae02, cJ0_isLatin1_aae02, 1, some .boolean, 1, 0, 0)
def sgJ0_checkIndex_df160 : Sig := (yJ0_checkIndex_df160, cJ0_checkIndex_df160, 2, none, 2, 0, 0)
def sgJ1_charAt_3b067 : Sig := (yJ1_charAt_3b067, cJ1_charAt_3b067, 2, some .char, 2, 0, 0)
def sgJ2_charAt_3b067 : Sig := (yJ2_charAt_3b067, cJ2_charAt_3b067, 2, some .char, 2, 0, 0)
def sgJ3_checkIndex_8e157 : Sig := (yJ3_checkIndex_8e157, cJ3_checkIndex_8e157, 3, some .int, 3, 0, 0)
def sgL_law : Sig := (yL_law, cL_law, 4, some .boolean, 1, 0, 0)
def tch : Nat → List Cond
  | 0 => k2_sels lw_privs
  | 1 => tables_1_1
  | 2 => tables_1_2
  | 3 => tables_1_3
  | 4 => tables_1_4
  | 5 => tables_1_5
  | 6 => tables_1_6
  | _ => []
theorem tch_mem {w : Cond} : ∀ k, w ∈ tch k → w ∈ lw_tbl
  | 0, h => List.mem_append_left _ h
  | 1, h => List.mem_append_right _ (show w ∈ tables_1 from List.mem_append_left _ h)
  | 2, h => List.mem_append_right _ (show w ∈ tables_1 from List.mem_append_right _ (List.mem_append_left _ h))
  | 3, h => List.mem_append_right _ (show w ∈ tables_1 from List.mem_append_right _ (List.mem_append_right _ (List.mem_append_left _ h)))
  | 4, h => List.mem_append_right _ (show w ∈ tables_1 from List.mem_append_right _ (List.mem_append_right _ (List.mem_append_right _ (List.mem_append_left _ h))))
  | 5, h => List.mem_append_right _ (show w ∈ tables_1 from List.mem_append_right _ (List.mem_append_right _ (List.mem_append_right _ (List.mem_append_right _ (List.mem_append_left _ h)))))
  | 6, h => List.mem_append_right _ (show w ∈ tables_1 from List.mem_append_right _ (List.mem_append_right _ (List.mem_append_right _ (List.mem_append_right _ (List.mem_append_right _ (h))))))
  | (_ + 7), h => by cases h
theorem tb_l2 {ws : List Cond} (ps : List (Nat × Nat)) (hp : ws = ps.filterMap (fun q => (tch q.1)[q.2]?)) (h : ws.all goodWord = true) : ∀ w ∈ ws, w ∈ TBL := by
  intro w hw
  have h1 := List.all_eq_true.mp h w hw
  rw [hp] at hw
  obtain ⟨q, -, hi⟩ := List.mem_filterMap.mp hw
  exact List.mem_filter.mpr ⟨tch_mem _ (List.mem_of_getElem? hi), h1⟩
theorem nw_l2 {ws : List Cond} (ps : List (Nat × Nat)) (hp : ws = ps.filterMap (fun q => (tch q.1)[q.2]?)) (h : ws.all isNest = true) : ∀ w ∈ ws, w ∈ NWL := by
  intro w hw
  have h1 := List.all_eq_true.mp h w hw
  rw [hp] at hw
  obtain ⟨q, -, hi⟩ := List.mem_filterMap.mp hw
  exact List.mem_filter.mpr ⟨tch_mem _ (List.mem_of_getElem? hi), h1⟩
theorem tb_2 {w : Cond} (k j : Nat) (h : (tch k)[j]? = some w) (hg : goodWord w = true) : w ∈ TBL := List.mem_filter.mpr ⟨tch_mem k (List.mem_of_getElem? h), hg⟩
theorem tb_nil : ∀ w ∈ ([] : List Cond), w ∈ TBL := fun _ h => by cases h
theorem tb_cons {a : Cond} {ws : List Cond} (h : a ∈ TBL) (hl : ∀ w ∈ ws, w ∈ TBL) : ∀ w ∈ a :: ws, w ∈ TBL := fun w hw => by
  rcases List.mem_cons.mp hw with rfl | hw
  · exact h
  · exact hl w hw
theorem sgIX0_init : SgI sgX0_init := ⟨by decide +kernel, tb_cons (tb_2 1 57 rfl rfl) (tb_cons (tb_2 1 3 rfl rfl) (tb_cons (tb_2 1 58 rfl rfl) (tb_nil)))⟩
theorem sgVX0_clear : SgV sgX0_clear 0 := ⟨by decide +kernel, tb_cons (tb_2 2 94 rfl rfl) (tb_cons (tb_2 0 7 rfl rfl) (tb_cons (tb_2 1 3 rfl rfl) (tb_cons (tb_2 2 95 rfl rfl) (tb_nil))))⟩
theorem sgVX0_add : SgV sgX0_add 0 := ⟨by decide +kernel, tb_cons (tb_2 2 131 rfl rfl) (tb_cons (tb_2 0 16 rfl rfl) (tb_cons (tb_2 1 3 rfl rfl) (tb_cons (tb_2 2 132 rfl rfl) (tb_nil))))⟩
theorem sgVX0_endPart : SgV sgX0_endPart 0 := ⟨by decide +kernel, tb_cons (tb_2 2 140 rfl rfl) (tb_cons (tb_2 0 18 rfl rfl) (tb_cons (tb_2 1 3 rfl rfl) (tb_cons (tb_2 2 141 rfl rfl) (tb_nil))))⟩
theorem sgVX0_truths : SgV sgX0_truths 0 := ⟨by decide +kernel, tb_cons (tb_2 2 148 rfl rfl) (tb_cons (tb_2 0 20 rfl rfl) (tb_cons (tb_2 1 3 rfl rfl) (tb_cons (tb_2 2 149 rfl rfl) (tb_nil))))⟩
theorem sgVX0_valueOf : SgV sgX0_valueOf 0 := ⟨by decide +kernel, tb_cons (tb_2 2 152 rfl rfl) (tb_cons (tb_2 0 21 rfl rfl) (tb_cons (tb_2 1 3 rfl rfl) (tb_cons (tb_2 2 153 rfl rfl) (tb_nil))))⟩
theorem sgVX0_step : SgV sgX0_step 0 := ⟨by decide +kernel, tb_cons (tb_2 2 157 rfl rfl) (tb_cons (tb_2 0 22 rfl rfl) (tb_cons (tb_2 1 3 rfl rfl) (tb_cons (tb_2 2 158 rfl rfl) (tb_nil))))⟩
theorem sgSX0_joined : SgS sgX0_joined := ⟨by decide +kernel, tb_cons (tb_2 2 171 rfl rfl) (tb_cons (tb_2 1 3 rfl rfl) (tb_cons (tb_2 2 172 rfl rfl) (tb_nil)))⟩
theorem sgVX0_push : SgV sgX0_push 0 := ⟨by decide +kernel, tb_cons (tb_2 2 161 rfl rfl) (tb_cons (tb_2 0 23 rfl rfl) (tb_cons (tb_2 1 3 rfl rfl) (tb_cons (tb_2 2 162 rfl rfl) (tb_nil))))⟩
theorem sgVX0_pop : SgV sgX0_pop 0 := ⟨by decide +kernel, tb_cons (tb_2 2 168 rfl rfl) (tb_cons (tb_2 0 24 rfl rfl) (tb_cons (tb_2 1 3 rfl rfl) (tb_cons (tb_2 2 169 rfl rfl) (tb_nil))))⟩
theorem sgIX1_init : SgI sgX1_init := ⟨by decide +kernel, tb_cons (tb_2 1 82 rfl rfl) (tb_cons (tb_2 1 4 rfl rfl) (tb_cons (tb_2 1 83 rfl rfl) (tb_nil)))⟩
theorem sgVX1_readText : SgV sgX1_readText 1 := ⟨by decide +kernel, tb_cons (tb_2 2 0 rfl rfl) (tb_cons (tb_2 0 1 rfl rfl) (tb_cons (tb_2 1 4 rfl rfl) (tb_cons (tb_2 2 1 rfl rfl) (tb_nil))))⟩
theorem sgVX1_readToken : SgV sgX1_readToken 1 := ⟨by decide +kernel, tb_cons (tb_2 2 98 rfl rfl) (tb_cons (tb_2 0 8 rfl rfl) (tb_cons (tb_2 1 4 rfl rfl) (tb_cons (tb_2 2 99 rfl rfl) (tb_nil))))⟩
theorem sgVX1_readOr : SgV sgX1_readOr 1 := ⟨by decide +kernel, tb_cons (tb_2 2 103 rfl rfl) (tb_cons (tb_2 0 9 rfl rfl) (tb_cons (tb_2 1 4 rfl rfl) (tb_cons (tb_2 2 104 rfl rfl) (tb_nil))))⟩
theorem sgVX1_readAnd : SgV sgX1_readAnd 1 := ⟨by decide +kernel, tb_cons (tb_2 2 107 rfl rfl) (tb_cons (tb_2 0 10 rfl rfl) (tb_cons (tb_2 1 4 rfl rfl) (tb_cons (tb_2 2 108 rfl rfl) (tb_nil))))⟩
theorem sgVX1_readNot : SgV sgX1_readNot 1 := ⟨by decide +kernel, tb_cons (tb_2 2 111 rfl rfl) (tb_cons (tb_2 0 11 rfl rfl) (tb_cons (tb_2 1 4 rfl rfl) (tb_cons (tb_2 2 112 rfl rfl) (tb_nil))))⟩
theorem sgVX1_readCompared : SgV sgX1_readCompared 1 := ⟨by decide +kernel, tb_cons (tb_2 2 115 rfl rfl) (tb_cons (tb_2 0 12 rfl rfl) (tb_cons (tb_2 1 4 rfl rfl) (tb_cons (tb_2 2 116 rfl rfl) (tb_nil))))⟩
theorem sgVX1_readSum : SgV sgX1_readSum 1 := ⟨by decide +kernel, tb_cons (tb_2 2 119 rfl rfl) (tb_cons (tb_2 0 13 rfl rfl) (tb_cons (tb_2 1 4 rfl rfl) (tb_cons (tb_2 2 120 rfl rfl) (tb_nil))))⟩
theorem sgVX1_readTerm : SgV sgX1_readTerm 1 := ⟨by decide +kernel, tb_cons (tb_2 2 123 rfl rfl) (tb_cons (tb_2 0 14 rfl rfl) (tb_cons (tb_2 1 4 rfl rfl) (tb_cons (tb_2 2 124 rfl rfl) (tb_nil))))⟩
theorem sgVX1_readOne : SgV sgX1_readOne 1 := ⟨by decide +kernel, tb_cons (tb_2 2 127 rfl rfl) (tb_cons (tb_2 0 15 rfl rfl) (tb_cons (tb_2 1 4 rfl rfl) (tb_cons (tb_2 2 128 rfl rfl) (tb_nil))))⟩
theorem sgVX1_readBracket : SgV sgX1_readBracket 1 := ⟨by decide +kernel, tb_cons (tb_2 2 136 rfl rfl) (tb_cons (tb_2 0 17 rfl rfl) (tb_cons (tb_2 1 4 rfl rfl) (tb_cons (tb_2 2 137 rfl rfl) (tb_nil))))⟩
theorem sgIX2_init : SgI sgX2_init := ⟨by decide +kernel, tb_cons (tb_2 1 170 rfl rfl) (tb_cons (tb_2 1 8 rfl rfl) (tb_cons (tb_2 1 171 rfl rfl) (tb_nil)))⟩
theorem sgVX2_consider : SgV sgX2_consider 2 := ⟨by decide +kernel, tb_cons (tb_2 3 162 rfl rfl) (tb_cons (tb_2 0 47 rfl rfl) (tb_cons (tb_2 1 8 rfl rfl) (tb_cons (tb_2 3 163 rfl rfl) (tb_nil))))⟩
theorem sgIX3_init : SgI sgX3_init := ⟨by decide +kernel, tb_cons (tb_2 1 148 rfl rfl) (tb_cons (tb_2 1 7 rfl rfl) (tb_cons (tb_2 1 149 rfl rfl) (tb_nil)))⟩
theorem sgVX3_isMissing : SgV sgX3_isMissing 3 := ⟨by decide +kernel, tb_cons (tb_2 3 215 rfl rfl) (tb_cons (tb_2 0 51 rfl rfl) (tb_cons (tb_2 1 7 rfl rfl) (tb_cons (tb_2 3 216 rfl rfl) (tb_nil))))⟩
theorem sgVX3_make : SgV sgX3_make 3 := ⟨by decide +kernel, tb_cons (tb_2 3 232 rfl rfl) (tb_cons (tb_2 0 54 rfl rfl) (tb_cons (tb_2 1 7 rfl rfl) (tb_cons (tb_2 3 233 rfl rfl) (tb_nil))))⟩
theorem sgVX3_holds : SgV sgX3_holds 3 := ⟨by decide +kernel, tb_cons (tb_2 4 44 rfl rfl) (tb_cons (tb_2 0 59 rfl rfl) (tb_cons (tb_2 1 7 rfl rfl) (tb_cons (tb_2 4 45 rfl rfl) (tb_nil))))⟩
theorem sgVX3_holdsRun : SgV sgX3_holdsRun 3 := ⟨by decide +kernel, tb_cons (tb_2 4 53 rfl rfl) (tb_cons (tb_2 0 60 rfl rfl) (tb_cons (tb_2 1 7 rfl rfl) (tb_cons (tb_2 4 54 rfl rfl) (tb_nil))))⟩
theorem sgVX3_read : SgV sgX3_read 3 := ⟨by decide +kernel, tb_cons (tb_2 3 224 rfl rfl) (tb_cons (tb_2 0 53 rfl rfl) (tb_cons (tb_2 1 7 rfl rfl) (tb_cons (tb_2 3 225 rfl rfl) (tb_nil))))⟩
theorem sgVX3_write : SgV sgX3_write 3 := ⟨by decide +kernel, tb_cons (tb_2 3 236 rfl rfl) (tb_cons (tb_2 0 55 rfl rfl) (tb_cons (tb_2 1 7 rfl rfl) (tb_cons (tb_2 3 237 rfl rfl) (tb_nil))))⟩
theorem sgVX3_move : SgV sgX3_move 3 := ⟨by decide +kernel, tb_cons (tb_2 4 57 rfl rfl) (tb_cons (tb_2 0 61 rfl rfl) (tb_cons (tb_2 1 7 rfl rfl) (tb_cons (tb_2 4 58 rfl rfl) (tb_nil))))⟩
theorem sgIX4_init : SgI sgX4_init := ⟨by decide +kernel, tb_cons (tb_2 1 118 rfl rfl) (tb_cons (tb_2 1 6 rfl rfl) (tb_cons (tb_2 1 119 rfl rfl) (tb_nil)))⟩
theorem sgVX4_become : SgV sgX4_become 4 := ⟨by decide +kernel, tb_cons (tb_2 2 234 rfl rfl) (tb_cons (tb_2 0 28 rfl rfl) (tb_cons (tb_2 1 6 rfl rfl) (tb_cons (tb_2 2 235 rfl rfl) (tb_nil))))⟩
theorem sgVX4_append : SgV sgX4_append 4 := ⟨by decide +kernel, tb_cons (tb_2 3 16 rfl rfl) (tb_cons (tb_2 0 30 rfl rfl) (tb_cons (tb_2 1 6 rfl rfl) (tb_cons (tb_2 3 17 rfl rfl) (tb_nil))))⟩
theorem sgVX4_sayingPart : SgV sgX4_sayingPart 4 := ⟨by decide +kernel, tb_cons (tb_2 3 28 rfl rfl) (tb_cons (tb_2 0 31 rfl rfl) (tb_cons (tb_2 1 6 rfl rfl) (tb_cons (tb_2 3 29 rfl rfl) (tb_nil))))⟩
theorem sgVX4_becomeLike : SgV sgX4_becomeLike 4 := ⟨by decide +kernel, tb_cons (tb_2 4 27 rfl rfl) (tb_cons (tb_2 0 58 rfl rfl) (tb_cons (tb_2 1 6 rfl rfl) (tb_cons (tb_2 4 28 rfl rfl) (tb_nil))))⟩
theorem sgIX5_init : SgI sgX5_init := ⟨by decide +kernel, tb_cons (tb_2 1 95 rfl rfl) (tb_cons (tb_2 1 5 rfl rfl) (tb_cons (tb_2 1 96 rfl rfl) (tb_nil)))⟩
theorem sgVX5_add : SgV sgX5_add 5 := ⟨by decide +kernel, tb_cons (tb_2 2 144 rfl rfl) (tb_cons (tb_2 0 19 rfl rfl) (tb_cons (tb_2 1 5 rfl rfl) (tb_cons (tb_2 2 145 rfl rfl) (tb_nil))))⟩
theorem sgVX5_side : SgV sgX5_side 5 := ⟨by decide +kernel, tb_cons (tb_2 2 206 rfl rfl) (tb_cons (tb_2 0 27 rfl rfl) (tb_cons (tb_2 1 5 rfl rfl) (tb_cons (tb_2 2 207 rfl rfl) (tb_nil))))⟩
theorem sgVX5_costOf : SgV sgX5_costOf 5 := ⟨by decide +kernel, tb_cons (tb_2 2 201 rfl rfl) (tb_cons (tb_2 0 26 rfl rfl) (tb_cons (tb_2 1 5 rfl rfl) (tb_cons (tb_2 2 202 rfl rfl) (tb_nil))))⟩
theorem sgIX6_init : SgI sgX6_init := ⟨by decide +kernel, tb_cons (tb_2 1 27 rfl rfl) (tb_cons (tb_2 1 2 rfl rfl) (tb_cons (tb_2 1 28 rfl rfl) (tb_nil)))⟩
theorem sgVX6_append : SgV sgX6_append 6 := ⟨by decide +kernel, tb_cons (tb_2 1 231 rfl rfl) (tb_cons (tb_2 0 0 rfl rfl) (tb_cons (tb_2 1 2 rfl rfl) (tb_cons (tb_2 1 232 rfl rfl) (tb_nil))))⟩
theorem sgVX6_start : SgV sgX6_start 6 := ⟨by decide +kernel, tb_cons (tb_2 2 4 rfl rfl) (tb_cons (tb_2 0 2 rfl rfl) (tb_cons (tb_2 1 2 rfl rfl) (tb_cons (tb_2 2 5 rfl rfl) (tb_nil))))⟩
theorem sgVX6_advance : SgV sgX6_advance 6 := ⟨by decide +kernel, tb_cons (tb_2 2 8 rfl rfl) (tb_cons (tb_2 0 3 rfl rfl) (tb_cons (tb_2 1 2 rfl rfl) (tb_cons (tb_2 2 9 rfl rfl) (tb_nil))))⟩
theorem sgVX6_readWord : SgV sgX6_readWord 6 := ⟨by decide +kernel, tb_cons (tb_2 2 21 rfl rfl) (tb_cons (tb_2 0 4 rfl rfl) (tb_cons (tb_2 1 2 rfl rfl) (tb_cons (tb_2 2 22 rfl rfl) (tb_nil))))⟩
theorem sgVX6_spells : SgV sgX6_spells 6 := ⟨by decide +kernel, tb_cons (tb_2 2 26 rfl rfl) (tb_cons (tb_2 0 5 rfl rfl) (tb_cons (tb_2 1 2 rfl rfl) (tb_cons (tb_2 2 27 rfl rfl) (tb_nil))))⟩
theorem sgVX6_readNumber : SgV sgX6_readNumber 6 := ⟨by decide +kernel, tb_cons (tb_2 2 87 rfl rfl) (tb_cons (tb_2 0 6 rfl rfl) (tb_cons (tb_2 1 2 rfl rfl) (tb_cons (tb_2 2 88 rfl rfl) (tb_nil))))⟩
theorem sgSX6_isBlank : SgS sgX6_isBlank := ⟨by decide +kernel, tb_cons (tb_2 2 14 rfl rfl) (tb_cons (tb_2 1 2 rfl rfl) (tb_cons (tb_2 2 15 rfl rfl) (tb_nil)))⟩
theorem sgSX6_isLetter : SgS sgX6_isLetter := ⟨by decide +kernel, tb_cons (tb_2 2 17 rfl rfl) (tb_cons (tb_2 1 2 rfl rfl) (tb_cons (tb_2 2 18 rfl rfl) (tb_nil)))⟩
theorem sgSX6_isDigit : SgS sgX6_isDigit := ⟨by decide +kernel, tb_cons (tb_2 2 83 rfl rfl) (tb_cons (tb_2 1 2 rfl rfl) (tb_cons (tb_2 2 84 rfl rfl) (tb_nil)))⟩
theorem sgSX6_isSign : SgS sgX6_isSign := ⟨by decide +kernel, tb_cons (tb_2 2 90 rfl rfl) (tb_cons (tb_2 1 2 rfl rfl) (tb_cons (tb_2 2 91 rfl rfl) (tb_nil)))⟩
theorem sgIX7_init : SgI sgX7_init := ⟨by decide +kernel, tb_cons (tb_2 1 19 rfl rfl) (tb_cons (tb_2 1 1 rfl rfl) (tb_cons (tb_2 1 20 rfl rfl) (tb_nil)))⟩
theorem sgVX7_count : SgV sgX7_count 7 := ⟨by decide +kernel, tb_cons (tb_2 1 219 rfl rfl) (tb_cons (tb_2 1 220 rfl rfl) (tb_cons (tb_2 1 1 rfl rfl) (tb_cons (tb_2 1 221 rfl rfl) (tb_nil))))⟩
theorem sgVX7_feed : SgV sgX7_feed 7 := ⟨by decide +kernel, tb_cons (tb_2 1 223 rfl rfl) (tb_cons (tb_2 1 224 rfl rfl) (tb_cons (tb_2 1 1 rfl rfl) (tb_cons (tb_2 1 225 rfl rfl) (tb_nil))))⟩
theorem sgVX7_text : SgV sgX7_text 7 := ⟨by decide +kernel, tb_cons (tb_2 1 235 rfl rfl) (tb_cons (tb_2 1 236 rfl rfl) (tb_cons (tb_2 1 1 rfl rfl) (tb_cons (tb_2 1 237 rfl rfl) (tb_nil))))⟩
theorem sgVX7_force : SgV sgX7_force 7 := ⟨by decide +kernel, tb_cons (tb_2 2 182 rfl rfl) (tb_cons (tb_2 2 183 rfl rfl) (tb_cons (tb_2 1 1 rfl rfl) (tb_cons (tb_2 2 184 rfl rfl) (tb_nil))))⟩
theorem sgVX7_asks : SgV sgX7_asks 7 := ⟨by decide +kernel, tb_cons (tb_2 2 193 rfl rfl) (tb_cons (tb_2 2 194 rfl rfl) (tb_cons (tb_2 1 1 rfl rfl) (tb_cons (tb_2 2 195 rfl rfl) (tb_nil))))⟩
theorem sgVX7_means : SgV sgX7_means 7 := ⟨by decide +kernel, tb_cons (tb_2 2 210 rfl rfl) (tb_cons (tb_2 2 211 rfl rfl) (tb_cons (tb_2 1 1 rfl rfl) (tb_cons (tb_2 2 212 rfl rfl) (tb_nil))))⟩
theorem sgVX7_pairs : SgV sgX7_pairs 7 := ⟨by decide +kernel, tb_cons (tb_2 2 219 rfl rfl) (tb_cons (tb_2 2 220 rfl rfl) (tb_cons (tb_2 1 1 rfl rfl) (tb_cons (tb_2 2 221 rfl rfl) (tb_nil))))⟩
theorem sgVX7_speaker : SgV sgX7_speaker 7 := ⟨by decide +kernel, tb_cons (tb_2 2 223 rfl rfl) (tb_cons (tb_2 2 224 rfl rfl) (tb_cons (tb_2 1 1 rfl rfl) (tb_cons (tb_2 2 225 rfl rfl) (tb_nil))))⟩
theorem sgVX7_turn : SgV sgX7_turn 7 := ⟨by decide +kernel, tb_cons (tb_2 2 238 rfl rfl) (tb_cons (tb_2 2 239 rfl rfl) (tb_cons (tb_2 1 1 rfl rfl) (tb_cons (tb_2 3 0 rfl rfl) (tb_nil))))⟩
theorem sgVX7_told : SgV sgX7_told 7 := ⟨by decide +kernel, tb_cons (tb_2 3 7 rfl rfl) (tb_cons (tb_2 3 8 rfl rfl) (tb_cons (tb_2 1 1 rfl rfl) (tb_cons (tb_2 3 9 rfl rfl) (tb_nil))))⟩
theorem sgVX7_say : SgV sgX7_say 7 := ⟨by decide +kernel, tb_cons (tb_2 3 11 rfl rfl) (tb_cons (tb_2 3 12 rfl rfl) (tb_cons (tb_2 1 1 rfl rfl) (tb_cons (tb_2 3 13 rfl rfl) (tb_nil))))⟩
theorem sgVX7_unsay : SgV sgX7_unsay 7 := ⟨by decide +kernel, tb_cons (tb_2 3 19 rfl rfl) (tb_cons (tb_2 3 20 rfl rfl) (tb_cons (tb_2 1 1 rfl rfl) (tb_cons (tb_2 3 21 rfl rfl) (tb_nil))))⟩
theorem sgVX7_said : SgV sgX7_said 7 := ⟨by decide +kernel, tb_cons (tb_2 3 23 rfl rfl) (tb_cons (tb_2 3 24 rfl rfl) (tb_cons (tb_2 1 1 rfl rfl) (tb_cons (tb_2 3 25 rfl rfl) (tb_nil))))⟩
theorem sgVX7_worlds : SgV sgX7_worlds 7 := ⟨by decide +kernel, tb_cons (tb_2 3 32 rfl rfl) (tb_cons (tb_2 3 33 rfl rfl) (tb_cons (tb_2 1 1 rfl rfl) (tb_cons (tb_2 3 34 rfl rfl) (tb_nil))))⟩
theorem sgVX7_behind : SgV sgX7_behind 7 := ⟨by decide +kernel, tb_cons (tb_2 3 74 rfl rfl) (tb_cons (tb_2 3 75 rfl rfl) (tb_cons (tb_2 1 1 rfl rfl) (tb_cons (tb_2 3 76 rfl rfl) (tb_nil))))⟩
theorem sgVX7_cannot : SgV sgX7_cannot 7 := ⟨by decide +kernel, tb_cons (tb_2 3 95 rfl rfl) (tb_cons (tb_2 3 96 rfl rfl) (tb_cons (tb_2 1 1 rfl rfl) (tb_cons (tb_2 3 97 rfl rfl) (tb_nil))))⟩
theorem sgVX7_lies : SgV sgX7_lies 7 := ⟨by decide +kernel, tb_cons (tb_2 3 99 rfl rfl) (tb_cons (tb_2 3 100 rfl rfl) (tb_cons (tb_2 1 1 rfl rfl) (tb_cons (tb_2 3 101 rfl rfl) (tb_nil))))⟩
theorem sgVX7_least : SgV sgX7_least 7 := ⟨by decide +kernel, tb_cons (tb_2 3 107 rfl rfl) (tb_cons (tb_2 3 108 rfl rfl) (tb_cons (tb_2 1 1 rfl rfl) (tb_cons (tb_2 3 109 rfl rfl) (tb_nil))))⟩
theorem sgVX7_mad : SgV sgX7_mad 7 := ⟨by decide +kernel, tb_cons (tb_2 3 118 rfl rfl) (tb_cons (tb_2 3 119 rfl rfl) (tb_cons (tb_2 1 1 rfl rfl) (tb_cons (tb_2 3 120 rfl rfl) (tb_nil))))⟩
theorem sgVX7_habit : SgV sgX7_habit 7 := ⟨by decide +kernel, tb_cons (tb_2 3 126 rfl rfl) (tb_cons (tb_2 3 127 rfl rfl) (tb_cons (tb_2 1 1 rfl rfl) (tb_cons (tb_2 3 128 rfl rfl) (tb_nil))))⟩
theorem sgVX7_kinds : SgV sgX7_kinds 7 := ⟨by decide +kernel, tb_cons (tb_2 3 136 rfl rfl) (tb_cons (tb_2 3 137 rfl rfl) (tb_cons (tb_2 1 1 rfl rfl) (tb_cons (tb_2 3 138 rfl rfl) (tb_nil))))⟩
theorem sgVX7_ask : SgV sgX7_ask 7 := ⟨by decide +kernel, tb_cons (tb_2 3 144 rfl rfl) (tb_cons (tb_2 3 145 rfl rfl) (tb_cons (tb_2 1 1 rfl rfl) (tb_cons (tb_2 3 146 rfl rfl) (tb_nil))))⟩
theorem sgVX7_two : SgV sgX7_two 7 := ⟨by decide +kernel, tb_cons (tb_2 3 165 rfl rfl) (tb_cons (tb_2 3 166 rfl rfl) (tb_cons (tb_2 1 1 rfl rfl) (tb_cons (tb_2 3 167 rfl rfl) (tb_nil))))⟩
theorem sgVX7_parts : SgV sgX7_parts 7 := ⟨by decide +kernel, tb_cons (tb_2 3 173 rfl rfl) (tb_cons (tb_2 3 174 rfl rfl) (tb_cons (tb_2 1 1 rfl rfl) (tb_cons (tb_2 3 175 rfl rfl) (tb_nil))))⟩
theorem sgVX7_hide : SgV sgX7_hide 7 := ⟨by decide +kernel, tb_cons (tb_2 3 177 rfl rfl) (tb_cons (tb_2 3 178 rfl rfl) (tb_cons (tb_2 1 1 rfl rfl) (tb_cons (tb_2 3 179 rfl rfl) (tb_nil))))⟩
theorem sgVX7_same : SgV sgX7_same 7 := ⟨by decide +kernel, tb_cons (tb_2 3 181 rfl rfl) (tb_cons (tb_2 3 182 rfl rfl) (tb_cons (tb_2 1 1 rfl rfl) (tb_cons (tb_2 3 183 rfl rfl) (tb_nil))))⟩
theorem sgVX7_claims : SgV sgX7_claims 7 := ⟨by decide +kernel, tb_cons (tb_2 3 185 rfl rfl) (tb_cons (tb_2 3 186 rfl rfl) (tb_cons (tb_2 1 1 rfl rfl) (tb_cons (tb_2 3 187 rfl rfl) (tb_nil))))⟩
theorem sgVX7_settle : SgV sgX7_settle 7 := ⟨by decide +kernel, tb_cons (tb_2 3 189 rfl rfl) (tb_cons (tb_2 3 190 rfl rfl) (tb_cons (tb_2 1 1 rfl rfl) (tb_cons (tb_2 3 191 rfl rfl) (tb_nil))))⟩
theorem sgVX7_thrice : SgV sgX7_thrice 7 := ⟨by decide +kernel, tb_cons (tb_2 3 201 rfl rfl) (tb_cons (tb_2 3 202 rfl rfl) (tb_cons (tb_2 1 1 rfl rfl) (tb_cons (tb_2 3 203 rfl rfl) (tb_nil))))⟩
theorem sgVX7_many : SgV sgX7_many 7 := ⟨by decide +kernel, tb_cons (tb_2 3 205 rfl rfl) (tb_cons (tb_2 3 206 rfl rfl) (tb_cons (tb_2 1 1 rfl rfl) (tb_cons (tb_2 3 207 rfl rfl) (tb_nil))))⟩
theorem sgVX7_judge : SgV sgX7_judge 7 := ⟨by decide +kernel, tb_cons (tb_2 3 210 rfl rfl) (tb_cons (tb_2 3 211 rfl rfl) (tb_cons (tb_2 1 1 rfl rfl) (tb_cons (tb_2 3 212 rfl rfl) (tb_nil))))⟩
theorem sgVX7_film : SgV sgX7_film 7 := ⟨by decide +kernel, tb_cons (tb_2 3 227 rfl rfl) (tb_cons (tb_2 3 228 rfl rfl) (tb_cons (tb_2 1 1 rfl rfl) (tb_cons (tb_2 3 229 rfl rfl) (tb_nil))))⟩
theorem sgVX7_drawn : SgV sgX7_drawn 7 := ⟨by decide +kernel, tb_cons (tb_2 3 239 rfl rfl) (tb_cons (tb_2 4 0 rfl rfl) (tb_cons (tb_2 1 1 rfl rfl) (tb_cons (tb_2 4 1 rfl rfl) (tb_nil))))⟩
theorem sgVX7_mean : SgV sgX7_mean 7 := ⟨by decide +kernel, tb_cons (tb_2 4 18 rfl rfl) (tb_cons (tb_2 4 19 rfl rfl) (tb_cons (tb_2 1 1 rfl rfl) (tb_cons (tb_2 4 20 rfl rfl) (tb_nil))))⟩
theorem sgVX7_image : SgV sgX7_image 7 := ⟨by decide +kernel, tb_cons (tb_2 4 22 rfl rfl) (tb_cons (tb_2 4 23 rfl rfl) (tb_cons (tb_2 1 1 rfl rfl) (tb_cons (tb_2 4 24 rfl rfl) (tb_nil))))⟩
theorem sgVX7_back : SgV sgX7_back 7 := ⟨by decide +kernel, tb_cons (tb_2 4 31 rfl rfl) (tb_cons (tb_2 4 32 rfl rfl) (tb_cons (tb_2 1 1 rfl rfl) (tb_cons (tb_2 4 33 rfl rfl) (tb_nil))))⟩
theorem sgVX7_sheet : SgV sgX7_sheet 7 := ⟨by decide +kernel, tb_cons (tb_2 4 35 rfl rfl) (tb_cons (tb_2 4 36 rfl rfl) (tb_cons (tb_2 1 1 rfl rfl) (tb_cons (tb_2 4 37 rfl rfl) (tb_nil))))⟩
theorem sgVX7_cell : SgV sgX7_cell 7 := ⟨by decide +kernel, tb_cons (tb_2 4 39 rfl rfl) (tb_cons (tb_2 4 40 rfl rfl) (tb_cons (tb_2 1 1 rfl rfl) (tb_cons (tb_2 4 41 rfl rfl) (tb_nil))))⟩
theorem sgVX7_copy : SgV sgX7_copy 7 := ⟨by decide +kernel, tb_cons (tb_2 4 48 rfl rfl) (tb_cons (tb_2 4 49 rfl rfl) (tb_cons (tb_2 1 1 rfl rfl) (tb_cons (tb_2 4 50 rfl rfl) (tb_nil))))⟩
theorem sgVX7_sayingsBy : SgV sgX7_sayingsBy 7 := ⟨by decide +kernel, tb_cons (tb_2 4 62 rfl rfl) (tb_cons (tb_2 4 63 rfl rfl) (tb_cons (tb_2 1 1 rfl rfl) (tb_cons (tb_2 4 64 rfl rfl) (tb_nil))))⟩
theorem sgVX7_taken : SgV sgX7_taken 7 := ⟨by decide +kernel, tb_cons (tb_2 4 67 rfl rfl) (tb_cons (tb_2 4 68 rfl rfl) (tb_cons (tb_2 1 1 rfl rfl) (tb_cons (tb_2 4 69 rfl rfl) (tb_nil))))⟩
theorem sgSX7_isBelow : SgS sgX7_isBelow := ⟨by decide +kernel, tb_cons (tb_2 2 190 rfl rfl) (tb_cons (tb_2 1 1 rfl rfl) (tb_cons (tb_2 2 191 rfl rfl) (tb_nil)))⟩
theorem sgSX7_isByte : SgS sgX7_isByte := ⟨by decide +kernel, tb_cons (tb_2 1 227 rfl rfl) (tb_cons (tb_2 1 1 rfl rfl) (tb_cons (tb_2 1 228 rfl rfl) (tb_nil)))⟩
theorem sgSX7_isKind : SgS sgX7_isKind := ⟨by decide +kernel, tb_cons (tb_2 2 227 rfl rfl) (tb_cons (tb_2 1 1 rfl rfl) (tb_cons (tb_2 2 228 rfl rfl) (tb_nil)))⟩
theorem sgSX7_isMore : SgS sgX7_isMore := ⟨by decide +kernel, tb_cons (tb_2 2 230 rfl rfl) (tb_cons (tb_2 1 1 rfl rfl) (tb_cons (tb_2 2 231 rfl rfl) (tb_nil)))⟩
theorem sgSX7_isWorld : SgS sgX7_isWorld := ⟨by decide +kernel, tb_cons (tb_2 2 197 rfl rfl) (tb_cons (tb_2 1 1 rfl rfl) (tb_cons (tb_2 2 198 rfl rfl) (tb_nil)))⟩
theorem sgVX7_isText : SgV sgX7_isText 7 := ⟨by decide +kernel, tb_cons (tb_2 2 187 rfl rfl) (tb_cons (tb_2 0 25 rfl rfl) (tb_cons (tb_2 1 1 rfl rfl) (tb_cons (tb_2 2 188 rfl rfl) (tb_nil))))⟩
theorem sgVX7_isSpeaker : SgV sgX7_isSpeaker 7 := ⟨by decide +kernel, tb_cons (tb_2 3 3 rfl rfl) (tb_cons (tb_2 0 29 rfl rfl) (tb_cons (tb_2 1 1 rfl rfl) (tb_cons (tb_2 3 4 rfl rfl) (tb_nil))))⟩
theorem sgSX7_at : SgS sgX7_at := ⟨by decide +kernel, tb_cons (tb_2 2 11 rfl rfl) (tb_cons (tb_2 1 1 rfl rfl) (tb_cons (tb_2 2 12 rfl rfl) (tb_nil)))⟩
theorem sgSX7_put : SgS sgX7_put := ⟨by decide +kernel, tb_cons (tb_2 1 99 rfl rfl) (tb_cons (tb_2 1 1 rfl rfl) (tb_cons (tb_2 1 100 rfl rfl) (tb_nil)))⟩
theorem sgSX7_bit : SgS sgX7_bit := ⟨by decide +kernel, tb_cons (tb_2 2 164 rfl rfl) (tb_cons (tb_2 1 1 rfl rfl) (tb_cons (tb_2 2 165 rfl rfl) (tb_nil)))⟩
theorem sgSX7_bits : SgS sgX7_bits := ⟨by decide +kernel, tb_cons (tb_2 2 215 rfl rfl) (tb_cons (tb_2 1 1 rfl rfl) (tb_cons (tb_2 2 216 rfl rfl) (tb_nil)))⟩
theorem sgSX7_worldNumber : SgS sgX7_worldNumber := ⟨by decide +kernel, tb_cons (tb_2 3 92 rfl rfl) (tb_cons (tb_2 1 1 rfl rfl) (tb_cons (tb_2 3 93 rfl rfl) (tb_nil)))⟩
theorem sgSX7_fewer : SgS sgX7_fewer := ⟨by decide +kernel, tb_cons (tb_2 3 115 rfl rfl) (tb_cons (tb_2 1 1 rfl rfl) (tb_cons (tb_2 3 116 rfl rfl) (tb_nil)))⟩
theorem sgSX7_inLowestTerms : SgS sgX7_inLowestTerms := ⟨by decide +kernel, tb_cons (tb_2 3 130 rfl rfl) (tb_cons (tb_2 1 1 rfl rfl) (tb_cons (tb_2 3 131 rfl rfl) (tb_nil)))⟩
theorem sgSX7_commonDivisor : SgS sgX7_commonDivisor := ⟨by decide +kernel, tb_cons (tb_2 3 133 rfl rfl) (tb_cons (tb_2 1 1 rfl rfl) (tb_cons (tb_2 3 134 rfl rfl) (tb_nil)))⟩
theorem sgSX7_canSay : SgS sgX7_canSay := ⟨by decide +kernel, tb_cons (tb_2 3 68 rfl rfl) (tb_cons (tb_2 1 1 rfl rfl) (tb_cons (tb_2 3 69 rfl rfl) (tb_nil)))⟩
theorem sgSX7_turnsAt : SgS sgX7_turnsAt := ⟨by decide +kernel, tb_cons (tb_2 3 71 rfl rfl) (tb_cons (tb_2 1 1 rfl rfl) (tb_cons (tb_2 3 72 rfl rfl) (tb_nil)))⟩
theorem sgVX7_onceOf : SgV sgX7_onceOf 7 := ⟨by decide +kernel, tb_cons (tb_2 3 49 rfl rfl) (tb_cons (tb_2 0 35 rfl rfl) (tb_cons (tb_2 1 1 rfl rfl) (tb_cons (tb_2 3 50 rfl rfl) (tb_nil))))⟩
theorem sgVX7_lawful : SgV sgX7_lawful 7 := ⟨by decide +kernel, tb_cons (tb_2 3 45 rfl rfl) (tb_cons (tb_2 0 34 rfl rfl) (tb_cons (tb_2 1 1 rfl rfl) (tb_cons (tb_2 3 46 rfl rfl) (tb_nil))))⟩
theorem sgVX7_firstSaid : SgV sgX7_firstSaid 7 := ⟨by decide +kernel, tb_cons (tb_2 3 61 rfl rfl) (tb_cons (tb_2 0 38 rfl rfl) (tb_cons (tb_2 1 1 rfl rfl) (tb_cons (tb_2 3 62 rfl rfl) (tb_nil))))⟩
theorem sgVX7_secondSaid : SgV sgX7_secondSaid 7 := ⟨by decide +kernel, tb_cons (tb_2 3 65 rfl rfl) (tb_cons (tb_2 0 39 rfl rfl) (tb_cons (tb_2 1 1 rfl rfl) (tb_cons (tb_2 3 66 rfl rfl) (tb_nil))))⟩
theorem sgVX7_sayableNext : SgV sgX7_sayableNext 7 := ⟨by decide +kernel, tb_cons (tb_2 3 157 rfl rfl) (tb_cons (tb_2 0 46 rfl rfl) (tb_cons (tb_2 1 1 rfl rfl) (tb_cons (tb_2 3 158 rfl rfl) (tb_nil))))⟩
theorem sgVX7_sayable : SgV sgX7_sayable 7 := ⟨by decide +kernel, tb_cons (tb_2 3 53 rfl rfl) (tb_cons (tb_2 0 36 rfl rfl) (tb_cons (tb_2 1 1 rfl rfl) (tb_cons (tb_2 3 54 rfl rfl) (tb_nil))))⟩
theorem sgVX7_sayableAs : SgV sgX7_sayableAs 7 := ⟨by decide +kernel, tb_cons (tb_2 3 57 rfl rfl) (tb_cons (tb_2 0 37 rfl rfl) (tb_cons (tb_2 1 1 rfl rfl) (tb_cons (tb_2 3 58 rfl rfl) (tb_nil))))⟩
theorem sgVX7_allSayableWere : SgV sgX7_allSayableWere 7 := ⟨by decide +kernel, tb_cons (tb_2 3 141 rfl rfl) (tb_cons (tb_2 0 43 rfl rfl) (tb_cons (tb_2 1 1 rfl rfl) (tb_cons (tb_2 3 142 rfl rfl) (tb_nil))))⟩
theorem sgVX7_fittingFirst : SgV sgX7_fittingFirst 7 := ⟨by decide +kernel, tb_cons (tb_2 3 41 rfl rfl) (tb_cons (tb_2 0 33 rfl rfl) (tb_cons (tb_2 1 1 rfl rfl) (tb_cons (tb_2 3 42 rfl rfl) (tb_nil))))⟩
theorem sgVX7_fitting : SgV sgX7_fitting 7 := ⟨by decide +kernel, tb_cons (tb_2 3 37 rfl rfl) (tb_cons (tb_2 0 32 rfl rfl) (tb_cons (tb_2 1 1 rfl rfl) (tb_cons (tb_2 3 38 rfl rfl) (tb_nil))))⟩
theorem sgVX7_fittingWithout : SgV sgX7_fittingWithout 7 := ⟨by decide +kernel, tb_cons (tb_2 3 104 rfl rfl) (tb_cons (tb_2 0 40 rfl rfl) (tb_cons (tb_2 1 1 rfl rfl) (tb_cons (tb_2 3 105 rfl rfl) (tb_nil))))⟩
theorem sgVX7_fittingWereMad : SgV sgX7_fittingWereMad 7 := ⟨by decide +kernel, tb_cons (tb_2 3 123 rfl rfl) (tb_cons (tb_2 0 42 rfl rfl) (tb_cons (tb_2 1 1 rfl rfl) (tb_cons (tb_2 3 124 rfl rfl) (tb_nil))))⟩
theorem sgVX7_misfits : SgV sgX7_misfits 7 := ⟨by decide +kernel, tb_cons (tb_2 3 112 rfl rfl) (tb_cons (tb_2 0 41 rfl rfl) (tb_cons (tb_2 1 1 rfl rfl) (tb_cons (tb_2 3 113 rfl rfl) (tb_nil))))⟩
theorem sgSX7_isSure : SgS sgX7_isSure := ⟨by decide +kernel, tb_cons (tb_2 3 89 rfl rfl) (tb_cons (tb_2 1 1 rfl rfl) (tb_cons (tb_2 3 90 rfl rfl) (tb_nil)))⟩
theorem sgSX7_thingsSure : SgS sgX7_thingsSure := ⟨by decide +kernel, tb_cons (tb_2 3 84 rfl rfl) (tb_cons (tb_2 1 1 rfl rfl) (tb_cons (tb_2 3 85 rfl rfl) (tb_nil)))⟩
theorem sgVX7_findBest : SgV sgX7_findBest 7 := ⟨by decide +kernel, tb_cons (tb_2 3 149 rfl rfl) (tb_cons (tb_2 0 44 rfl rfl) (tb_cons (tb_2 1 1 rfl rfl) (tb_cons (tb_2 3 150 rfl rfl) (tb_nil))))⟩
theorem sgVX7_worstOf : SgV sgX7_worstOf 7 := ⟨by decide +kernel, tb_cons (tb_2 3 153 rfl rfl) (tb_cons (tb_2 0 45 rfl rfl) (tb_cons (tb_2 1 1 rfl rfl) (tb_cons (tb_2 3 154 rfl rfl) (tb_nil))))⟩
theorem sgVX7_worstBehind : SgV sgX7_worstBehind 7 := ⟨by decide +kernel, tb_cons (tb_2 3 170 rfl rfl) (tb_cons (tb_2 0 48 rfl rfl) (tb_cons (tb_2 1 1 rfl rfl) (tb_cons (tb_2 3 171 rfl rfl) (tb_nil))))⟩
theorem sgVX7_strangerAsks : SgV sgX7_strangerAsks 7 := ⟨by decide +kernel, tb_cons (tb_2 4 5 rfl rfl) (tb_cons (tb_2 0 56 rfl rfl) (tb_cons (tb_2 1 1 rfl rfl) (tb_cons (tb_2 4 6 rfl rfl) (tb_nil))))⟩
theorem sgVX7_answered : SgV sgX7_answered 7 := ⟨by decide +kernel, tb_cons (tb_2 4 15 rfl rfl) (tb_cons (tb_2 0 57 rfl rfl) (tb_cons (tb_2 1 1 rfl rfl) (tb_cons (tb_2 4 16 rfl rfl) (tb_nil))))⟩
theorem sgSX7_lotBehind : SgS sgX7_lotBehind := ⟨by decide +kernel, tb_cons (tb_2 4 8 rfl rfl) (tb_cons (tb_2 1 1 rfl rfl) (tb_cons (tb_2 4 9 rfl rfl) (tb_nil)))⟩
theorem sgVX7_settles : SgV sgX7_settles 7 := ⟨by decide +kernel, tb_cons (tb_2 3 194 rfl rfl) (tb_cons (tb_2 0 49 rfl rfl) (tb_cons (tb_2 1 1 rfl rfl) (tb_cons (tb_2 3 195 rfl rfl) (tb_nil))))⟩
theorem sgVX7_markOf : SgV sgX7_markOf 7 := ⟨by decide +kernel, tb_cons (tb_2 3 198 rfl rfl) (tb_cons (tb_2 0 50 rfl rfl) (tb_cons (tb_2 1 1 rfl rfl) (tb_cons (tb_2 3 199 rfl rfl) (tb_nil))))⟩
theorem sgVX7_rowFits : SgV sgX7_rowFits 7 := ⟨by decide +kernel, tb_cons (tb_2 3 220 rfl rfl) (tb_cons (tb_2 0 52 rfl rfl) (tb_cons (tb_2 1 1 rfl rfl) (tb_cons (tb_2 3 221 rfl rfl) (tb_nil))))⟩
theorem sgVX7_sayingTaken : SgV sgX7_sayingTaken 7 := ⟨by decide +kernel, tb_cons (tb_2 4 72 rfl rfl) (tb_cons (tb_2 0 62 rfl rfl) (tb_cons (tb_2 1 1 rfl rfl) (tb_cons (tb_2 4 73 rfl rfl) (tb_nil))))⟩
theorem sgVX7_speakerTaken : SgV sgX7_speakerTaken 7 := ⟨by decide +kernel, tb_cons (tb_2 4 76 rfl rfl) (tb_cons (tb_2 0 63 rfl rfl) (tb_cons (tb_2 1 1 rfl rfl) (tb_cons (tb_2 4 77 rfl rfl) (tb_nil))))⟩
theorem sgSX7_isOneOf : SgS sgX7_isOneOf := ⟨by decide +kernel, tb_cons (tb_2 4 79 rfl rfl) (tb_cons (tb_2 1 1 rfl rfl) (tb_cons (tb_2 4 80 rfl rfl) (tb_nil)))⟩
theorem sgIX8_init : SgI sgX8_init := ⟨by decide +kernel, tb_cons (tb_2 4 84 rfl rfl) (tb_cons (tb_2 1 9 rfl rfl) (tb_cons (tb_2 4 85 rfl rfl) (tb_nil)))⟩
theorem sgSX8_in : SgS sgX8_in := ⟨by decide +kernel, tb_cons (tb_2 4 96 rfl rfl) (tb_cons (tb_2 1 9 rfl rfl) (tb_cons (tb_2 4 97 rfl rfl) (tb_nil)))⟩
theorem sgSX8_within : SgS sgX8_within := ⟨by decide +kernel, tb_cons (tb_2 5 46 rfl rfl) (tb_cons (tb_2 1 9 rfl rfl) (tb_cons (tb_2 5 47 rfl rfl) (tb_nil)))⟩
theorem sgVX8_isSpeaker : SgV sgX8_isSpeaker 8 := ⟨by decide +kernel, tb_cons (tb_2 5 75 rfl rfl) (tb_cons (tb_2 0 77 rfl rfl) (tb_cons (tb_2 1 9 rfl rfl) (tb_cons (tb_2 5 76 rfl rfl) (tb_nil))))⟩
theorem sgVX8_isOfTexts : SgV sgX8_isOfTexts 8 := ⟨by decide +kernel, tb_cons (tb_2 5 29 rfl rfl) (tb_cons (tb_2 0 73 rfl rfl) (tb_cons (tb_2 1 9 rfl rfl) (tb_cons (tb_2 5 30 rfl rfl) (tb_nil))))⟩
theorem sgSX8_isWorld : SgS sgX8_isWorld := ⟨by decide +kernel, tb_cons (tb_2 5 32 rfl rfl) (tb_cons (tb_2 1 9 rfl rfl) (tb_cons (tb_2 5 33 rfl rfl) (tb_nil)))⟩
theorem sgSX8_has : SgS sgX8_has := ⟨by decide +kernel, tb_cons (tb_2 5 134 rfl rfl) (tb_cons (tb_2 1 9 rfl rfl) (tb_cons (tb_2 5 135 rfl rfl) (tb_nil)))⟩
theorem sgSX8_bitsOf : SgS sgX8_bitsOf := ⟨by decide +kernel, tb_cons (tb_2 5 131 rfl rfl) (tb_cons (tb_2 1 9 rfl rfl) (tb_cons (tb_2 5 132 rfl rfl) (tb_nil)))⟩
theorem sgVX8_count : SgV sgX8_count 8 := ⟨by decide +kernel, tb_cons (tb_2 5 8 rfl rfl) (tb_cons (tb_2 5 9 rfl rfl) (tb_cons (tb_2 1 9 rfl rfl) (tb_cons (tb_2 5 10 rfl rfl) (tb_nil))))⟩
theorem sgSX8_isByte : SgS sgX8_isByte := ⟨by decide +kernel, tb_cons (tb_2 5 16 rfl rfl) (tb_cons (tb_2 1 9 rfl rfl) (tb_cons (tb_2 5 17 rfl rfl) (tb_nil)))⟩
theorem sgVX8_feed : SgV sgX8_feed 8 := ⟨by decide +kernel, tb_cons (tb_2 5 12 rfl rfl) (tb_cons (tb_2 5 13 rfl rfl) (tb_cons (tb_2 1 9 rfl rfl) (tb_cons (tb_2 5 14 rfl rfl) (tb_nil))))⟩
theorem sgVX8_wordFrom : SgV sgX8_wordFrom 8 := ⟨by decide +kernel, tb_cons (tb_2 4 100 rfl rfl) (tb_cons (tb_2 0 65 rfl rfl) (tb_cons (tb_2 1 9 rfl rfl) (tb_cons (tb_2 4 101 rfl rfl) (tb_nil))))⟩
theorem sgVX8_next : SgV sgX8_next 8 := ⟨by decide +kernel, tb_cons (tb_2 4 93 rfl rfl) (tb_cons (tb_2 0 64 rfl rfl) (tb_cons (tb_2 1 9 rfl rfl) (tb_cons (tb_2 4 94 rfl rfl) (tb_nil))))⟩
theorem sgSX8_rank : SgS sgX8_rank := ⟨by decide +kernel, tb_cons (tb_2 4 116 rfl rfl) (tb_cons (tb_2 1 9 rfl rfl) (tb_cons (tb_2 4 117 rfl rfl) (tb_nil)))⟩
theorem sgVX8_puts : SgV sgX8_puts 8 := ⟨by decide +kernel, tb_cons (tb_2 4 109 rfl rfl) (tb_cons (tb_2 0 67 rfl rfl) (tb_cons (tb_2 1 9 rfl rfl) (tb_cons (tb_2 4 110 rfl rfl) (tb_nil))))⟩
theorem sgVX8_unwinds : SgV sgX8_unwinds 8 := ⟨by decide +kernel, tb_cons (tb_2 4 113 rfl rfl) (tb_cons (tb_2 0 68 rfl rfl) (tb_cons (tb_2 1 9 rfl rfl) (tb_cons (tb_2 4 114 rfl rfl) (tb_nil))))⟩
theorem sgVX8_holds : SgV sgX8_holds 8 := ⟨by decide +kernel, tb_cons (tb_2 4 124 rfl rfl) (tb_cons (tb_2 0 70 rfl rfl) (tb_cons (tb_2 1 9 rfl rfl) (tb_cons (tb_2 4 125 rfl rfl) (tb_nil))))⟩
theorem sgVX8_opensOne : SgV sgX8_opensOne 8 := ⟨by decide +kernel, tb_cons (tb_2 4 120 rfl rfl) (tb_cons (tb_2 0 69 rfl rfl) (tb_cons (tb_2 1 9 rfl rfl) (tb_cons (tb_2 4 121 rfl rfl) (tb_nil))))⟩
theorem sgVX8_between : SgV sgX8_between 8 := ⟨by decide +kernel, tb_cons (tb_2 4 132 rfl rfl) (tb_cons (tb_2 0 72 rfl rfl) (tb_cons (tb_2 1 9 rfl rfl) (tb_cons (tb_2 4 133 rfl rfl) (tb_nil))))⟩
theorem sgVX8_signOf : SgV sgX8_signOf 8 := ⟨by decide +kernel, tb_cons (tb_2 4 128 rfl rfl) (tb_cons (tb_2 0 71 rfl rfl) (tb_cons (tb_2 1 9 rfl rfl) (tb_cons (tb_2 4 129 rfl rfl) (tb_nil))))⟩
theorem sgVX8_eRead : SgV sgX8_eRead 8 := ⟨by decide +kernel, tb_cons (tb_2 4 104 rfl rfl) (tb_cons (tb_2 0 66 rfl rfl) (tb_cons (tb_2 1 9 rfl rfl) (tb_cons (tb_2 4 105 rfl rfl) (tb_nil))))⟩
theorem sgVX8_text : SgV sgX8_text 8 := ⟨by decide +kernel, tb_cons (tb_2 4 88 rfl rfl) (tb_cons (tb_2 4 89 rfl rfl) (tb_cons (tb_2 1 9 rfl rfl) (tb_cons (tb_2 4 90 rfl rfl) (tb_nil))))⟩
theorem sgSX8_two : SgS sgX8_two := ⟨by decide +kernel, tb_cons (tb_2 5 43 rfl rfl) (tb_cons (tb_2 1 9 rfl rfl) (tb_cons (tb_2 5 44 rfl rfl) (tb_nil)))⟩
theorem sgVX8_says : SgV sgX8_says 8 := ⟨by decide +kernel, tb_cons (tb_2 5 40 rfl rfl) (tb_cons (tb_2 0 75 rfl rfl) (tb_cons (tb_2 1 9 rfl rfl) (tb_cons (tb_2 5 41 rfl rfl) (tb_nil))))⟩
theorem sgVX8_force : SgV sgX8_force 8 := ⟨by decide +kernel, tb_cons (tb_2 5 20 rfl rfl) (tb_cons (tb_2 5 21 rfl rfl) (tb_cons (tb_2 1 9 rfl rfl) (tb_cons (tb_2 5 22 rfl rfl) (tb_nil))))⟩
theorem sgVX8_saysOf : SgV sgX8_saysOf 8 := ⟨by decide +kernel, tb_cons (tb_2 5 36 rfl rfl) (tb_cons (tb_2 0 74 rfl rfl) (tb_cons (tb_2 1 9 rfl rfl) (tb_cons (tb_2 5 37 rfl rfl) (tb_nil))))⟩
theorem sgVX8_asks : SgV sgX8_asks 8 := ⟨by decide +kernel, tb_cons (tb_2 5 24 rfl rfl) (tb_cons (tb_2 5 25 rfl rfl) (tb_cons (tb_2 1 9 rfl rfl) (tb_cons (tb_2 5 26 rfl rfl) (tb_nil))))⟩
theorem sgVX8_soIn : SgV sgX8_soIn 8 := ⟨by decide +kernel, tb_cons (tb_2 5 54 rfl rfl) (tb_cons (tb_2 0 76 rfl rfl) (tb_cons (tb_2 1 9 rfl rfl) (tb_cons (tb_2 5 55 rfl rfl) (tb_nil))))⟩
theorem sgVX8_means : SgV sgX8_means 8 := ⟨by decide +kernel, tb_cons (tb_2 5 49 rfl rfl) (tb_cons (tb_2 5 50 rfl rfl) (tb_cons (tb_2 1 9 rfl rfl) (tb_cons (tb_2 5 51 rfl rfl) (tb_nil))))⟩
theorem sgVX8_pairs : SgV sgX8_pairs 8 := ⟨by decide +kernel, tb_cons (tb_2 5 58 rfl rfl) (tb_cons (tb_2 5 59 rfl rfl) (tb_cons (tb_2 1 9 rfl rfl) (tb_cons (tb_2 5 60 rfl rfl) (tb_nil))))⟩
theorem sgVX8_reads : SgV sgX8_reads 8 := ⟨by decide +kernel, tb_cons (tb_2 5 103 rfl rfl) (tb_cons (tb_2 0 79 rfl rfl) (tb_cons (tb_2 1 9 rfl rfl) (tb_cons (tb_2 5 104 rfl rfl) (tb_nil))))⟩
theorem sgVX8_once : SgV sgX8_once 8 := ⟨by decide +kernel, tb_cons (tb_2 5 111 rfl rfl) (tb_cons (tb_2 0 81 rfl rfl) (tb_cons (tb_2 1 9 rfl rfl) (tb_cons (tb_2 5 112 rfl rfl) (tb_nil))))⟩
theorem sgSX8_isSo : SgS sgX8_isSo := ⟨by decide +kernel, tb_cons (tb_2 5 67 rfl rfl) (tb_cons (tb_2 1 9 rfl rfl) (tb_cons (tb_2 5 68 rfl rfl) (tb_nil)))⟩
theorem sgVX8_speaker : SgV sgX8_speaker 8 := ⟨by decide +kernel, tb_cons (tb_2 5 63 rfl rfl) (tb_cons (tb_2 5 64 rfl rfl) (tb_cons (tb_2 1 9 rfl rfl) (tb_cons (tb_2 5 65 rfl rfl) (tb_nil))))⟩
theorem sgVX8_turn : SgV sgX8_turn 8 := ⟨by decide +kernel, tb_cons (tb_2 5 70 rfl rfl) (tb_cons (tb_2 5 71 rfl rfl) (tb_cons (tb_2 1 9 rfl rfl) (tb_cons (tb_2 5 72 rfl rfl) (tb_nil))))⟩
theorem sgVX8_told : SgV sgX8_told 8 := ⟨by decide +kernel, tb_cons (tb_2 5 78 rfl rfl) (tb_cons (tb_2 5 79 rfl rfl) (tb_cons (tb_2 1 9 rfl rfl) (tb_cons (tb_2 5 80 rfl rfl) (tb_nil))))⟩
theorem sgVX8_say : SgV sgX8_say 8 := ⟨by decide +kernel, tb_cons (tb_2 5 82 rfl rfl) (tb_cons (tb_2 5 83 rfl rfl) (tb_cons (tb_2 1 9 rfl rfl) (tb_cons (tb_2 5 84 rfl rfl) (tb_nil))))⟩
theorem sgVX8_unsay : SgV sgX8_unsay 8 := ⟨by decide +kernel, tb_cons (tb_2 5 86 rfl rfl) (tb_cons (tb_2 5 87 rfl rfl) (tb_cons (tb_2 1 9 rfl rfl) (tb_cons (tb_2 5 88 rfl rfl) (tb_nil))))⟩
theorem sgVX8_said : SgV sgX8_said 8 := ⟨by decide +kernel, tb_cons (tb_2 5 90 rfl rfl) (tb_cons (tb_2 5 91 rfl rfl) (tb_cons (tb_2 1 9 rfl rfl) (tb_cons (tb_2 5 92 rfl rfl) (tb_nil))))⟩
theorem sgVX8_canSay : SgV sgX8_canSay 8 := ⟨by decide +kernel, tb_cons (tb_2 5 123 rfl rfl) (tb_cons (tb_2 0 84 rfl rfl) (tb_cons (tb_2 1 9 rfl rfl) (tb_cons (tb_2 5 124 rfl rfl) (tb_nil))))⟩
theorem sgVX8_fits : SgV sgX8_fits 8 := ⟨by decide +kernel, tb_cons (tb_2 5 119 rfl rfl) (tb_cons (tb_2 0 83 rfl rfl) (tb_cons (tb_2 1 9 rfl rfl) (tb_cons (tb_2 5 120 rfl rfl) (tb_nil))))⟩
theorem sgVX8_fitsSaying : SgV sgX8_fitsSaying 8 := ⟨by decide +kernel, tb_cons (tb_2 5 115 rfl rfl) (tb_cons (tb_2 0 82 rfl rfl) (tb_cons (tb_2 1 9 rfl rfl) (tb_cons (tb_2 5 116 rfl rfl) (tb_nil))))⟩
theorem sgVX8_worldsOf : SgV sgX8_worldsOf 8 := ⟨by decide +kernel, tb_cons (tb_2 5 107 rfl rfl) (tb_cons (tb_2 0 80 rfl rfl) (tb_cons (tb_2 1 9 rfl rfl) (tb_cons (tb_2 5 108 rfl rfl) (tb_nil))))⟩
theorem sgVX8_worldsNow : SgV sgX8_worldsNow 8 := ⟨by decide +kernel, tb_cons (tb_2 5 99 rfl rfl) (tb_cons (tb_2 0 78 rfl rfl) (tb_cons (tb_2 1 9 rfl rfl) (tb_cons (tb_2 5 100 rfl rfl) (tb_nil))))⟩
theorem sgVX8_worlds : SgV sgX8_worlds 8 := ⟨by decide +kernel, tb_cons (tb_2 5 94 rfl rfl) (tb_cons (tb_2 5 95 rfl rfl) (tb_cons (tb_2 1 9 rfl rfl) (tb_cons (tb_2 5 96 rfl rfl) (tb_nil))))⟩
theorem sgSX8_allIn : SgS sgX8_allIn := ⟨by decide +kernel, tb_cons (tb_2 5 137 rfl rfl) (tb_cons (tb_2 1 9 rfl rfl) (tb_cons (tb_2 5 138 rfl rfl) (tb_nil)))⟩
theorem sgSX8_noneIn : SgS sgX8_noneIn := ⟨by decide +kernel, tb_cons (tb_2 5 140 rfl rfl) (tb_cons (tb_2 1 9 rfl rfl) (tb_cons (tb_2 5 141 rfl rfl) (tb_nil)))⟩
theorem sgSX8_leastOf : SgS sgX8_leastOf := ⟨by decide +kernel, tb_cons (tb_2 5 143 rfl rfl) (tb_cons (tb_2 1 9 rfl rfl) (tb_cons (tb_2 5 144 rfl rfl) (tb_nil)))⟩
theorem sgVX8_behind : SgV sgX8_behind 8 := ⟨by decide +kernel, tb_cons (tb_2 5 127 rfl rfl) (tb_cons (tb_2 5 128 rfl rfl) (tb_cons (tb_2 1 9 rfl rfl) (tb_cons (tb_2 5 129 rfl rfl) (tb_nil))))⟩
theorem sgVX8_cannot : SgV sgX8_cannot 8 := ⟨by decide +kernel, tb_cons (tb_2 5 146 rfl rfl) (tb_cons (tb_2 5 147 rfl rfl) (tb_cons (tb_2 1 9 rfl rfl) (tb_cons (tb_2 5 148 rfl rfl) (tb_nil))))⟩
theorem sgVX8_findsFitting : SgV sgX8_findsFitting 8 := ⟨by decide +kernel, tb_cons (tb_2 5 155 rfl rfl) (tb_cons (tb_2 0 85 rfl rfl) (tb_cons (tb_2 1 9 rfl rfl) (tb_cons (tb_2 5 156 rfl rfl) (tb_nil))))⟩
theorem sgVX8_without : SgV sgX8_without 8 := ⟨by decide +kernel, tb_cons (tb_2 5 159 rfl rfl) (tb_cons (tb_2 0 86 rfl rfl) (tb_cons (tb_2 1 9 rfl rfl) (tb_cons (tb_2 5 160 rfl rfl) (tb_nil))))⟩
theorem sgVX8_lies : SgV sgX8_lies 8 := ⟨by decide +kernel, tb_cons (tb_2 5 150 rfl rfl) (tb_cons (tb_2 5 151 rfl rfl) (tb_cons (tb_2 1 9 rfl rfl) (tb_cons (tb_2 5 152 rfl rfl) (tb_nil))))⟩
theorem sgVX8_least : SgV sgX8_least 8 := ⟨by decide +kernel, tb_cons (tb_2 5 162 rfl rfl) (tb_cons (tb_2 5 163 rfl rfl) (tb_cons (tb_2 1 9 rfl rfl) (tb_cons (tb_2 5 164 rfl rfl) (tb_nil))))⟩
theorem sgVX8_worldsMad : SgV sgX8_worldsMad 8 := ⟨by decide +kernel, tb_cons (tb_2 5 171 rfl rfl) (tb_cons (tb_2 0 87 rfl rfl) (tb_cons (tb_2 1 9 rfl rfl) (tb_cons (tb_2 5 172 rfl rfl) (tb_nil))))⟩
theorem sgVX8_mad : SgV sgX8_mad 8 := ⟨by decide +kernel, tb_cons (tb_2 5 166 rfl rfl) (tb_cons (tb_2 5 167 rfl rfl) (tb_cons (tb_2 1 9 rfl rfl) (tb_cons (tb_2 5 168 rfl rfl) (tb_nil))))⟩
theorem sgSX8_lowest : SgS sgX8_lowest := ⟨by decide +kernel, tb_cons (tb_2 5 178 rfl rfl) (tb_cons (tb_2 1 9 rfl rfl) (tb_cons (tb_2 5 179 rfl rfl) (tb_nil)))⟩
theorem sgVX8_habit : SgV sgX8_habit 8 := ⟨by decide +kernel, tb_cons (tb_2 5 174 rfl rfl) (tb_cons (tb_2 5 175 rfl rfl) (tb_cons (tb_2 1 9 rfl rfl) (tb_cons (tb_2 5 176 rfl rfl) (tb_nil))))⟩
theorem sgVX8_kinds : SgV sgX8_kinds 8 := ⟨by decide +kernel, tb_cons (tb_2 5 181 rfl rfl) (tb_cons (tb_2 5 182 rfl rfl) (tb_cons (tb_2 1 9 rfl rfl) (tb_cons (tb_2 5 183 rfl rfl) (tb_nil))))⟩
theorem sgVX8_worstOf : SgV sgX8_worstOf 8 := ⟨by decide +kernel, tb_cons (tb_2 5 194 rfl rfl) (tb_cons (tb_2 0 89 rfl rfl) (tb_cons (tb_2 1 9 rfl rfl) (tb_cons (tb_2 5 195 rfl rfl) (tb_nil))))⟩
theorem sgVX8_findsQuestion : SgV sgX8_findsQuestion 8 := ⟨by decide +kernel, tb_cons (tb_2 5 190 rfl rfl) (tb_cons (tb_2 0 88 rfl rfl) (tb_cons (tb_2 1 9 rfl rfl) (tb_cons (tb_2 5 191 rfl rfl) (tb_nil))))⟩
theorem sgVX8_ask : SgV sgX8_ask 8 := ⟨by decide +kernel, tb_cons (tb_2 5 185 rfl rfl) (tb_cons (tb_2 5 186 rfl rfl) (tb_cons (tb_2 1 9 rfl rfl) (tb_cons (tb_2 5 187 rfl rfl) (tb_nil))))⟩
theorem sgVX8_worstBehind : SgV sgX8_worstBehind 8 := ⟨by decide +kernel, tb_cons (tb_2 5 202 rfl rfl) (tb_cons (tb_2 0 90 rfl rfl) (tb_cons (tb_2 1 9 rfl rfl) (tb_cons (tb_2 5 203 rfl rfl) (tb_nil))))⟩
theorem sgVX8_two_ : SgV sgX8_two_ 8 := ⟨by decide +kernel, tb_cons (tb_2 5 197 rfl rfl) (tb_cons (tb_2 5 198 rfl rfl) (tb_cons (tb_2 1 9 rfl rfl) (tb_cons (tb_2 5 199 rfl rfl) (tb_nil))))⟩
theorem sgVX8_parts : SgV sgX8_parts 8 := ⟨by decide +kernel, tb_cons (tb_2 5 205 rfl rfl) (tb_cons (tb_2 5 206 rfl rfl) (tb_cons (tb_2 1 9 rfl rfl) (tb_cons (tb_2 5 207 rfl rfl) (tb_nil))))⟩
theorem sgSX8_isSure : SgS sgX8_isSure := ⟨by decide +kernel, tb_cons (tb_2 5 213 rfl rfl) (tb_cons (tb_2 1 9 rfl rfl) (tb_cons (tb_2 5 214 rfl rfl) (tb_nil)))⟩
theorem sgVX8_hide : SgV sgX8_hide 8 := ⟨by decide +kernel, tb_cons (tb_2 5 209 rfl rfl) (tb_cons (tb_2 5 210 rfl rfl) (tb_cons (tb_2 1 9 rfl rfl) (tb_cons (tb_2 5 211 rfl rfl) (tb_nil))))⟩
theorem sgVX8_same : SgV sgX8_same 8 := ⟨by decide +kernel, tb_cons (tb_2 5 216 rfl rfl) (tb_cons (tb_2 5 217 rfl rfl) (tb_cons (tb_2 1 9 rfl rfl) (tb_cons (tb_2 5 218 rfl rfl) (tb_nil))))⟩
theorem sgVX8_claims : SgV sgX8_claims 8 := ⟨by decide +kernel, tb_cons (tb_2 5 220 rfl rfl) (tb_cons (tb_2 5 221 rfl rfl) (tb_cons (tb_2 1 9 rfl rfl) (tb_cons (tb_2 5 222 rfl rfl) (tb_nil))))⟩
theorem sgVX8_settles : SgV sgX8_settles 8 := ⟨by decide +kernel, tb_cons (tb_2 5 229 rfl rfl) (tb_cons (tb_2 0 91 rfl rfl) (tb_cons (tb_2 1 9 rfl rfl) (tb_cons (tb_2 5 230 rfl rfl) (tb_nil))))⟩
theorem sgVX8_settle : SgV sgX8_settle 8 := ⟨by decide +kernel, tb_cons (tb_2 5 224 rfl rfl) (tb_cons (tb_2 5 225 rfl rfl) (tb_cons (tb_2 1 9 rfl rfl) (tb_cons (tb_2 5 226 rfl rfl) (tb_nil))))⟩
theorem sgVX8_thrice : SgV sgX8_thrice 8 := ⟨by decide +kernel, tb_cons (tb_2 5 232 rfl rfl) (tb_cons (tb_2 5 233 rfl rfl) (tb_cons (tb_2 1 9 rfl rfl) (tb_cons (tb_2 5 234 rfl rfl) (tb_nil))))⟩
theorem sgVX8_many : SgV sgX8_many 8 := ⟨by decide +kernel, tb_cons (tb_2 5 236 rfl rfl) (tb_cons (tb_2 5 237 rfl rfl) (tb_cons (tb_2 1 9 rfl rfl) (tb_cons (tb_2 5 238 rfl rfl) (tb_nil))))⟩
theorem sgVX8_isRow : SgV sgX8_isRow 8 := ⟨by decide +kernel, tb_cons (tb_2 6 5 rfl rfl) (tb_cons (tb_2 0 92 rfl rfl) (tb_cons (tb_2 1 9 rfl rfl) (tb_cons (tb_2 6 6 rfl rfl) (tb_nil))))⟩
theorem sgVX8_judge : SgV sgX8_judge 8 := ⟨by decide +kernel, tb_cons (tb_2 6 0 rfl rfl) (tb_cons (tb_2 6 1 rfl rfl) (tb_cons (tb_2 1 9 rfl rfl) (tb_cons (tb_2 6 2 rfl rfl) (tb_nil))))⟩
theorem sgVX8_film : SgV sgX8_film 8 := ⟨by decide +kernel, tb_cons (tb_2 6 8 rfl rfl) (tb_cons (tb_2 6 9 rfl rfl) (tb_cons (tb_2 1 9 rfl rfl) (tb_cons (tb_2 6 10 rfl rfl) (tb_nil))))⟩
theorem sgSX8_worldAt : SgS sgX8_worldAt := ⟨by decide +kernel, tb_cons (tb_2 6 23 rfl rfl) (tb_cons (tb_2 1 9 rfl rfl) (tb_cons (tb_2 6 24 rfl rfl) (tb_nil)))⟩
theorem sgVX8_asksBy : SgV sgX8_asksBy 8 := ⟨by decide +kernel, tb_cons (tb_2 6 18 rfl rfl) (tb_cons (tb_2 0 93 rfl rfl) (tb_cons (tb_2 1 9 rfl rfl) (tb_cons (tb_2 6 19 rfl rfl) (tb_nil))))⟩
theorem sgVX8_drawn : SgV sgX8_drawn 8 := ⟨by decide +kernel, tb_cons (tb_2 6 12 rfl rfl) (tb_cons (tb_2 6 13 rfl rfl) (tb_cons (tb_2 1 9 rfl rfl) (tb_cons (tb_2 6 14 rfl rfl) (tb_nil))))⟩
theorem sgVX8_mean : SgV sgX8_mean 8 := ⟨by decide +kernel, tb_cons (tb_2 6 27 rfl rfl) (tb_cons (tb_2 6 28 rfl rfl) (tb_cons (tb_2 1 9 rfl rfl) (tb_cons (tb_2 6 29 rfl rfl) (tb_nil))))⟩
theorem sgVX8_image : SgV sgX8_image 8 := ⟨by decide +kernel, tb_cons (tb_2 6 31 rfl rfl) (tb_cons (tb_2 6 32 rfl rfl) (tb_cons (tb_2 1 9 rfl rfl) (tb_cons (tb_2 6 33 rfl rfl) (tb_nil))))⟩
theorem sgVX8_back : SgV sgX8_back 8 := ⟨by decide +kernel, tb_cons (tb_2 6 35 rfl rfl) (tb_cons (tb_2 6 36 rfl rfl) (tb_cons (tb_2 1 9 rfl rfl) (tb_cons (tb_2 6 37 rfl rfl) (tb_nil))))⟩
theorem sgVX8_sheet : SgV sgX8_sheet 8 := ⟨by decide +kernel, tb_cons (tb_2 6 39 rfl rfl) (tb_cons (tb_2 6 40 rfl rfl) (tb_cons (tb_2 1 9 rfl rfl) (tb_cons (tb_2 6 41 rfl rfl) (tb_nil))))⟩
theorem sgVX8_cell : SgV sgX8_cell 8 := ⟨by decide +kernel, tb_cons (tb_2 6 43 rfl rfl) (tb_cons (tb_2 6 44 rfl rfl) (tb_cons (tb_2 1 9 rfl rfl) (tb_cons (tb_2 6 45 rfl rfl) (tb_nil))))⟩
theorem sgVX8_copy : SgV sgX8_copy 8 := ⟨by decide +kernel, tb_cons (tb_2 6 47 rfl rfl) (tb_cons (tb_2 6 48 rfl rfl) (tb_cons (tb_2 1 9 rfl rfl) (tb_cons (tb_2 6 49 rfl rfl) (tb_nil))))⟩
theorem sgVX8_sayingsBy : SgV sgX8_sayingsBy 8 := ⟨by decide +kernel, tb_cons (tb_2 6 51 rfl rfl) (tb_cons (tb_2 6 52 rfl rfl) (tb_cons (tb_2 1 9 rfl rfl) (tb_cons (tb_2 6 53 rfl rfl) (tb_nil))))⟩
theorem sgSX8_isUnder : SgS sgX8_isUnder := ⟨by decide +kernel, tb_cons (tb_2 6 60 rfl rfl) (tb_cons (tb_2 1 9 rfl rfl) (tb_cons (tb_2 6 61 rfl rfl) (tb_nil)))⟩
theorem sgVX8_taken : SgV sgX8_taken 8 := ⟨by decide +kernel, tb_cons (tb_2 6 56 rfl rfl) (tb_cons (tb_2 6 57 rfl rfl) (tb_cons (tb_2 1 9 rfl rfl) (tb_cons (tb_2 6 58 rfl rfl) (tb_nil))))⟩
theorem sgSJ6_bitCount_0f7a4 : SgS sgJ6_bitCount_0f7a4 := ⟨by decide +kernel, tb_cons (tb_2 3 78 rfl rfl) (tb_cons (tb_2 1 15 rfl rfl) (tb_cons (tb_2 3 79 rfl rfl) (tb_nil)))⟩
theorem sgQJ0_length_8abf5 : SgX sgJ0_length_8abf5 := ⟨by decide +kernel, tb_cons (tb_2 2 29 rfl rfl) (tb_cons (tb_2 2 30 rfl rfl) (tb_cons (tb_2 1 10 rfl rfl) (tb_cons (tb_2 2 31 rfl rfl) (tb_nil))))⟩
theorem sgQJ0_charAt_5068e : SgX sgJ0_charAt_5068e := ⟨by decide +kernel, tb_cons (tb_2 2 39 rfl rfl) (tb_cons (tb_2 2 40 rfl rfl) (tb_cons (tb_2 1 10 rfl rfl) (tb_cons (tb_2 2 41 rfl rfl) (tb_nil))))⟩
theorem sgQJ0_coder_7d493 : SgX sgJ0_coder_7d493 := ⟨by decide +kernel, tb_cons (tb_2 2 33 rfl rfl) (tb_cons (tb_2 2 34 rfl rfl) (tb_cons (tb_2 1 10 rfl rfl) (tb_cons (tb_2 2 35 rfl rfl) (tb_nil))))⟩
theorem sgQJ0_isLatin1_aae02 : SgX sgJ0_isLatin1_aae02 := ⟨by decide +kernel, tb_cons (tb_2 2 43 rfl rfl) (tb_cons (tb_2 2 44 rfl rfl) (tb_cons (tb_2 1 10 rfl rfl) (tb_cons (tb_2 2 45 rfl rfl) (tb_nil))))⟩
theorem sgSJ0_checkIndex_df160 : SgS sgJ0_checkIndex_df160 := ⟨by decide +kernel, tb_cons (tb_2 2 50 rfl rfl) (tb_cons (tb_2 1 10 rfl rfl) (tb_cons (tb_2 2 51 rfl rfl) (tb_nil)))⟩
theorem sgSJ1_charAt_3b067 : SgS sgJ1_charAt_3b067 := ⟨by decide +kernel, tb_cons (tb_2 2 47 rfl rfl) (tb_cons (tb_2 1 11 rfl rfl) (tb_cons (tb_2 2 48 rfl rfl) (tb_nil)))⟩
theorem sgSJ2_charAt_3b067 : SgS sgJ2_charAt_3b067 := ⟨by decide +kernel, tb_cons (tb_2 2 58 rfl rfl) (tb_cons (tb_2 1 13 rfl rfl) (tb_cons (tb_2 2 59 rfl rfl) (tb_nil)))⟩
theorem sgSJ3_checkIndex_8e157 : SgS sgJ3_checkIndex_8e157 := ⟨by decide +kernel, tb_cons (tb_2 2 55 rfl rfl) (tb_cons (tb_2 1 12 rfl rfl) (tb_cons (tb_2 2 56 rfl rfl) (tb_nil)))⟩
set_option maxRecDepth 100000 in
def kX0_init : List Row := [(.aload_n 0, 0, 1, 0, 0, 0, [], sg0),
  (.invokespecial 3, 1, 2, 0, 9, 0, [], sg0),
  (.aload_n 0, 4, 3, 0, 0, 0, [], sg0),
  (.sipush 160, 5, 4, 0, 0, 160, [], sg0),
  (.newarray .int, 8, 5, 0, 0, 0, [], sg0),
  (.putfield 9, 10, 6, 0, 0, 0, [], sg0),
  (.aload_n 0, 13, 7, 0, 0, 0, [], sg0),
  (.sipush 160, 14, 8, 0, 0, 160, [], sg0),
  (.newarray .int, 17, 9, 0, 0, 0, [], sg0),
  (.putfield 15, 19, 10, 0, 1, 0, [], sg0),
  (.aload_n 0, 22, 11, 0, 0, 0, [], sg0),
  (.iconst 4, 23, 12, 0, 0, 4, [], sg0),
  (.newarray .int, 24, 13, 0, 0, 0, [], sg0),
  (.putfield 18, 26, 14, 0, 2, 0, [], sg0),
  (.aload_n 0, 29, 15, 0, 0, 0, [], sg0),
  (.sipush 160, 30, 16, 0, 0, 160, [], sg0),
  (.newarray .int, 33, 17, 0, 0, 0, [], sg0),
  (.putfield 21, 35, 18, 0, 3, 0, [], sg0),
  (.return_, 38, 19, 0, 0, 0, [], sg0),
  (.nop, 39, 20, 0, 0, 0, [], sg0)]
set_option maxRecDepth 100000 in
theorem okX0_init : Chk sgX0_init kX0_init := ⟨linBQ (by decide +kernel), trivial, tb_l2 [(1, 59), (1, 22), (1, 23), (1, 53), (1, 60), (1, 53), (1, 61), (1, 53), (1, 62), (1, 53), (1, 63)] (by decide +kernel) (by decide +kernel), nw_l2 [] (by decide +kernel) (by decide +kernel), by decide +kernel⟩
set_option maxRecDepth 100000 in
def kX0_clear : List Row := [(.aload_n 0, 0, 1, 0, 0, 0, [], sg0),
  (.iconst 0, 1, 2, 0, 0, 0, [], sg0),
  (.putfield 24, 2, 3, 0, 4, 0, [], sg0),
  (.return_, 5, 4, 0, 0, 0, [], sg0),
  (.nop, 6, 5, 0, 0, 0, [], sg0)]
set_option maxRecDepth 100000 in
theorem okX0_clear : Chk sgX0_clear kX0_clear := ⟨linBQ (by decide +kernel), trivial, tb_l2 [(1, 64)] (by decide +kernel) (by decide +kernel), nw_l2 [] (by decide +kernel) (by decide +kernel), by decide +kernel⟩
set_option maxRecDepth 100000 in
def kX0_add : List Row := [(.aload_n 0, 0, 1, 0, 0, 0, [], sg0),
  (.getfield 24, 1, 2, 0, 4, 0, [], sg0),
  (.sipush 160, 4, 3, 0, 0, 160, [], sg0),
  (.if_icmp .lt 4, 7, 4, 5, 0, 0, [], sg0),
  (.return_, 10, 5, 0, 0, 0, [], sg0),
  (.aload_n 0, 11, 6, 0, 0, 0, [], sg0),
  (.getfield 9, 12, 7, 0, 0, 0, [], sg0),
  (.aload_n 0, 15, 8, 0, 0, 0, [], sg0),
  (.getfield 24, 16, 9, 0, 4, 0, [], sg0),
  (.iload_n 1, 19, 10, 0, 0, 0, [], sg0),
  (.invokestatic 28, 20, 11, 0, 0, 1, [], sgX7_put),
  (.aload_n 0, 23, 12, 0, 0, 0, [], sg0),
  (.getfield 15, 24, 13, 0, 1, 0, [], sg0),
  (.aload_n 0, 27, 14, 0, 0, 0, [], sg0),
  (.getfield 24, 28, 15, 0, 4, 0, [], sg0),
  (.iload_n 2, 31, 16, 0, 0, 0, [], sg0),
  (.invokestatic 28, 32, 17, 0, 0, 1, [], sgX7_put),
  (.aload_n 0, 35, 18, 0, 0, 0, [], sg0),
  (.dup, 36, 19, 0, 0, 0, [], sg0),
  (.getfield 24, 37, 20, 0, 4, 0, [], sg0),
  (.iconst 1, 40, 21, 0, 0, 1, [], sg0),
  (.iadd, 41, 22, 0, 0, 0, [], sg0),
  (.putfield 24, 42, 23, 0, 4, 0, [], sg0),
  (.return_, 45, 24, 0, 0, 0, [], sg0),
  (.nop, 46, 25, 0, 0, 0, [], sg0)]
set_option maxRecDepth 100000 in
theorem okX0_add : Chk sgX0_add kX0_add := ⟨linBQ (by decide +kernel), And.intro sgSX7_put (And.intro sgSX7_put trivial), tb_l2 [(1, 64), (1, 60), (1, 64), (1, 61), (1, 64), (1, 64), (1, 64)] (by decide +kernel) (by decide +kernel), nw_l2 [(2, 133), (2, 133)] (by decide +kernel) (by decide +kernel), by decide +kernel⟩
set_option maxRecDepth 100000 in
def kX0_endPart : List Row := [(.aload_n 0, 0, 1, 0, 0, 0, [], sg0),
  (.getfield 18, 1, 2, 0, 2, 0, [], sg0),
  (.iload_n 1, 4, 3, 0, 0, 0, [], sg0),
  (.iconst 1, 5, 4, 0, 0, 1, [], sg0),
  (.iadd, 6, 5, 0, 0, 0, [], sg0),
  (.aload_n 0, 7, 6, 0, 0, 0, [], sg0),
  (.getfield 24, 8, 7, 0, 4, 0, [], sg0),
  (.invokestatic 28, 11, 8, 0, 0, 1, [], sgX7_put),
  (.return_, 14, 9, 0, 0, 0, [], sg0),
  (.nop, 15, 10, 0, 0, 0, [], sg0)]
set_option maxRecDepth 100000 in
theorem okX0_endPart : Chk sgX0_endPart kX0_endPart := ⟨linBQ (by decide +kernel), And.intro sgSX7_put trivial, tb_l2 [(1, 62), (1, 64)] (by decide +kernel) (by decide +kernel), nw_l2 [(2, 133)] (by decide +kernel) (by decide +kernel), by decide +kernel⟩
set_option maxRecDepth 100000 in
def kX0_truths : List Row := [(.iconst 0, 0, 1, 0, 0, 0, [], sg0),
  (.istore_n 3, 1, 2, 0, 0, 0, [], sg0),
  (.iconst 0, 2, 3, 0, 0, 0, [], sg0),
  (.istore 4, 3, 4, 0, 0, 0, [], sg0),
  (.iload 4, 5, 5, 0, 0, 0, [], sg0),
  (.bipush 32, 7, 6, 0, 0, 32, [], sg0),
  (.if_icmp .ge 27, 9, 7, 21, 0, 0, [], sg0),
  (.aload_n 0, 12, 8, 0, 0, 0, [], sg0),
  (.iload_n 1, 13, 9, 0, 0, 0, [], sg0),
  (.iload 4, 14, 10, 0, 0, 0, [], sg0),
  (.iload_n 2, 16, 11, 0, 0, 0, [], sg0),
  (.invokevirtual 32, 17, 12, 0, 0, 0, [], sgX0_valueOf),
  (.ifCond .eq 10, 20, 13, 19, 0, 0, [], sg0),
  (.iload_n 3, 23, 14, 0, 0, 0, [], sg0),
  (.iconst 1, 24, 15, 0, 0, 1, [], sg0),
  (.iload 4, 25, 16, 0, 0, 0, [], sg0),
  (.ishl, 27, 17, 0, 0, 0, [], sg0),
  (.ior, 28, 18, 0, 0, 0, [], sg0),
  (.istore_n 3, 29, 19, 0, 0, 0, [], sg0),
  (.iinc 4 1, 30, 20, 0, 0, 1, [], sg0),
  (.goto (-28), 33, 21, 4, 0, 0, [], sg0),
  (.iload_n 3, 36, 22, 0, 0, 0, [], sg0),
  (.ireturn, 37, 23, 0, 0, 0, [], sg0),
  (.nop, 38, 24, 0, 0, 0, [], sg0)]
set_option maxRecDepth 100000 in
theorem okX0_truths : Chk sgX0_truths kX0_truths := ⟨linBQ (by decide +kernel), And.intro sgVX0_valueOf trivial, tb_l2 [(2, 150)] (by decide +kernel) (by decide +kernel), nw_l2 [] (by decide +kernel) (by decide +kernel), by decide +kernel⟩
set_option maxRecDepth 100000 in
def kX0_valueOf : List Row := [(.aload_n 0, 0, 1, 0, 0, 0, [], sg0),
  (.iconst 0, 1, 2, 0, 0, 0, [], sg0),
  (.putfield 36, 2, 3, 0, 5, 0, [], sg0),
  (.aload_n 0, 5, 4, 0, 0, 0, [], sg0),
  (.getfield 18, 6, 5, 0, 2, 0, [], sg0),
  (.iload_n 1, 9, 6, 0, 0, 0, [], sg0),
  (.iconst 1, 10, 7, 0, 0, 1, [], sg0),
  (.iadd, 11, 8, 0, 0, 0, [], sg0),
  (.invokestatic 39, 12, 9, 0, 0, 1, [], sgX7_at),
  (.istore 4, 15, 10, 0, 0, 0, [], sg0),
  (.aload_n 0, 17, 11, 0, 0, 0, [], sg0),
  (.getfield 18, 18, 12, 0, 2, 0, [], sg0),
  (.iload_n 1, 21, 13, 0, 0, 0, [], sg0),
  (.invokestatic 39, 22, 14, 0, 0, 1, [], sgX7_at),
  (.istore 5, 25, 15, 0, 0, 0, [], sg0),
  (.iload 5, 27, 16, 0, 0, 0, [], sg0),
  (.iload 4, 29, 17, 0, 0, 0, [], sg0),
  (.if_icmp .ge 33, 31, 18, 32, 0, 0, [], sg0),
  (.aload_n 0, 34, 19, 0, 0, 0, [], sg0),
  (.aload_n 0, 35, 20, 0, 0, 0, [], sg0),
  (.getfield 9, 36, 21, 0, 0, 0, [], sg0),
  (.iload 5, 39, 22, 0, 0, 0, [], sg0),
  (.invokestatic 39, 41, 23, 0, 0, 1, [], sgX7_at),
  (.aload_n 0, 44, 24, 0, 0, 0, [], sg0),
  (.getfield 15, 45, 25, 0, 1, 0, [], sg0),
  (.iload 5, 48, 26, 0, 0, 0, [], sg0),
  (.invokestatic 39, 50, 27, 0, 0, 1, [], sgX7_at),
  (.iload_n 2, 53, 28, 0, 0, 0, [], sg0),
  (.iload_n 3, 54, 29, 0, 0, 0, [], sg0),
  (.invokevirtual 43, 55, 30, 0, 0, 0, [], sgX0_step),
  (.iinc 5 1, 58, 31, 0, 0, 1, [], sg0),
  (.goto (-34), 61, 32, 15, 0, 0, [], sg0),
  (.aload_n 0, 64, 33, 0, 0, 0, [], sg0),
  (.invokevirtual 47, 65, 34, 0, 0, 0, [], sgX0_pop),
  (.ireturn, 68, 35, 0, 0, 0, [], sg0),
  (.nop, 69, 36, 0, 0, 0, [], sg0)]
set_option maxRecDepth 100000 in
theorem okX0_valueOf : Chk sgX0_valueOf kX0_valueOf := ⟨linBQ (by decide +kernel), And.intro sgSX7_at (And.intro sgSX7_at (And.intro sgSX7_at (And.intro sgSX7_at (And.intro sgVX0_step (And.intro sgVX0_pop trivial))))), tb_l2 [(1, 65), (1, 62), (1, 62), (1, 60), (1, 61), (2, 155), (2, 166)] (by decide +kernel) (by decide +kernel), nw_l2 [(2, 154), (2, 154), (2, 154), (2, 154)] (by decide +kernel) (by decide +kernel), by decide +kernel⟩
set_option maxRecDepth 100000 in
def kX0_step : List Row := [(.iload_n 1, 0, 1, 0, 0, 0, [], sg0),
  (.tableswitch 112 2 10 #[51, 59, 112, 112, 112, 112, 112, 93, 81], 1, 2, 32, 0, 0, [2, 6, 32, 32, 32, 32, 32, 23, 17], sg0),
  (.aload_n 0, 52, 3, 0, 0, 0, [], sg0),
  (.iload_n 2, 53, 4, 0, 0, 0, [], sg0),
  (.invokevirtual 51, 54, 5, 0, 0, 0, [], sgX0_push),
  (.goto 76, 57, 6, 42, 0, 0, [], sg0),
  (.aload_n 0, 60, 7, 0, 0, 0, [], sg0),
  (.iload_n 2, 61, 8, 0, 0, 0, [], sg0),
  (.iconst 5, 62, 9, 0, 0, 5, [], sg0),
  (.if_icmp .ne 8, 63, 10, 12, 0, 0, [], sg0),
  (.iload 4, 66, 11, 0, 0, 0, [], sg0),
  (.goto 8, 68, 12, 15, 0, 0, [], sg0),
  (.iload_n 3, 71, 13, 0, 0, 0, [], sg0),
  (.iload_n 2, 72, 14, 0, 0, 0, [], sg0),
  (.invokestatic 55, 73, 15, 0, 0, 1, [], sgX7_bit),
  (.invokevirtual 51, 76, 16, 0, 0, 0, [], sgX0_push),
  (.goto 54, 79, 17, 42, 0, 0, [], sg0),
  (.aload_n 0, 82, 18, 0, 0, 0, [], sg0),
  (.aload_n 0, 83, 19, 0, 0, 0, [], sg0),
  (.invokevirtual 47, 84, 20, 0, 0, 0, [], sgX0_pop),
  (.ineg, 87, 21, 0, 0, 0, [], sg0),
  (.invokevirtual 51, 88, 22, 0, 0, 0, [], sgX0_push),
  (.goto 42, 91, 23, 42, 0, 0, [], sg0),
  (.aload_n 0, 94, 24, 0, 0, 0, [], sg0),
  (.aload_n 0, 95, 25, 0, 0, 0, [], sg0),
  (.invokevirtual 47, 96, 26, 0, 0, 0, [], sgX0_pop),
  (.ifCond .ne 7, 99, 27, 29, 0, 0, [], sg0),
  (.iconst 1, 102, 28, 0, 0, 1, [], sg0),
  (.goto 4, 103, 29, 30, 0, 0, [], sg0),
  (.iconst 0, 106, 30, 0, 0, 0, [], sg0),
  (.invokevirtual 51, 107, 31, 0, 0, 0, [], sgX0_push),
  (.goto 23, 110, 32, 42, 0, 0, [], sg0),
  (.aload_n 0, 113, 33, 0, 0, 0, [], sg0),
  (.invokevirtual 47, 114, 34, 0, 0, 0, [], sgX0_pop),
  (.istore 5, 117, 35, 0, 0, 0, [], sg0),
  (.aload_n 0, 119, 36, 0, 0, 0, [], sg0),
  (.iload_n 1, 120, 37, 0, 0, 0, [], sg0),
  (.aload_n 0, 121, 38, 0, 0, 0, [], sg0),
  (.invokevirtual 47, 122, 39, 0, 0, 0, [], sgX0_pop),
  (.iload 5, 125, 40, 0, 0, 0, [], sg0),
  (.invokestatic 59, 127, 41, 0, 0, 0, [], sgX0_joined),
  (.invokevirtual 51, 130, 42, 0, 0, 0, [], sgX0_push),
  (.return_, 133, 43, 0, 0, 0, [], sg0),
  (.nop, 134, 44, 0, 0, 0, [], sg0)]
set_option maxRecDepth 100000 in
theorem okX0_step : Chk sgX0_step kX0_step := ⟨linBQ (by decide +kernel), And.intro sgVX0_push (And.intro sgSX7_bit (And.intro sgVX0_push (And.intro sgVX0_pop (And.intro sgVX0_push (And.intro sgVX0_pop (And.intro sgVX0_push (And.intro sgVX0_pop (And.intro sgVX0_pop (And.intro sgSX0_joined (And.intro sgVX0_push trivial)))))))))), tb_l2 [(2, 159), (2, 159), (2, 166), (2, 159), (2, 166), (2, 159), (2, 166), (2, 166), (2, 170), (2, 159)] (by decide +kernel) (by decide +kernel), nw_l2 [(2, 163)] (by decide +kernel) (by decide +kernel), by decide +kernel⟩
set_option maxRecDepth 100000 in
def kX0_joined : List Row := [(.iload_n 0, 0, 1, 0, 0, 0, [], sg0),
  (.lookupswitch 107 #[(8, 93), (42, 67), (43, 59), (45, 63), (60, 71), (61, 82)], 1, 2, 36, 0, 0, [28, 10, 2, 6, 14, 21], sg0),
  (.iload_n 1, 60, 3, 0, 0, 0, [], sg0),
  (.iload_n 2, 61, 4, 0, 0, 0, [], sg0),
  (.iadd, 62, 5, 0, 0, 0, [], sg0),
  (.ireturn, 63, 6, 0, 0, 0, [], sg0),
  (.iload_n 1, 64, 7, 0, 0, 0, [], sg0),
  (.iload_n 2, 65, 8, 0, 0, 0, [], sg0),
  (.isub, 66, 9, 0, 0, 0, [], sg0),
  (.ireturn, 67, 10, 0, 0, 0, [], sg0),
  (.iload_n 1, 68, 11, 0, 0, 0, [], sg0),
  (.iload_n 2, 69, 12, 0, 0, 0, [], sg0),
  (.imul, 70, 13, 0, 0, 0, [], sg0),
  (.ireturn, 71, 14, 0, 0, 0, [], sg0),
  (.iload_n 1, 72, 15, 0, 0, 0, [], sg0),
  (.iload_n 2, 73, 16, 0, 0, 0, [], sg0),
  (.if_icmp .ge 7, 74, 17, 19, 0, 0, [], sg0),
  (.iconst 1, 77, 18, 0, 0, 1, [], sg0),
  (.goto 4, 78, 19, 20, 0, 0, [], sg0),
  (.iconst 0, 81, 20, 0, 0, 0, [], sg0),
  (.ireturn, 82, 21, 0, 0, 0, [], sg0),
  (.iload_n 1, 83, 22, 0, 0, 0, [], sg0),
  (.iload_n 2, 84, 23, 0, 0, 0, [], sg0),
  (.if_icmp .ne 7, 85, 24, 26, 0, 0, [], sg0),
  (.iconst 1, 88, 25, 0, 0, 1, [], sg0),
  (.goto 4, 89, 26, 27, 0, 0, [], sg0),
  (.iconst 0, 92, 27, 0, 0, 0, [], sg0),
  (.ireturn, 93, 28, 0, 0, 0, [], sg0),
  (.iload_n 1, 94, 29, 0, 0, 0, [], sg0),
  (.ifCond .eq 11, 95, 30, 34, 0, 0, [], sg0),
  (.iload_n 2, 98, 31, 0, 0, 0, [], sg0),
  (.ifCond .eq 7, 99, 32, 34, 0, 0, [], sg0),
  (.iconst 1, 102, 33, 0, 0, 1, [], sg0),
  (.goto 4, 103, 34, 35, 0, 0, [], sg0),
  (.iconst 0, 106, 35, 0, 0, 0, [], sg0),
  (.ireturn, 107, 36, 0, 0, 0, [], sg0),
  (.iload_n 1, 108, 37, 0, 0, 0, [], sg0),
  (.ifCond .ne 7, 109, 38, 40, 0, 0, [], sg0),
  (.iload_n 2, 112, 39, 0, 0, 0, [], sg0),
  (.ifCond .eq 7, 113, 40, 42, 0, 0, [], sg0),
  (.iconst 1, 116, 41, 0, 0, 1, [], sg0),
  (.goto 4, 117, 42, 43, 0, 0, [], sg0),
  (.iconst 0, 120, 43, 0, 0, 0, [], sg0),
  (.ireturn, 121, 44, 0, 0, 0, [], sg0),
  (.nop, 122, 45, 0, 0, 0, [], sg0)]
set_option maxRecDepth 100000 in
theorem okX0_joined : Chk sgX0_joined kX0_joined := ⟨linBQ (by decide +kernel), trivial, tb_l2 [] (by decide +kernel) (by decide +kernel), nw_l2 [] (by decide +kernel) (by decide +kernel), by decide +kernel⟩
set_option maxRecDepth 100000 in
def kX0_push : List Row := [(.aload_n 0, 0, 1, 0, 0, 0, [], sg0),
  (.getfield 36, 1, 2, 0, 5, 0, [], sg0),
  (.sipush 160, 4, 3, 0, 0, 160, [], sg0),
  (.if_icmp .lt 4, 7, 4, 5, 0, 0, [], sg0),
  (.return_, 10, 5, 0, 0, 0, [], sg0),
  (.aload_n 0, 11, 6, 0, 0, 0, [], sg0),
  (.getfield 21, 12, 7, 0, 3, 0, [], sg0),
  (.aload_n 0, 15, 8, 0, 0, 0, [], sg0),
  (.getfield 36, 16, 9, 0, 5, 0, [], sg0),
  (.iload_n 1, 19, 10, 0, 0, 0, [], sg0),
  (.invokestatic 28, 20, 11, 0, 0, 1, [], sgX7_put),
  (.aload_n 0, 23, 12, 0, 0, 0, [], sg0),
  (.dup, 24, 13, 0, 0, 0, [], sg0),
  (.getfield 36, 25, 14, 0, 5, 0, [], sg0),
  (.iconst 1, 28, 15, 0, 0, 1, [], sg0),
  (.iadd, 29, 16, 0, 0, 0, [], sg0),
  (.putfield 36, 30, 17, 0, 5, 0, [], sg0),
  (.return_, 33, 18, 0, 0, 0, [], sg0),
  (.nop, 34, 19, 0, 0, 0, [], sg0)]
set_option maxRecDepth 100000 in
theorem okX0_push : Chk sgX0_push kX0_push := ⟨linBQ (by decide +kernel), And.intro sgSX7_put trivial, tb_l2 [(1, 65), (1, 63), (1, 65), (1, 65), (1, 65)] (by decide +kernel) (by decide +kernel), nw_l2 [(2, 133)] (by decide +kernel) (by decide +kernel), by decide +kernel⟩
set_option maxRecDepth 100000 in
def kX0_pop : List Row := [(.aload_n 0, 0, 1, 0, 0, 0, [], sg0),
  (.getfield 36, 1, 2, 0, 5, 0, [], sg0),
  (.ifCond .gt 5, 4, 3, 5, 0, 0, [], sg0),
  (.iconst 0, 7, 4, 0, 0, 0, [], sg0),
  (.ireturn, 8, 5, 0, 0, 0, [], sg0),
  (.aload_n 0, 9, 6, 0, 0, 0, [], sg0),
  (.dup, 10, 7, 0, 0, 0, [], sg0),
  (.getfield 36, 11, 8, 0, 5, 0, [], sg0),
  (.iconst 1, 14, 9, 0, 0, 1, [], sg0),
  (.isub, 15, 10, 0, 0, 0, [], sg0),
  (.putfield 36, 16, 11, 0, 5, 0, [], sg0),
  (.aload_n 0, 19, 12, 0, 0, 0, [], sg0),
  (.getfield 21, 20, 13, 0, 3, 0, [], sg0),
  (.aload_n 0, 23, 14, 0, 0, 0, [], sg0),
  (.getfield 36, 24, 15, 0, 5, 0, [], sg0),
  (.invokestatic 39, 27, 16, 0, 0, 1, [], sgX7_at),
  (.ireturn, 30, 17, 0, 0, 0, [], sg0),
  (.nop, 31, 18, 0, 0, 0, [], sg0)]
set_option maxRecDepth 100000 in
theorem okX0_pop : Chk sgX0_pop kX0_pop := ⟨linBQ (by decide +kernel), And.intro sgSX7_at trivial, tb_l2 [(1, 65), (1, 65), (1, 65), (1, 63), (1, 65)] (by decide +kernel) (by decide +kernel), nw_l2 [(2, 154)] (by decide +kernel) (by decide +kernel), by decide +kernel⟩
set_option maxRecDepth 100000 in
def kX1_init : List Row := [(.aload_n 0, 0, 1, 0, 0, 0, [], sg0),
  (.invokespecial 3, 1, 2, 0, 9, 0, [], sg0),
  (.aload_n 0, 4, 3, 0, 0, 0, [], sg0),
  (.aload_n 1, 5, 4, 0, 0, 0, [], sg0),
  (.putfield 9, 6, 5, 1, 0, 0, [], sg0),
  (.aload_n 0, 9, 6, 0, 0, 0, [], sg0),
  (.aload_n 2, 10, 7, 0, 0, 0, [], sg0),
  (.putfield 15, 11, 8, 1, 1, 0, [], sg0),
  (.return_, 14, 9, 0, 0, 0, [], sg0),
  (.nop, 15, 10, 0, 0, 0, [], sg0)]
set_option maxRecDepth 100000 in
theorem okX1_init : Chk sgX1_init kX1_init := ⟨linBQ (by decide +kernel), trivial, tb_l2 [(1, 84), (1, 22), (1, 23), (1, 85), (1, 86)] (by decide +kernel) (by decide +kernel), nw_l2 [] (by decide +kernel) (by decide +kernel), by decide +kernel⟩
set_option maxRecDepth 100000 in
def kX1_readText : List Row := [(.aload_n 0, 0, 1, 0, 0, 0, [], sg0),
  (.getfield 9, 1, 2, 1, 0, 0, [], sg0),
  (.invokevirtual 19, 4, 3, 6, 0, 1, [], sgX6_start),
  (.aload_n 0, 7, 4, 0, 0, 0, [], sg0),
  (.getfield 15, 8, 5, 1, 1, 0, [], sg0),
  (.invokevirtual 24, 11, 6, 0, 0, 1, [], sgX0_clear),
  (.iconst 0, 14, 7, 0, 0, 0, [], sg0),
  (.istore_n 1, 15, 8, 0, 0, 0, [], sg0),
  (.iload_n 1, 16, 9, 0, 0, 0, [], sg0),
  (.iconst 3, 17, 10, 0, 0, 3, [], sg0),
  (.if_icmp .ge 48, 18, 11, 35, 0, 0, [], sg0),
  (.aload_n 0, 21, 12, 0, 0, 0, [], sg0),
  (.iconst 4, 22, 13, 0, 0, 4, [], sg0),
  (.iload_n 1, 23, 14, 0, 0, 0, [], sg0),
  (.iadd, 24, 15, 0, 0, 0, [], sg0),
  (.invokevirtual 29, 25, 16, 1, 0, 0, [], sgX1_readToken),
  (.ifCond .eq 11, 28, 17, 21, 0, 0, [], sg0),
  (.aload_n 0, 31, 18, 0, 0, 0, [], sg0),
  (.iconst 0, 32, 19, 0, 0, 0, [], sg0),
  (.invokevirtual 33, 33, 20, 1, 0, 0, [], sgX1_readOr),
  (.ifCond .ne 5, 36, 21, 23, 0, 0, [], sg0),
  (.iconst 0, 39, 22, 0, 0, 0, [], sg0),
  (.ireturn, 40, 23, 0, 0, 0, [], sg0),
  (.aload_n 0, 41, 24, 0, 0, 0, [], sg0),
  (.getfield 15, 42, 25, 1, 1, 0, [], sg0),
  (.iload_n 1, 45, 26, 0, 0, 0, [], sg0),
  (.invokevirtual 36, 46, 27, 0, 0, 1, [], sgX0_endPart),
  (.aload_n 0, 49, 28, 0, 0, 0, [], sg0),
  (.bipush 59, 50, 29, 0, 0, 59, [], sg0),
  (.invokevirtual 29, 52, 30, 1, 0, 0, [], sgX1_readToken),
  (.ifCond .ne 5, 55, 31, 33, 0, 0, [], sg0),
  (.iconst 0, 58, 32, 0, 0, 0, [], sg0),
  (.ireturn, 59, 33, 0, 0, 0, [], sg0),
  (.iinc 1 1, 60, 34, 0, 0, 1, [], sg0),
  (.goto (-47), 63, 35, 8, 0, 0, [], sg0),
  (.aload_n 0, 66, 36, 0, 0, 0, [], sg0),
  (.getfield 9, 67, 37, 1, 0, 0, [], sg0),
  (.getfield 40, 70, 38, 6, 2, 1, [], sg0),
  (.ifCond .ne 7, 73, 39, 41, 0, 0, [], sg0),
  (.iconst 1, 76, 40, 0, 0, 1, [], sg0),
  (.goto 4, 77, 41, 42, 0, 0, [], sg0),
  (.iconst 0, 80, 42, 0, 0, 0, [], sg0),
  (.ireturn, 81, 43, 0, 0, 0, [], sg0),
  (.nop, 82, 44, 0, 0, 0, [], sg0)]
set_option maxRecDepth 100000 in
theorem okX1_readText : Chk sgX1_readText kX1_readText := ⟨linBQ (by decide +kernel), And.intro sgVX6_start (And.intro sgVX0_clear (And.intro sgVX1_readToken (And.intro sgVX1_readOr (And.intro sgVX0_endPart (And.intro sgVX1_readToken trivial))))), tb_l2 [(1, 85), (1, 86), (2, 96), (2, 101), (1, 86), (2, 96), (1, 85)] (by decide +kernel) (by decide +kernel), nw_l2 [(2, 2), (2, 92), (2, 138), (1, 33)] (by decide +kernel) (by decide +kernel), by decide +kernel⟩
set_option maxRecDepth 100000 in
def kX1_readToken : List Row := [(.aload_n 0, 0, 1, 0, 0, 0, [], sg0),
  (.getfield 9, 1, 2, 1, 0, 0, [], sg0),
  (.getfield 40, 4, 3, 6, 2, 1, [], sg0),
  (.iload_n 1, 7, 4, 0, 0, 0, [], sg0),
  (.if_icmp .eq 5, 8, 5, 7, 0, 0, [], sg0),
  (.iconst 0, 11, 6, 0, 0, 0, [], sg0),
  (.ireturn, 12, 7, 0, 0, 0, [], sg0),
  (.aload_n 0, 13, 8, 0, 0, 0, [], sg0),
  (.getfield 9, 14, 9, 1, 0, 0, [], sg0),
  (.invokevirtual 44, 17, 10, 6, 0, 1, [], sgX6_advance),
  (.iconst 1, 20, 11, 0, 0, 1, [], sg0),
  (.ireturn, 21, 12, 0, 0, 0, [], sg0),
  (.nop, 22, 13, 0, 0, 0, [], sg0)]
set_option maxRecDepth 100000 in
theorem okX1_readToken : Chk sgX1_readToken kX1_readToken := ⟨linBQ (by decide +kernel), And.intro sgVX6_advance trivial, tb_l2 [(1, 85), (1, 85)] (by decide +kernel) (by decide +kernel), nw_l2 [(1, 33), (2, 100)] (by decide +kernel) (by decide +kernel), by decide +kernel⟩
set_option maxRecDepth 100000 in
def kX1_readOr : List Row := [(.aload_n 0, 0, 1, 0, 0, 0, [], sg0),
  (.iload_n 1, 1, 2, 0, 0, 0, [], sg0),
  (.invokevirtual 47, 2, 3, 1, 0, 0, [], sgX1_readAnd),
  (.ifCond .ne 5, 5, 4, 6, 0, 0, [], sg0),
  (.iconst 0, 8, 5, 0, 0, 0, [], sg0),
  (.ireturn, 9, 6, 0, 0, 0, [], sg0),
  (.iconst 0, 10, 7, 0, 0, 0, [], sg0),
  (.istore_n 2, 11, 8, 0, 0, 0, [], sg0),
  (.iload_n 2, 12, 9, 0, 0, 0, [], sg0),
  (.sipush 160, 13, 10, 0, 0, 160, [], sg0),
  (.if_icmp .ge 48, 16, 11, 32, 0, 0, [], sg0),
  (.aload_n 0, 19, 12, 0, 0, 0, [], sg0),
  (.getfield 9, 20, 13, 1, 0, 0, [], sg0),
  (.getfield 40, 23, 14, 6, 2, 1, [], sg0),
  (.bipush 7, 26, 15, 0, 0, 7, [], sg0),
  (.if_icmp .ne 36, 28, 16, 32, 0, 0, [], sg0),
  (.aload_n 0, 31, 17, 0, 0, 0, [], sg0),
  (.getfield 9, 32, 18, 1, 0, 0, [], sg0),
  (.invokevirtual 44, 35, 19, 6, 0, 1, [], sgX6_advance),
  (.aload_n 0, 38, 20, 0, 0, 0, [], sg0),
  (.iload_n 1, 39, 21, 0, 0, 0, [], sg0),
  (.invokevirtual 47, 40, 22, 1, 0, 0, [], sgX1_readAnd),
  (.ifCond .ne 5, 43, 23, 25, 0, 0, [], sg0),
  (.iconst 0, 46, 24, 0, 0, 0, [], sg0),
  (.ireturn, 47, 25, 0, 0, 0, [], sg0),
  (.aload_n 0, 48, 26, 0, 0, 0, [], sg0),
  (.getfield 15, 49, 27, 1, 1, 0, [], sg0),
  (.bipush 7, 52, 28, 0, 0, 7, [], sg0),
  (.iconst 0, 54, 29, 0, 0, 0, [], sg0),
  (.invokevirtual 50, 55, 30, 0, 0, 1, [], sgX0_add),
  (.iinc 2 1, 58, 31, 0, 0, 1, [], sg0),
  (.goto (-49), 61, 32, 8, 0, 0, [], sg0),
  (.iconst 1, 64, 33, 0, 0, 1, [], sg0),
  (.ireturn, 65, 34, 0, 0, 0, [], sg0),
  (.nop, 66, 35, 0, 0, 0, [], sg0)]
set_option maxRecDepth 100000 in
theorem okX1_readOr : Chk sgX1_readOr kX1_readOr := ⟨linBQ (by decide +kernel), And.intro sgVX1_readAnd (And.intro sgVX6_advance (And.intro sgVX1_readAnd (And.intro sgVX0_add trivial))), tb_l2 [(2, 105), (1, 85), (1, 85), (2, 105), (1, 86)] (by decide +kernel) (by decide +kernel), nw_l2 [(1, 33), (2, 100), (2, 129)] (by decide +kernel) (by decide +kernel), by decide +kernel⟩
set_option maxRecDepth 100000 in
def kX1_readAnd : List Row := [(.aload_n 0, 0, 1, 0, 0, 0, [], sg0),
  (.iload_n 1, 1, 2, 0, 0, 0, [], sg0),
  (.invokevirtual 54, 2, 3, 1, 0, 0, [], sgX1_readNot),
  (.ifCond .ne 5, 5, 4, 6, 0, 0, [], sg0),
  (.iconst 0, 8, 5, 0, 0, 0, [], sg0),
  (.ireturn, 9, 6, 0, 0, 0, [], sg0),
  (.iconst 0, 10, 7, 0, 0, 0, [], sg0),
  (.istore_n 2, 11, 8, 0, 0, 0, [], sg0),
  (.iload_n 2, 12, 9, 0, 0, 0, [], sg0),
  (.sipush 160, 13, 10, 0, 0, 160, [], sg0),
  (.if_icmp .ge 48, 16, 11, 32, 0, 0, [], sg0),
  (.aload_n 0, 19, 12, 0, 0, 0, [], sg0),
  (.getfield 9, 20, 13, 1, 0, 0, [], sg0),
  (.getfield 40, 23, 14, 6, 2, 1, [], sg0),
  (.bipush 8, 26, 15, 0, 0, 8, [], sg0),
  (.if_icmp .ne 36, 28, 16, 32, 0, 0, [], sg0),
  (.aload_n 0, 31, 17, 0, 0, 0, [], sg0),
  (.getfield 9, 32, 18, 1, 0, 0, [], sg0),
  (.invokevirtual 44, 35, 19, 6, 0, 1, [], sgX6_advance),
  (.aload_n 0, 38, 20, 0, 0, 0, [], sg0),
  (.iload_n 1, 39, 21, 0, 0, 0, [], sg0),
  (.invokevirtual 54, 40, 22, 1, 0, 0, [], sgX1_readNot),
  (.ifCond .ne 5, 43, 23, 25, 0, 0, [], sg0),
  (.iconst 0, 46, 24, 0, 0, 0, [], sg0),
  (.ireturn, 47, 25, 0, 0, 0, [], sg0),
  (.aload_n 0, 48, 26, 0, 0, 0, [], sg0),
  (.getfield 15, 49, 27, 1, 1, 0, [], sg0),
  (.bipush 8, 52, 28, 0, 0, 8, [], sg0),
  (.iconst 0, 54, 29, 0, 0, 0, [], sg0),
  (.invokevirtual 50, 55, 30, 0, 0, 1, [], sgX0_add),
  (.iinc 2 1, 58, 31, 0, 0, 1, [], sg0),
  (.goto (-49), 61, 32, 8, 0, 0, [], sg0),
  (.iconst 1, 64, 33, 0, 0, 1, [], sg0),
  (.ireturn, 65, 34, 0, 0, 0, [], sg0),
  (.nop, 66, 35, 0, 0, 0, [], sg0)]
set_option maxRecDepth 100000 in
theorem okX1_readAnd : Chk sgX1_readAnd kX1_readAnd := ⟨linBQ (by decide +kernel), And.intro sgVX1_readNot (And.intro sgVX6_advance (And.intro sgVX1_readNot (And.intro sgVX0_add trivial))), tb_l2 [(2, 109), (1, 85), (1, 85), (2, 109), (1, 86)] (by decide +kernel) (by decide +kernel), nw_l2 [(1, 33), (2, 100), (2, 129)] (by decide +kernel) (by decide +kernel), by decide +kernel⟩
set_option maxRecDepth 100000 in
def kX1_readNot : List Row := [(.aload_n 0, 0, 1, 0, 0, 0, [], sg0),
  (.getfield 9, 1, 2, 1, 0, 0, [], sg0),
  (.getfield 40, 4, 3, 6, 2, 1, [], sg0),
  (.bipush 9, 7, 4, 0, 0, 9, [], sg0),
  (.if_icmp .eq 9, 9, 5, 9, 0, 0, [], sg0),
  (.aload_n 0, 12, 6, 0, 0, 0, [], sg0),
  (.iload_n 1, 13, 7, 0, 0, 0, [], sg0),
  (.invokevirtual 57, 14, 8, 1, 0, 0, [], sgX1_readCompared),
  (.ireturn, 17, 9, 0, 0, 0, [], sg0),
  (.iload_n 1, 18, 10, 0, 0, 0, [], sg0),
  (.iconst 5, 19, 11, 0, 0, 5, [], sg0),
  (.if_icmp .lt 5, 20, 12, 14, 0, 0, [], sg0),
  (.iconst 0, 23, 13, 0, 0, 0, [], sg0),
  (.ireturn, 24, 14, 0, 0, 0, [], sg0),
  (.aload_n 0, 25, 15, 0, 0, 0, [], sg0),
  (.getfield 9, 26, 16, 1, 0, 0, [], sg0),
  (.invokevirtual 44, 29, 17, 6, 0, 1, [], sgX6_advance),
  (.aload_n 0, 32, 18, 0, 0, 0, [], sg0),
  (.iload_n 1, 33, 19, 0, 0, 0, [], sg0),
  (.iconst 1, 34, 20, 0, 0, 1, [], sg0),
  (.iadd, 35, 21, 0, 0, 0, [], sg0),
  (.invokevirtual 54, 36, 22, 1, 0, 0, [], sgX1_readNot),
  (.ifCond .ne 5, 39, 23, 25, 0, 0, [], sg0),
  (.iconst 0, 42, 24, 0, 0, 0, [], sg0),
  (.ireturn, 43, 25, 0, 0, 0, [], sg0),
  (.aload_n 0, 44, 26, 0, 0, 0, [], sg0),
  (.getfield 15, 45, 27, 1, 1, 0, [], sg0),
  (.bipush 9, 48, 28, 0, 0, 9, [], sg0),
  (.iconst 0, 50, 29, 0, 0, 0, [], sg0),
  (.invokevirtual 50, 51, 30, 0, 0, 1, [], sgX0_add),
  (.iconst 1, 54, 31, 0, 0, 1, [], sg0),
  (.ireturn, 55, 32, 0, 0, 0, [], sg0),
  (.nop, 56, 33, 0, 0, 0, [], sg0)]
set_option maxRecDepth 100000 in
theorem okX1_readNot : Chk sgX1_readNot kX1_readNot := ⟨linBQ (by decide +kernel), And.intro sgVX1_readCompared (And.intro sgVX6_advance (And.intro sgVX1_readNot (And.intro sgVX0_add trivial))), tb_l2 [(1, 85), (2, 113), (1, 85), (2, 109), (1, 86)] (by decide +kernel) (by decide +kernel), nw_l2 [(1, 33), (2, 100), (2, 129)] (by decide +kernel) (by decide +kernel), by decide +kernel⟩
set_option maxRecDepth 100000 in
def kX1_readCompared : List Row := [(.aload_n 0, 0, 1, 0, 0, 0, [], sg0),
  (.iload_n 1, 1, 2, 0, 0, 0, [], sg0),
  (.invokevirtual 60, 2, 3, 1, 0, 0, [], sgX1_readSum),
  (.ifCond .ne 5, 5, 4, 6, 0, 0, [], sg0),
  (.iconst 0, 8, 5, 0, 0, 0, [], sg0),
  (.ireturn, 9, 6, 0, 0, 0, [], sg0),
  (.aload_n 0, 10, 7, 0, 0, 0, [], sg0),
  (.getfield 9, 11, 8, 1, 0, 0, [], sg0),
  (.getfield 40, 14, 9, 6, 2, 1, [], sg0),
  (.istore_n 2, 17, 10, 0, 0, 0, [], sg0),
  (.iload_n 2, 18, 11, 0, 0, 0, [], sg0),
  (.bipush 60, 19, 12, 0, 0, 60, [], sg0),
  (.if_icmp .eq 11, 21, 13, 18, 0, 0, [], sg0),
  (.iload_n 2, 24, 14, 0, 0, 0, [], sg0),
  (.bipush 61, 25, 15, 0, 0, 61, [], sg0),
  (.if_icmp .eq 5, 27, 16, 18, 0, 0, [], sg0),
  (.iconst 1, 30, 17, 0, 0, 1, [], sg0),
  (.ireturn, 31, 18, 0, 0, 0, [], sg0),
  (.aload_n 0, 32, 19, 0, 0, 0, [], sg0),
  (.getfield 9, 33, 20, 1, 0, 0, [], sg0),
  (.invokevirtual 44, 36, 21, 6, 0, 1, [], sgX6_advance),
  (.aload_n 0, 39, 22, 0, 0, 0, [], sg0),
  (.iload_n 1, 40, 23, 0, 0, 0, [], sg0),
  (.invokevirtual 60, 41, 24, 1, 0, 0, [], sgX1_readSum),
  (.ifCond .ne 5, 44, 25, 27, 0, 0, [], sg0),
  (.iconst 0, 47, 26, 0, 0, 0, [], sg0),
  (.ireturn, 48, 27, 0, 0, 0, [], sg0),
  (.aload_n 0, 49, 28, 0, 0, 0, [], sg0),
  (.getfield 15, 50, 29, 1, 1, 0, [], sg0),
  (.iload_n 2, 53, 30, 0, 0, 0, [], sg0),
  (.iconst 0, 54, 31, 0, 0, 0, [], sg0),
  (.invokevirtual 50, 55, 32, 0, 0, 1, [], sgX0_add),
  (.iconst 1, 58, 33, 0, 0, 1, [], sg0),
  (.ireturn, 59, 34, 0, 0, 0, [], sg0),
  (.nop, 60, 35, 0, 0, 0, [], sg0)]
set_option maxRecDepth 100000 in
theorem okX1_readCompared : Chk sgX1_readCompared kX1_readCompared := ⟨linBQ (by decide +kernel), And.intro sgVX1_readSum (And.intro sgVX6_advance (And.intro sgVX1_readSum (And.intro sgVX0_add trivial))), tb_l2 [(2, 117), (1, 85), (1, 85), (2, 117), (1, 86)] (by decide +kernel) (by decide +kernel), nw_l2 [(1, 33), (2, 100), (2, 129)] (by decide +kernel) (by decide +kernel), by decide +kernel⟩
set_option maxRecDepth 100000 in
def kX1_readSum : List Row := [(.aload_n 0, 0, 1, 0, 0, 0, [], sg0),
  (.iload_n 1, 1, 2, 0, 0, 0, [], sg0),
  (.invokevirtual 63, 2, 3, 1, 0, 0, [], sgX1_readTerm),
  (.ifCond .ne 5, 5, 4, 6, 0, 0, [], sg0),
  (.iconst 0, 8, 5, 0, 0, 0, [], sg0),
  (.ireturn, 9, 6, 0, 0, 0, [], sg0),
  (.iconst 0, 10, 7, 0, 0, 0, [], sg0),
  (.istore_n 2, 11, 8, 0, 0, 0, [], sg0),
  (.iload_n 2, 12, 9, 0, 0, 0, [], sg0),
  (.sipush 160, 13, 10, 0, 0, 160, [], sg0),
  (.if_icmp .ge 67, 16, 11, 41, 0, 0, [], sg0),
  (.aload_n 0, 19, 12, 0, 0, 0, [], sg0),
  (.getfield 9, 20, 13, 1, 0, 0, [], sg0),
  (.getfield 40, 23, 14, 6, 2, 1, [], sg0),
  (.bipush 43, 26, 15, 0, 0, 43, [], sg0),
  (.if_icmp .eq 15, 28, 16, 21, 0, 0, [], sg0),
  (.aload_n 0, 31, 17, 0, 0, 0, [], sg0),
  (.getfield 9, 32, 18, 1, 0, 0, [], sg0),
  (.getfield 40, 35, 19, 6, 2, 1, [], sg0),
  (.bipush 45, 38, 20, 0, 0, 45, [], sg0),
  (.if_icmp .ne 43, 40, 21, 41, 0, 0, [], sg0),
  (.aload_n 0, 43, 22, 0, 0, 0, [], sg0),
  (.getfield 9, 44, 23, 1, 0, 0, [], sg0),
  (.getfield 40, 47, 24, 6, 2, 1, [], sg0),
  (.istore_n 3, 50, 25, 0, 0, 0, [], sg0),
  (.aload_n 0, 51, 26, 0, 0, 0, [], sg0),
  (.getfield 9, 52, 27, 1, 0, 0, [], sg0),
  (.invokevirtual 44, 55, 28, 6, 0, 1, [], sgX6_advance),
  (.aload_n 0, 58, 29, 0, 0, 0, [], sg0),
  (.iload_n 1, 59, 30, 0, 0, 0, [], sg0),
  (.invokevirtual 63, 60, 31, 1, 0, 0, [], sgX1_readTerm),
  (.ifCond .ne 5, 63, 32, 34, 0, 0, [], sg0),
  (.iconst 0, 66, 33, 0, 0, 0, [], sg0),
  (.ireturn, 67, 34, 0, 0, 0, [], sg0),
  (.aload_n 0, 68, 35, 0, 0, 0, [], sg0),
  (.getfield 15, 69, 36, 1, 1, 0, [], sg0),
  (.iload_n 3, 72, 37, 0, 0, 0, [], sg0),
  (.iconst 0, 73, 38, 0, 0, 0, [], sg0),
  (.invokevirtual 50, 74, 39, 0, 0, 1, [], sgX0_add),
  (.iinc 2 1, 77, 40, 0, 0, 1, [], sg0),
  (.goto (-68), 80, 41, 8, 0, 0, [], sg0),
  (.iconst 1, 83, 42, 0, 0, 1, [], sg0),
  (.ireturn, 84, 43, 0, 0, 0, [], sg0),
  (.nop, 85, 44, 0, 0, 0, [], sg0)]
set_option maxRecDepth 100000 in
theorem okX1_readSum : Chk sgX1_readSum kX1_readSum := ⟨linBQ (by decide +kernel), And.intro sgVX1_readTerm (And.intro sgVX6_advance (And.intro sgVX1_readTerm (And.intro sgVX0_add trivial))), tb_l2 [(2, 121), (1, 85), (1, 85), (1, 85), (1, 85), (2, 121), (1, 86)] (by decide +kernel) (by decide +kernel), nw_l2 [(1, 33), (1, 33), (1, 33), (2, 100), (2, 129)] (by decide +kernel) (by decide +kernel), by decide +kernel⟩
set_option maxRecDepth 100000 in
def kX1_readTerm : List Row := [(.aload_n 0, 0, 1, 0, 0, 0, [], sg0),
  (.iload_n 1, 1, 2, 0, 0, 0, [], sg0),
  (.invokevirtual 66, 2, 3, 1, 0, 0, [], sgX1_readOne),
  (.ifCond .ne 5, 5, 4, 6, 0, 0, [], sg0),
  (.iconst 0, 8, 5, 0, 0, 0, [], sg0),
  (.ireturn, 9, 6, 0, 0, 0, [], sg0),
  (.iconst 0, 10, 7, 0, 0, 0, [], sg0),
  (.istore_n 2, 11, 8, 0, 0, 0, [], sg0),
  (.iload_n 2, 12, 9, 0, 0, 0, [], sg0),
  (.sipush 160, 13, 10, 0, 0, 160, [], sg0),
  (.if_icmp .ge 48, 16, 11, 32, 0, 0, [], sg0),
  (.aload_n 0, 19, 12, 0, 0, 0, [], sg0),
  (.getfield 9, 20, 13, 1, 0, 0, [], sg0),
  (.getfield 40, 23, 14, 6, 2, 1, [], sg0),
  (.bipush 42, 26, 15, 0, 0, 42, [], sg0),
  (.if_icmp .ne 36, 28, 16, 32, 0, 0, [], sg0),
  (.aload_n 0, 31, 17, 0, 0, 0, [], sg0),
  (.getfield 9, 32, 18, 1, 0, 0, [], sg0),
  (.invokevirtual 44, 35, 19, 6, 0, 1, [], sgX6_advance),
  (.aload_n 0, 38, 20, 0, 0, 0, [], sg0),
  (.iload_n 1, 39, 21, 0, 0, 0, [], sg0),
  (.invokevirtual 66, 40, 22, 1, 0, 0, [], sgX1_readOne),
  (.ifCond .ne 5, 43, 23, 25, 0, 0, [], sg0),
  (.iconst 0, 46, 24, 0, 0, 0, [], sg0),
  (.ireturn, 47, 25, 0, 0, 0, [], sg0),
  (.aload_n 0, 48, 26, 0, 0, 0, [], sg0),
  (.getfield 15, 49, 27, 1, 1, 0, [], sg0),
  (.bipush 42, 52, 28, 0, 0, 42, [], sg0),
  (.iconst 0, 54, 29, 0, 0, 0, [], sg0),
  (.invokevirtual 50, 55, 30, 0, 0, 1, [], sgX0_add),
  (.iinc 2 1, 58, 31, 0, 0, 1, [], sg0),
  (.goto (-49), 61, 32, 8, 0, 0, [], sg0),
  (.iconst 1, 64, 33, 0, 0, 1, [], sg0),
  (.ireturn, 65, 34, 0, 0, 0, [], sg0),
  (.nop, 66, 35, 0, 0, 0, [], sg0)]
set_option maxRecDepth 100000 in
theorem okX1_readTerm : Chk sgX1_readTerm kX1_readTerm := ⟨linBQ (by decide +kernel), And.intro sgVX1_readOne (And.intro sgVX6_advance (And.intro sgVX1_readOne (And.intro sgVX0_add trivial))), tb_l2 [(2, 125), (1, 85), (1, 85), (2, 125), (1, 86)] (by decide +kernel) (by decide +kernel), nw_l2 [(1, 33), (2, 100), (2, 129)] (by decide +kernel) (by decide +kernel), by decide +kernel⟩
set_option maxRecDepth 100000 in
def kX1_readOne : List Row := [(.aload_n 0, 0, 1, 0, 0, 0, [], sg0),
  (.getfield 9, 1, 2, 1, 0, 0, [], sg0),
  (.getfield 40, 4, 3, 6, 2, 1, [], sg0),
  (.iconst 2, 7, 4, 0, 0, 2, [], sg0),
  (.if_icmp .eq 14, 8, 5, 10, 0, 0, [], sg0),
  (.aload_n 0, 11, 6, 0, 0, 0, [], sg0),
  (.getfield 9, 12, 7, 1, 0, 0, [], sg0),
  (.getfield 40, 15, 8, 6, 2, 1, [], sg0),
  (.iconst 3, 18, 9, 0, 0, 3, [], sg0),
  (.if_icmp .ne 33, 19, 10, 24, 0, 0, [], sg0),
  (.aload_n 0, 22, 11, 0, 0, 0, [], sg0),
  (.getfield 15, 23, 12, 1, 1, 0, [], sg0),
  (.aload_n 0, 26, 13, 0, 0, 0, [], sg0),
  (.getfield 9, 27, 14, 1, 0, 0, [], sg0),
  (.getfield 40, 30, 15, 6, 2, 1, [], sg0),
  (.aload_n 0, 33, 16, 0, 0, 0, [], sg0),
  (.getfield 9, 34, 17, 1, 0, 0, [], sg0),
  (.getfield 69, 37, 18, 6, 3, 1, [], sg0),
  (.invokevirtual 50, 40, 19, 0, 0, 1, [], sgX0_add),
  (.aload_n 0, 43, 20, 0, 0, 0, [], sg0),
  (.getfield 9, 44, 21, 1, 0, 0, [], sg0),
  (.invokevirtual 44, 47, 22, 6, 0, 1, [], sgX6_advance),
  (.iconst 1, 50, 23, 0, 0, 1, [], sg0),
  (.ireturn, 51, 24, 0, 0, 0, [], sg0),
  (.aload_n 0, 52, 25, 0, 0, 0, [], sg0),
  (.getfield 9, 53, 26, 1, 0, 0, [], sg0),
  (.getfield 40, 56, 27, 6, 2, 1, [], sg0),
  (.bipush 45, 59, 28, 0, 0, 45, [], sg0),
  (.if_icmp .eq 17, 61, 29, 36, 0, 0, [], sg0),
  (.aload_n 0, 64, 30, 0, 0, 0, [], sg0),
  (.getfield 9, 65, 31, 1, 0, 0, [], sg0),
  (.getfield 40, 68, 32, 6, 2, 1, [], sg0),
  (.bipush 40, 71, 33, 0, 0, 40, [], sg0),
  (.if_icmp .eq 5, 73, 34, 36, 0, 0, [], sg0),
  (.iconst 0, 76, 35, 0, 0, 0, [], sg0),
  (.ireturn, 77, 36, 0, 0, 0, [], sg0),
  (.iload_n 1, 78, 37, 0, 0, 0, [], sg0),
  (.iconst 5, 79, 38, 0, 0, 5, [], sg0),
  (.if_icmp .lt 5, 80, 39, 41, 0, 0, [], sg0),
  (.iconst 0, 83, 40, 0, 0, 0, [], sg0),
  (.ireturn, 84, 41, 0, 0, 0, [], sg0),
  (.aload_n 0, 85, 42, 0, 0, 0, [], sg0),
  (.getfield 9, 86, 43, 1, 0, 0, [], sg0),
  (.getfield 40, 89, 44, 6, 2, 1, [], sg0),
  (.bipush 40, 92, 45, 0, 0, 40, [], sg0),
  (.if_icmp .ne 7, 94, 46, 48, 0, 0, [], sg0),
  (.iconst 1, 97, 47, 0, 0, 1, [], sg0),
  (.goto 4, 98, 48, 49, 0, 0, [], sg0),
  (.iconst 0, 101, 49, 0, 0, 0, [], sg0),
  (.istore_n 2, 102, 50, 0, 0, 0, [], sg0),
  (.aload_n 0, 103, 51, 0, 0, 0, [], sg0),
  (.getfield 9, 104, 52, 1, 0, 0, [], sg0),
  (.invokevirtual 44, 107, 53, 6, 0, 1, [], sgX6_advance),
  (.iload_n 2, 110, 54, 0, 0, 0, [], sg0),
  (.ifCond .eq 11, 111, 55, 61, 0, 0, [], sg0),
  (.aload_n 0, 114, 56, 0, 0, 0, [], sg0),
  (.iload_n 1, 115, 57, 0, 0, 0, [], sg0),
  (.iconst 1, 116, 58, 0, 0, 1, [], sg0),
  (.iadd, 117, 59, 0, 0, 0, [], sg0),
  (.invokevirtual 72, 118, 60, 1, 0, 0, [], sgX1_readBracket),
  (.ireturn, 121, 61, 0, 0, 0, [], sg0),
  (.aload_n 0, 122, 62, 0, 0, 0, [], sg0),
  (.iload_n 1, 123, 63, 0, 0, 0, [], sg0),
  (.iconst 1, 124, 64, 0, 0, 1, [], sg0),
  (.iadd, 125, 65, 0, 0, 0, [], sg0),
  (.invokevirtual 66, 126, 66, 1, 0, 0, [], sgX1_readOne),
  (.ifCond .ne 5, 129, 67, 69, 0, 0, [], sg0),
  (.iconst 0, 132, 68, 0, 0, 0, [], sg0),
  (.ireturn, 133, 69, 0, 0, 0, [], sg0),
  (.aload_n 0, 134, 70, 0, 0, 0, [], sg0),
  (.getfield 15, 135, 71, 1, 1, 0, [], sg0),
  (.bipush 10, 138, 72, 0, 0, 10, [], sg0),
  (.iconst 0, 140, 73, 0, 0, 0, [], sg0),
  (.invokevirtual 50, 141, 74, 0, 0, 1, [], sgX0_add),
  (.iconst 1, 144, 75, 0, 0, 1, [], sg0),
  (.ireturn, 145, 76, 0, 0, 0, [], sg0),
  (.nop, 146, 77, 0, 0, 0, [], sg0)]
set_option maxRecDepth 100000 in
theorem okX1_readOne : Chk sgX1_readOne kX1_readOne := ⟨linBQ (by decide +kernel), And.intro sgVX0_add (And.intro sgVX6_advance (And.intro sgVX6_advance (And.intro sgVX1_readBracket (And.intro sgVX1_readOne (And.intro sgVX0_add trivial))))), tb_l2 [(1, 85), (1, 85), (1, 86), (1, 85), (1, 85), (1, 85), (1, 85), (1, 85), (1, 85), (1, 85), (2, 134), (2, 125), (1, 86)] (by decide +kernel) (by decide +kernel), nw_l2 [(1, 33), (1, 33), (1, 33), (1, 36), (2, 129), (2, 100), (1, 33), (1, 33), (1, 33), (2, 100), (2, 129)] (by decide +kernel) (by decide +kernel), by decide +kernel⟩
set_option maxRecDepth 100000 in
def kX1_readBracket : List Row := [(.aload_n 0, 0, 1, 0, 0, 0, [], sg0),
  (.iload_n 1, 1, 2, 0, 0, 0, [], sg0),
  (.invokevirtual 33, 2, 3, 1, 0, 0, [], sgX1_readOr),
  (.ifCond .eq 15, 5, 4, 9, 0, 0, [], sg0),
  (.aload_n 0, 8, 5, 0, 0, 0, [], sg0),
  (.getfield 9, 9, 6, 1, 0, 0, [], sg0),
  (.getfield 40, 12, 7, 6, 2, 1, [], sg0),
  (.bipush 41, 15, 8, 0, 0, 41, [], sg0),
  (.if_icmp .eq 5, 17, 9, 11, 0, 0, [], sg0),
  (.iconst 0, 20, 10, 0, 0, 0, [], sg0),
  (.ireturn, 21, 11, 0, 0, 0, [], sg0),
  (.aload_n 0, 22, 12, 0, 0, 0, [], sg0),
  (.getfield 9, 23, 13, 1, 0, 0, [], sg0),
  (.invokevirtual 44, 26, 14, 6, 0, 1, [], sgX6_advance),
  (.iconst 1, 29, 15, 0, 0, 1, [], sg0),
  (.ireturn, 30, 16, 0, 0, 0, [], sg0),
  (.nop, 31, 17, 0, 0, 0, [], sg0)]
set_option maxRecDepth 100000 in
theorem okX1_readBracket : Chk sgX1_readBracket kX1_readBracket := ⟨linBQ (by decide +kernel), And.intro sgVX1_readOr (And.intro sgVX6_advance trivial), tb_l2 [(2, 101), (1, 85), (1, 85)] (by decide +kernel) (by decide +kernel), nw_l2 [(1, 33), (2, 100)] (by decide +kernel) (by decide +kernel), by decide +kernel⟩
set_option maxRecDepth 100000 in
def kX2_init : List Row := [(.aload_n 0, 0, 1, 0, 0, 0, [], sg0),
  (.invokespecial 1, 1, 2, 0, 9, 0, [], sg0),
  (.return_, 4, 3, 0, 0, 0, [], sg0),
  (.nop, 5, 4, 0, 0, 0, [], sg0)]
set_option maxRecDepth 100000 in
theorem okX2_init : Chk sgX2_init kX2_init := ⟨linBQ (by decide +kernel), trivial, tb_l2 [(1, 172), (1, 22), (1, 23)] (by decide +kernel) (by decide +kernel), nw_l2 [] (by decide +kernel) (by decide +kernel), by decide +kernel⟩
set_option maxRecDepth 100000 in
def kX2_consider : List Row := [(.iload_n 3, 0, 1, 0, 0, 0, [], sg0),
  (.aload_n 0, 1, 2, 0, 0, 0, [], sg0),
  (.getfield 7, 2, 3, 2, 2, 0, [], sg0),
  (.if_icmp .lt 20, 5, 4, 12, 0, 0, [], sg0),
  (.iload_n 3, 8, 5, 0, 0, 0, [], sg0),
  (.aload_n 0, 9, 6, 0, 0, 0, [], sg0),
  (.getfield 7, 10, 7, 2, 2, 0, [], sg0),
  (.if_icmp .ne 16, 13, 8, 14, 0, 0, [], sg0),
  (.iload 4, 16, 9, 0, 0, 0, [], sg0),
  (.aload_n 0, 18, 10, 0, 0, 0, [], sg0),
  (.getfield 13, 19, 11, 2, 3, 0, [], sg0),
  (.if_icmp .ge 7, 22, 12, 14, 0, 0, [], sg0),
  (.iconst 1, 25, 13, 0, 0, 1, [], sg0),
  (.goto 4, 26, 14, 15, 0, 0, [], sg0),
  (.iconst 0, 29, 15, 0, 0, 0, [], sg0),
  (.istore 5, 30, 16, 0, 0, 0, [], sg0),
  (.iload 5, 32, 17, 0, 0, 0, [], sg0),
  (.ifCond .ne 4, 34, 18, 19, 0, 0, [], sg0),
  (.return_, 37, 19, 0, 0, 0, [], sg0),
  (.aload_n 0, 38, 20, 0, 0, 0, [], sg0),
  (.iload_n 1, 39, 21, 0, 0, 0, [], sg0),
  (.putfield 16, 40, 22, 2, 0, 0, [], sg0),
  (.aload_n 0, 43, 23, 0, 0, 0, [], sg0),
  (.iload_n 2, 44, 24, 0, 0, 0, [], sg0),
  (.putfield 19, 45, 25, 2, 1, 0, [], sg0),
  (.aload_n 0, 48, 26, 0, 0, 0, [], sg0),
  (.iload_n 3, 49, 27, 0, 0, 0, [], sg0),
  (.putfield 7, 50, 28, 2, 2, 0, [], sg0),
  (.aload_n 0, 53, 29, 0, 0, 0, [], sg0),
  (.iload 4, 54, 30, 0, 0, 0, [], sg0),
  (.putfield 13, 56, 31, 2, 3, 0, [], sg0),
  (.return_, 59, 32, 0, 0, 0, [], sg0),
  (.nop, 60, 33, 0, 0, 0, [], sg0)]
set_option maxRecDepth 100000 in
theorem okX2_consider : Chk sgX2_consider kX2_consider := ⟨linBQ (by decide +kernel), trivial, tb_l2 [(1, 177), (1, 177), (1, 179), (1, 173), (1, 175), (1, 177), (1, 179)] (by decide +kernel) (by decide +kernel), nw_l2 [] (by decide +kernel) (by decide +kernel), by decide +kernel⟩
set_option maxRecDepth 100000 in
def kX3_init : List Row := [(.aload_n 0, 0, 1, 0, 0, 0, [], sg0),
  (.invokespecial 3, 1, 2, 0, 9, 0, [], sg0),
  (.aload_n 0, 4, 3, 0, 0, 0, [], sg0),
  (.iconst 4, 5, 4, 0, 0, 4, [], sg0),
  (.newarray .int, 6, 5, 0, 0, 0, [], sg0),
  (.putfield 9, 8, 6, 3, 0, 0, [], sg0),
  (.aload_n 0, 11, 7, 0, 0, 0, [], sg0),
  (.iconst 4, 12, 8, 0, 0, 4, [], sg0),
  (.newarray .int, 13, 9, 0, 0, 0, [], sg0),
  (.putfield 15, 15, 10, 3, 1, 0, [], sg0),
  (.aload_n 0, 18, 11, 0, 0, 0, [], sg0),
  (.sipush 160, 19, 12, 0, 0, 160, [], sg0),
  (.newarray .int, 22, 13, 0, 0, 0, [], sg0),
  (.putfield 18, 24, 14, 3, 2, 0, [], sg0),
  (.aload_n 0, 27, 15, 0, 0, 0, [], sg0),
  (.bipush 40, 28, 16, 0, 0, 40, [], sg0),
  (.newarray .int, 30, 17, 0, 0, 0, [], sg0),
  (.putfield 21, 32, 18, 3, 3, 0, [], sg0),
  (.iconst 0, 35, 19, 0, 0, 0, [], sg0),
  (.istore_n 1, 36, 20, 0, 0, 0, [], sg0),
  (.iload_n 1, 37, 21, 0, 0, 0, [], sg0),
  (.iconst 4, 38, 22, 0, 0, 4, [], sg0),
  (.if_icmp .ge 18, 39, 23, 30, 0, 0, [], sg0),
  (.aload_n 0, 42, 24, 0, 0, 0, [], sg0),
  (.getfield 9, 43, 25, 3, 0, 0, [], sg0),
  (.iload_n 1, 46, 26, 0, 0, 0, [], sg0),
  (.iconst (-1), 47, 27, 0, 0, (-1), [], sg0),
  (.invokestatic 24, 48, 28, 0, 0, 1, [], sgX7_put),
  (.iinc 1 1, 51, 29, 0, 0, 1, [], sg0),
  (.goto (-17), 54, 30, 20, 0, 0, [], sg0),
  (.return_, 57, 31, 0, 0, 0, [], sg0),
  (.nop, 58, 32, 0, 0, 0, [], sg0)]
set_option maxRecDepth 100000 in
theorem okX3_init : Chk sgX3_init kX3_init := ⟨linBQ (by decide +kernel), And.intro sgSX7_put trivial, tb_l2 [(1, 150), (1, 22), (1, 23), (1, 53), (1, 152), (1, 53), (1, 154), (1, 53), (1, 156), (1, 53), (1, 157), (1, 152)] (by decide +kernel) (by decide +kernel), nw_l2 [(1, 151)] (by decide +kernel) (by decide +kernel), by decide +kernel⟩
set_option maxRecDepth 100000 in
def kX3_isMissing : List Row := [(.aload_n 0, 0, 1, 0, 0, 0, [], sg0),
  (.getfield 9, 1, 2, 3, 0, 0, [], sg0),
  (.iload_n 1, 4, 3, 0, 0, 0, [], sg0),
  (.invokestatic 28, 5, 4, 0, 0, 1, [], sgX7_at),
  (.iconst (-1), 8, 5, 0, 0, (-1), [], sg0),
  (.if_icmp .ne 7, 9, 6, 8, 0, 0, [], sg0),
  (.iconst 1, 12, 7, 0, 0, 1, [], sg0),
  (.goto 4, 13, 8, 9, 0, 0, [], sg0),
  (.iconst 0, 16, 9, 0, 0, 0, [], sg0),
  (.ireturn, 17, 10, 0, 0, 0, [], sg0),
  (.nop, 18, 11, 0, 0, 0, [], sg0)]
set_option maxRecDepth 100000 in
theorem okX3_isMissing : Chk sgX3_isMissing kX3_isMissing := ⟨linBQ (by decide +kernel), And.intro sgSX7_at trivial, tb_l2 [(1, 152)] (by decide +kernel) (by decide +kernel), nw_l2 [(3, 217)] (by decide +kernel) (by decide +kernel), by decide +kernel⟩
set_option maxRecDepth 100000 in
def kX3_make : List Row := [(.aload_n 0, 0, 1, 0, 0, 0, [], sg0),
  (.getfield 9, 1, 2, 3, 0, 0, [], sg0),
  (.iload_n 1, 4, 3, 0, 0, 0, [], sg0),
  (.iload_n 2, 5, 4, 0, 0, 0, [], sg0),
  (.invokestatic 24, 6, 5, 0, 0, 1, [], sgX7_put),
  (.aload_n 0, 9, 6, 0, 0, 0, [], sg0),
  (.getfield 15, 10, 7, 3, 1, 0, [], sg0),
  (.iload_n 1, 13, 8, 0, 0, 0, [], sg0),
  (.iload_n 3, 14, 9, 0, 0, 0, [], sg0),
  (.invokestatic 24, 15, 10, 0, 0, 1, [], sgX7_put),
  (.iconst 0, 18, 11, 0, 0, 0, [], sg0),
  (.istore 4, 19, 12, 0, 0, 0, [], sg0),
  (.iload 4, 21, 13, 0, 0, 0, [], sg0),
  (.bipush 40, 23, 14, 0, 0, 40, [], sg0),
  (.if_icmp .ge 24, 25, 15, 26, 0, 0, [], sg0),
  (.aload_n 0, 28, 16, 0, 0, 0, [], sg0),
  (.getfield 18, 29, 17, 3, 2, 0, [], sg0),
  (.iload_n 1, 32, 18, 0, 0, 0, [], sg0),
  (.bipush 40, 33, 19, 0, 0, 40, [], sg0),
  (.imul, 35, 20, 0, 0, 0, [], sg0),
  (.iload 4, 36, 21, 0, 0, 0, [], sg0),
  (.iadd, 38, 22, 0, 0, 0, [], sg0),
  (.iconst 0, 39, 23, 0, 0, 0, [], sg0),
  (.invokestatic 24, 40, 24, 0, 0, 1, [], sgX7_put),
  (.iinc 4 1, 43, 25, 0, 0, 1, [], sg0),
  (.goto (-25), 46, 26, 12, 0, 0, [], sg0),
  (.return_, 49, 27, 0, 0, 0, [], sg0),
  (.nop, 50, 28, 0, 0, 0, [], sg0)]
set_option maxRecDepth 100000 in
theorem okX3_make : Chk sgX3_make kX3_make := ⟨linBQ (by decide +kernel), And.intro sgSX7_put (And.intro sgSX7_put (And.intro sgSX7_put trivial)), tb_l2 [(1, 152), (1, 154), (1, 156)] (by decide +kernel) (by decide +kernel), nw_l2 [(1, 151), (1, 151), (1, 151)] (by decide +kernel) (by decide +kernel), by decide +kernel⟩
set_option maxRecDepth 100000 in
def kX3_holds : List Row := [(.iload_n 2, 0, 1, 0, 0, 0, [], sg0),
  (.aload_n 0, 1, 2, 0, 0, 0, [], sg0),
  (.getfield 15, 2, 3, 3, 1, 0, [], sg0),
  (.iload_n 1, 5, 4, 0, 0, 0, [], sg0),
  (.invokestatic 28, 6, 5, 0, 0, 1, [], sgX7_at),
  (.invokestatic 32, 9, 6, 0, 0, 1, [], sgX7_isBelow),
  (.ireturn, 12, 7, 0, 0, 0, [], sg0),
  (.nop, 13, 8, 0, 0, 0, [], sg0)]
set_option maxRecDepth 100000 in
theorem okX3_holds : Chk sgX3_holds kX3_holds := ⟨linBQ (by decide +kernel), And.intro sgSX7_at (And.intro sgSX7_isBelow trivial), tb_l2 [(1, 154)] (by decide +kernel) (by decide +kernel), nw_l2 [(3, 217), (4, 46)] (by decide +kernel) (by decide +kernel), by decide +kernel⟩
set_option maxRecDepth 100000 in
def kX3_holdsRun : List Row := [(.iload_n 3, 0, 1, 0, 0, 0, [], sg0),
  (.ifCond .lt 37, 1, 2, 20, 0, 0, [], sg0),
  (.iload_n 2, 4, 3, 0, 0, 0, [], sg0),
  (.ifCond .lt 33, 5, 4, 20, 0, 0, [], sg0),
  (.iload_n 3, 8, 5, 0, 0, 0, [], sg0),
  (.aload_n 0, 9, 6, 0, 0, 0, [], sg0),
  (.getfield 15, 10, 7, 3, 1, 0, [], sg0),
  (.iload_n 1, 13, 8, 0, 0, 0, [], sg0),
  (.invokestatic 28, 14, 9, 0, 0, 1, [], sgX7_at),
  (.if_icmp .gt 21, 17, 10, 20, 0, 0, [], sg0),
  (.iload_n 2, 20, 11, 0, 0, 0, [], sg0),
  (.aload_n 0, 21, 12, 0, 0, 0, [], sg0),
  (.getfield 15, 22, 13, 3, 1, 0, [], sg0),
  (.iload_n 1, 25, 14, 0, 0, 0, [], sg0),
  (.invokestatic 28, 26, 15, 0, 0, 1, [], sgX7_at),
  (.iload_n 3, 29, 16, 0, 0, 0, [], sg0),
  (.isub, 30, 17, 0, 0, 0, [], sg0),
  (.if_icmp .gt 7, 31, 18, 20, 0, 0, [], sg0),
  (.iconst 1, 34, 19, 0, 0, 1, [], sg0),
  (.goto 4, 35, 20, 21, 0, 0, [], sg0),
  (.iconst 0, 38, 21, 0, 0, 0, [], sg0),
  (.ireturn, 39, 22, 0, 0, 0, [], sg0),
  (.nop, 40, 23, 0, 0, 0, [], sg0)]
set_option maxRecDepth 100000 in
theorem okX3_holdsRun : Chk sgX3_holdsRun kX3_holdsRun := ⟨linBQ (by decide +kernel), And.intro sgSX7_at (And.intro sgSX7_at trivial), tb_l2 [(1, 154), (1, 154)] (by decide +kernel) (by decide +kernel), nw_l2 [(3, 217), (3, 217)] (by decide +kernel) (by decide +kernel), by decide +kernel⟩
set_option maxRecDepth 100000 in
def kX3_read : List Row := [(.aload_n 0, 0, 1, 0, 0, 0, [], sg0),
  (.getfield 18, 1, 2, 3, 2, 0, [], sg0),
  (.iload_n 1, 4, 3, 0, 0, 0, [], sg0),
  (.bipush 40, 5, 4, 0, 0, 40, [], sg0),
  (.imul, 7, 5, 0, 0, 0, [], sg0),
  (.iload_n 2, 8, 6, 0, 0, 0, [], sg0),
  (.iadd, 9, 7, 0, 0, 0, [], sg0),
  (.invokestatic 28, 10, 8, 0, 0, 1, [], sgX7_at),
  (.ireturn, 13, 9, 0, 0, 0, [], sg0),
  (.nop, 14, 10, 0, 0, 0, [], sg0)]
set_option maxRecDepth 100000 in
theorem okX3_read : Chk sgX3_read kX3_read := ⟨linBQ (by decide +kernel), And.intro sgSX7_at trivial, tb_l2 [(1, 156)] (by decide +kernel) (by decide +kernel), nw_l2 [(3, 217)] (by decide +kernel) (by decide +kernel), by decide +kernel⟩
set_option maxRecDepth 100000 in
def kX3_write : List Row := [(.aload_n 0, 0, 1, 0, 0, 0, [], sg0),
  (.getfield 9, 1, 2, 3, 0, 0, [], sg0),
  (.iload_n 1, 4, 3, 0, 0, 0, [], sg0),
  (.invokestatic 28, 5, 4, 0, 0, 1, [], sgX7_at),
  (.istore 4, 8, 5, 0, 0, 0, [], sg0),
  (.iload 4, 10, 6, 0, 0, 0, [], sg0),
  (.ifCond .ne 8, 12, 7, 10, 0, 0, [], sg0),
  (.iload_n 3, 15, 8, 0, 0, 0, [], sg0),
  (.i2b, 16, 9, 0, 0, 0, [], sg0),
  (.goto 15, 17, 10, 17, 0, 0, [], sg0),
  (.iload 4, 20, 11, 0, 0, 0, [], sg0),
  (.iconst 1, 22, 12, 0, 0, 1, [], sg0),
  (.if_icmp .ne 8, 23, 13, 16, 0, 0, [], sg0),
  (.iload_n 3, 26, 14, 0, 0, 0, [], sg0),
  (.i2s, 27, 15, 0, 0, 0, [], sg0),
  (.goto 4, 28, 16, 17, 0, 0, [], sg0),
  (.iload_n 3, 31, 17, 0, 0, 0, [], sg0),
  (.istore 5, 32, 18, 0, 0, 0, [], sg0),
  (.aload_n 0, 34, 19, 0, 0, 0, [], sg0),
  (.getfield 18, 35, 20, 3, 2, 0, [], sg0),
  (.iload_n 1, 38, 21, 0, 0, 0, [], sg0),
  (.bipush 40, 39, 22, 0, 0, 40, [], sg0),
  (.imul, 41, 23, 0, 0, 0, [], sg0),
  (.iload_n 2, 42, 24, 0, 0, 0, [], sg0),
  (.iadd, 43, 25, 0, 0, 0, [], sg0),
  (.iload 5, 44, 26, 0, 0, 0, [], sg0),
  (.invokestatic 24, 46, 27, 0, 0, 1, [], sgX7_put),
  (.return_, 49, 28, 0, 0, 0, [], sg0),
  (.nop, 50, 29, 0, 0, 0, [], sg0)]
set_option maxRecDepth 100000 in
theorem okX3_write : Chk sgX3_write kX3_write := ⟨linBQ (by decide +kernel), And.intro sgSX7_at (And.intro sgSX7_put trivial), tb_l2 [(1, 152), (1, 156)] (by decide +kernel) (by decide +kernel), nw_l2 [(3, 217), (1, 151)] (by decide +kernel) (by decide +kernel), by decide +kernel⟩
set_option maxRecDepth 100000 in
def kX3_move : List Row := [(.iconst 0, 0, 1, 0, 0, 0, [], sg0),
  (.istore 6, 1, 2, 0, 0, 0, [], sg0),
  (.iload 6, 3, 3, 0, 0, 0, [], sg0),
  (.iload 5, 5, 4, 0, 0, 0, [], sg0),
  (.if_icmp .ge 27, 7, 5, 17, 0, 0, [], sg0),
  (.aload_n 0, 10, 6, 0, 0, 0, [], sg0),
  (.getfield 21, 11, 7, 3, 3, 0, [], sg0),
  (.iload 6, 14, 8, 0, 0, 0, [], sg0),
  (.aload_n 0, 16, 9, 0, 0, 0, [], sg0),
  (.iload_n 1, 17, 10, 0, 0, 0, [], sg0),
  (.iload_n 2, 18, 11, 0, 0, 0, [], sg0),
  (.iload 6, 19, 12, 0, 0, 0, [], sg0),
  (.iadd, 21, 13, 0, 0, 0, [], sg0),
  (.invokevirtual 36, 22, 14, 3, 0, 0, [], sgX3_read),
  (.invokestatic 24, 25, 15, 0, 0, 1, [], sgX7_put),
  (.iinc 6 1, 28, 16, 0, 0, 1, [], sg0),
  (.goto (-28), 31, 17, 2, 0, 0, [], sg0),
  (.iconst 0, 34, 18, 0, 0, 0, [], sg0),
  (.istore 6, 35, 19, 0, 0, 0, [], sg0),
  (.iload 6, 37, 20, 0, 0, 0, [], sg0),
  (.iload 5, 39, 21, 0, 0, 0, [], sg0),
  (.if_icmp .ge 28, 41, 22, 34, 0, 0, [], sg0),
  (.aload_n 0, 44, 23, 0, 0, 0, [], sg0),
  (.iload_n 3, 45, 24, 0, 0, 0, [], sg0),
  (.iload 4, 46, 25, 0, 0, 0, [], sg0),
  (.iload 6, 48, 26, 0, 0, 0, [], sg0),
  (.iadd, 50, 27, 0, 0, 0, [], sg0),
  (.aload_n 0, 51, 28, 0, 0, 0, [], sg0),
  (.getfield 21, 52, 29, 3, 3, 0, [], sg0),
  (.iload 6, 55, 30, 0, 0, 0, [], sg0),
  (.invokestatic 28, 57, 31, 0, 0, 1, [], sgX7_at),
  (.invokevirtual 40, 60, 32, 3, 0, 0, [], sgX3_write),
  (.iinc 6 1, 63, 33, 0, 0, 1, [], sg0),
  (.goto (-29), 66, 34, 19, 0, 0, [], sg0),
  (.return_, 69, 35, 0, 0, 0, [], sg0),
  (.nop, 70, 36, 0, 0, 0, [], sg0)]
set_option maxRecDepth 100000 in
theorem okX3_move : Chk sgX3_move kX3_move := ⟨linBQ (by decide +kernel), And.intro sgVX3_read (And.intro sgSX7_put (And.intro sgSX7_at (And.intro sgVX3_write trivial))), tb_l2 [(1, 157), (4, 59), (1, 157), (4, 60)] (by decide +kernel) (by decide +kernel), nw_l2 [(1, 151), (3, 217)] (by decide +kernel) (by decide +kernel), by decide +kernel⟩
set_option maxRecDepth 100000 in
def kX4_init : List Row := [(.aload_n 0, 0, 1, 0, 0, 0, [], sg0),
  (.invokespecial 3, 1, 2, 0, 9, 0, [], sg0),
  (.aload_n 0, 4, 3, 0, 0, 0, [], sg0),
  (.iconst 5, 5, 4, 0, 0, 5, [], sg0),
  (.newarray .int, 6, 5, 0, 0, 0, [], sg0),
  (.putfield 9, 8, 6, 4, 0, 0, [], sg0),
  (.aload_n 0, 11, 7, 0, 0, 0, [], sg0),
  (.iconst 5, 12, 8, 0, 0, 5, [], sg0),
  (.newarray .int, 13, 9, 0, 0, 0, [], sg0),
  (.putfield 15, 15, 10, 4, 1, 0, [], sg0),
  (.aload_n 0, 18, 11, 0, 0, 0, [], sg0),
  (.bipush 36, 19, 12, 0, 0, 36, [], sg0),
  (.newarray .int, 21, 13, 0, 0, 0, [], sg0),
  (.putfield 18, 23, 14, 4, 2, 0, [], sg0),
  (.return_, 26, 15, 0, 0, 0, [], sg0),
  (.nop, 27, 16, 0, 0, 0, [], sg0)]
set_option maxRecDepth 100000 in
theorem okX4_init : Chk sgX4_init kX4_init := ⟨linBQ (by decide +kernel), trivial, tb_l2 [(1, 120), (1, 22), (1, 23), (1, 53), (1, 121), (1, 53), (1, 123), (1, 53), (1, 125)] (by decide +kernel) (by decide +kernel), nw_l2 [] (by decide +kernel) (by decide +kernel), by decide +kernel⟩
set_option maxRecDepth 100000 in
def kX4_become : List Row := [(.aload_n 0, 0, 1, 0, 0, 0, [], sg0),
  (.getfield 9, 1, 2, 4, 0, 0, [], sg0),
  (.iload_n 1, 4, 3, 0, 0, 0, [], sg0),
  (.iload_n 2, 5, 4, 0, 0, 0, [], sg0),
  (.invokestatic 21, 6, 5, 0, 0, 1, [], sgX7_put),
  (.aload_n 0, 9, 6, 0, 0, 0, [], sg0),
  (.getfield 15, 10, 7, 4, 1, 0, [], sg0),
  (.iload_n 1, 13, 8, 0, 0, 0, [], sg0),
  (.iload_n 3, 14, 9, 0, 0, 0, [], sg0),
  (.invokestatic 21, 15, 10, 0, 0, 1, [], sgX7_put),
  (.return_, 18, 11, 0, 0, 0, [], sg0),
  (.nop, 19, 12, 0, 0, 0, [], sg0)]
set_option maxRecDepth 100000 in
theorem okX4_become : Chk sgX4_become kX4_become := ⟨linBQ (by decide +kernel), And.intro sgSX7_put (And.intro sgSX7_put trivial), tb_l2 [(1, 121), (1, 123)] (by decide +kernel) (by decide +kernel), nw_l2 [(2, 236), (2, 236)] (by decide +kernel) (by decide +kernel), by decide +kernel⟩
set_option maxRecDepth 100000 in
def kX4_append : List Row := [(.aload_n 0, 0, 1, 0, 0, 0, [], sg0),
  (.getfield 25, 1, 2, 4, 4, 0, [], sg0),
  (.bipush 12, 4, 3, 0, 0, 12, [], sg0),
  (.if_icmp .lt 4, 6, 4, 5, 0, 0, [], sg0),
  (.return_, 9, 5, 0, 0, 0, [], sg0),
  (.aload_n 0, 10, 6, 0, 0, 0, [], sg0),
  (.getfield 18, 11, 7, 4, 2, 0, [], sg0),
  (.iconst 3, 14, 8, 0, 0, 3, [], sg0),
  (.aload_n 0, 15, 9, 0, 0, 0, [], sg0),
  (.getfield 25, 16, 10, 4, 4, 0, [], sg0),
  (.imul, 19, 11, 0, 0, 0, [], sg0),
  (.iload_n 1, 20, 12, 0, 0, 0, [], sg0),
  (.invokestatic 21, 21, 13, 0, 0, 1, [], sgX7_put),
  (.aload_n 0, 24, 14, 0, 0, 0, [], sg0),
  (.getfield 18, 25, 15, 4, 2, 0, [], sg0),
  (.iconst 3, 28, 16, 0, 0, 3, [], sg0),
  (.aload_n 0, 29, 17, 0, 0, 0, [], sg0),
  (.getfield 25, 30, 18, 4, 4, 0, [], sg0),
  (.imul, 33, 19, 0, 0, 0, [], sg0),
  (.iconst 1, 34, 20, 0, 0, 1, [], sg0),
  (.iadd, 35, 21, 0, 0, 0, [], sg0),
  (.iload_n 2, 36, 22, 0, 0, 0, [], sg0),
  (.invokestatic 21, 37, 23, 0, 0, 1, [], sgX7_put),
  (.aload_n 0, 40, 24, 0, 0, 0, [], sg0),
  (.getfield 18, 41, 25, 4, 2, 0, [], sg0),
  (.iconst 3, 44, 26, 0, 0, 3, [], sg0),
  (.aload_n 0, 45, 27, 0, 0, 0, [], sg0),
  (.getfield 25, 46, 28, 4, 4, 0, [], sg0),
  (.imul, 49, 29, 0, 0, 0, [], sg0),
  (.iconst 2, 50, 30, 0, 0, 2, [], sg0),
  (.iadd, 51, 31, 0, 0, 0, [], sg0),
  (.iload_n 3, 52, 32, 0, 0, 0, [], sg0),
  (.invokestatic 21, 53, 33, 0, 0, 1, [], sgX7_put),
  (.aload_n 0, 56, 34, 0, 0, 0, [], sg0),
  (.dup, 57, 35, 0, 0, 0, [], sg0),
  (.getfield 25, 58, 36, 4, 4, 0, [], sg0),
  (.iconst 1, 61, 37, 0, 0, 1, [], sg0),
  (.iadd, 62, 38, 0, 0, 0, [], sg0),
  (.putfield 25, 63, 39, 4, 4, 0, [], sg0),
  (.return_, 66, 40, 0, 0, 0, [], sg0),
  (.nop, 67, 41, 0, 0, 0, [], sg0)]
set_option maxRecDepth 100000 in
theorem okX4_append : Chk sgX4_append kX4_append := ⟨linBQ (by decide +kernel), And.intro sgSX7_put (And.intro sgSX7_put (And.intro sgSX7_put trivial)), tb_l2 [(1, 129), (1, 125), (1, 129), (1, 125), (1, 129), (1, 125), (1, 129), (1, 129), (1, 129)] (by decide +kernel) (by decide +kernel), nw_l2 [(2, 236), (2, 236), (2, 236)] (by decide +kernel) (by decide +kernel), by decide +kernel⟩
set_option maxRecDepth 100000 in
def kX4_sayingPart : List Row := [(.aload_n 0, 0, 1, 0, 0, 0, [], sg0),
  (.getfield 18, 1, 2, 4, 2, 0, [], sg0),
  (.iconst 3, 4, 3, 0, 0, 3, [], sg0),
  (.iload_n 1, 5, 4, 0, 0, 0, [], sg0),
  (.imul, 6, 5, 0, 0, 0, [], sg0),
  (.iload_n 2, 7, 6, 0, 0, 0, [], sg0),
  (.iadd, 8, 7, 0, 0, 0, [], sg0),
  (.invokestatic 29, 9, 8, 0, 0, 1, [], sgX7_at),
  (.ireturn, 12, 9, 0, 0, 0, [], sg0),
  (.nop, 13, 10, 0, 0, 0, [], sg0)]
set_option maxRecDepth 100000 in
theorem okX4_sayingPart : Chk sgX4_sayingPart kX4_sayingPart := ⟨linBQ (by decide +kernel), And.intro sgSX7_at trivial, tb_l2 [(1, 125)] (by decide +kernel) (by decide +kernel), nw_l2 [(3, 30)] (by decide +kernel) (by decide +kernel), by decide +kernel⟩
set_option maxRecDepth 100000 in
def kX4_becomeLike : List Row := [(.aload_n 1, 0, 1, 0, 0, 0, [], sg0),
  (.ifnonnull 4, 1, 2, 3, 0, 0, [], sg0),
  (.return_, 4, 3, 0, 0, 0, [], sg0),
  (.iconst 0, 5, 4, 0, 0, 0, [], sg0),
  (.istore_n 2, 6, 5, 0, 0, 0, [], sg0),
  (.iload_n 2, 7, 6, 0, 0, 0, [], sg0),
  (.iconst 5, 8, 7, 0, 0, 5, [], sg0),
  (.if_icmp .ge 30, 9, 8, 21, 0, 0, [], sg0),
  (.aload_n 0, 12, 9, 0, 0, 0, [], sg0),
  (.iload_n 2, 13, 10, 0, 0, 0, [], sg0),
  (.aload_n 1, 14, 11, 0, 0, 0, [], sg0),
  (.getfield 9, 15, 12, 4, 0, 0, [], sg0),
  (.iload_n 2, 18, 13, 0, 0, 0, [], sg0),
  (.invokestatic 29, 19, 14, 0, 0, 1, [], sgX7_at),
  (.aload_n 1, 22, 15, 0, 0, 0, [], sg0),
  (.getfield 15, 23, 16, 4, 1, 0, [], sg0),
  (.iload_n 2, 26, 17, 0, 0, 0, [], sg0),
  (.invokestatic 29, 27, 18, 0, 0, 1, [], sgX7_at),
  (.invokevirtual 33, 30, 19, 4, 0, 0, [], sgX4_become),
  (.iinc 2 1, 33, 20, 0, 0, 1, [], sg0),
  (.goto (-29), 36, 21, 5, 0, 0, [], sg0),
  (.iconst 0, 39, 22, 0, 0, 0, [], sg0),
  (.istore_n 2, 40, 23, 0, 0, 0, [], sg0),
  (.iload_n 2, 41, 24, 0, 0, 0, [], sg0),
  (.bipush 36, 42, 25, 0, 0, 36, [], sg0),
  (.if_icmp .ge 25, 44, 26, 36, 0, 0, [], sg0),
  (.aload_n 0, 47, 27, 0, 0, 0, [], sg0),
  (.getfield 18, 48, 28, 4, 2, 0, [], sg0),
  (.iload_n 2, 51, 29, 0, 0, 0, [], sg0),
  (.aload_n 1, 52, 30, 0, 0, 0, [], sg0),
  (.getfield 18, 53, 31, 4, 2, 0, [], sg0),
  (.iload_n 2, 56, 32, 0, 0, 0, [], sg0),
  (.invokestatic 29, 57, 33, 0, 0, 1, [], sgX7_at),
  (.invokestatic 21, 60, 34, 0, 0, 1, [], sgX7_put),
  (.iinc 2 1, 63, 35, 0, 0, 1, [], sg0),
  (.goto (-25), 66, 36, 23, 0, 0, [], sg0),
  (.aload_n 0, 69, 37, 0, 0, 0, [], sg0),
  (.aload_n 1, 70, 38, 0, 0, 0, [], sg0),
  (.getfield 37, 71, 39, 4, 3, 0, [], sg0),
  (.putfield 37, 74, 40, 4, 3, 0, [], sg0),
  (.aload_n 0, 77, 41, 0, 0, 0, [], sg0),
  (.aload_n 1, 78, 42, 0, 0, 0, [], sg0),
  (.getfield 25, 79, 43, 4, 4, 0, [], sg0),
  (.putfield 25, 82, 44, 4, 4, 0, [], sg0),
  (.aload_n 0, 85, 45, 0, 0, 0, [], sg0),
  (.aload_n 1, 86, 46, 0, 0, 0, [], sg0),
  (.getfield 40, 87, 47, 4, 5, 0, [], sg0),
  (.putfield 40, 90, 48, 4, 5, 0, [], sg0),
  (.return_, 93, 49, 0, 0, 0, [], sg0),
  (.nop, 94, 50, 0, 0, 0, [], sg0)]
set_option maxRecDepth 100000 in
theorem okX4_becomeLike : Chk sgX4_becomeLike kX4_becomeLike := ⟨linBQ (by decide +kernel), And.intro sgSX7_at (And.intro sgSX7_at (And.intro sgVX4_become (And.intro sgSX7_at (And.intro sgSX7_put trivial)))), tb_l2 [(1, 121), (1, 123), (4, 29), (1, 125), (1, 125), (1, 127), (1, 127), (1, 129), (1, 129), (1, 131), (1, 131)] (by decide +kernel) (by decide +kernel), nw_l2 [(3, 30), (3, 30), (3, 30), (2, 236)] (by decide +kernel) (by decide +kernel), by decide +kernel⟩
set_option maxRecDepth 100000 in
def kX5_init : List Row := [(.aload_n 0, 0, 1, 0, 0, 0, [], sg0),
  (.invokespecial 3, 1, 2, 0, 9, 0, [], sg0),
  (.aload_n 0, 4, 3, 0, 0, 0, [], sg0),
  (.bipush 30, 5, 4, 0, 0, 30, [], sg0),
  (.newarray .int, 7, 5, 0, 0, 0, [], sg0),
  (.putfield 9, 9, 6, 5, 0, 0, [], sg0),
  (.aload_n 0, 12, 7, 0, 0, 0, [], sg0),
  (.bipush 30, 13, 8, 0, 0, 30, [], sg0),
  (.newarray .int, 15, 9, 0, 0, 0, [], sg0),
  (.putfield 15, 17, 10, 5, 1, 0, [], sg0),
  (.aload_n 0, 20, 11, 0, 0, 0, [], sg0),
  (.bipush 30, 21, 12, 0, 0, 30, [], sg0),
  (.newarray .int, 23, 13, 0, 0, 0, [], sg0),
  (.putfield 18, 25, 14, 5, 2, 0, [], sg0),
  (.iconst 0, 28, 15, 0, 0, 0, [], sg0),
  (.istore_n 1, 29, 16, 0, 0, 0, [], sg0),
  (.iload_n 1, 30, 17, 0, 0, 0, [], sg0),
  (.iconst 5, 31, 18, 0, 0, 5, [], sg0),
  (.if_icmp .ge 27, 32, 19, 31, 0, 0, [], sg0),
  (.aload_n 0, 35, 20, 0, 0, 0, [], sg0),
  (.getfield 9, 36, 21, 5, 0, 0, [], sg0),
  (.iload_n 1, 39, 22, 0, 0, 0, [], sg0),
  (.iconst (-1), 40, 23, 0, 0, (-1), [], sg0),
  (.invokestatic 21, 41, 24, 0, 0, 1, [], sgX7_put),
  (.aload_n 0, 44, 25, 0, 0, 0, [], sg0),
  (.getfield 18, 45, 26, 5, 2, 0, [], sg0),
  (.iload_n 1, 48, 27, 0, 0, 0, [], sg0),
  (.iconst 1, 49, 28, 0, 0, 1, [], sg0),
  (.invokestatic 21, 50, 29, 0, 0, 1, [], sgX7_put),
  (.iinc 1 1, 53, 30, 0, 0, 1, [], sg0),
  (.goto (-26), 56, 31, 16, 0, 0, [], sg0),
  (.aload_n 0, 59, 32, 0, 0, 0, [], sg0),
  (.iconst 1, 60, 33, 0, 0, 1, [], sg0),
  (.putfield 25, 61, 34, 5, 3, 0, [], sg0),
  (.return_, 64, 35, 0, 0, 0, [], sg0),
  (.nop, 65, 36, 0, 0, 0, [], sg0)]
set_option maxRecDepth 100000 in
theorem okX5_init : Chk sgX5_init kX5_init := ⟨linBQ (by decide +kernel), And.intro sgSX7_put (And.intro sgSX7_put trivial), tb_l2 [(1, 97), (1, 22), (1, 23), (1, 53), (1, 101), (1, 53), (1, 102), (1, 53), (1, 103), (1, 101), (1, 103), (1, 104)] (by decide +kernel) (by decide +kernel), nw_l2 [(1, 98), (1, 98)] (by decide +kernel) (by decide +kernel), by decide +kernel⟩
set_option maxRecDepth 100000 in
def kX5_add : List Row := [(.aload_n 0, 0, 1, 0, 0, 0, [], sg0),
  (.getfield 25, 1, 2, 5, 3, 0, [], sg0),
  (.bipush 6, 4, 3, 0, 0, 6, [], sg0),
  (.if_icmp .lt 4, 6, 4, 5, 0, 0, [], sg0),
  (.return_, 9, 5, 0, 0, 0, [], sg0),
  (.iconst 0, 10, 6, 0, 0, 0, [], sg0),
  (.istore_n 2, 11, 7, 0, 0, 0, [], sg0),
  (.iload_n 2, 12, 8, 0, 0, 0, [], sg0),
  (.iconst 5, 13, 9, 0, 0, 5, [], sg0),
  (.if_icmp .ge 70, 14, 10, 48, 0, 0, [], sg0),
  (.aload_n 0, 17, 11, 0, 0, 0, [], sg0),
  (.getfield 25, 18, 12, 5, 3, 0, [], sg0),
  (.iconst 5, 21, 13, 0, 0, 5, [], sg0),
  (.imul, 22, 14, 0, 0, 0, [], sg0),
  (.iload_n 2, 23, 15, 0, 0, 0, [], sg0),
  (.iadd, 24, 16, 0, 0, 0, [], sg0),
  (.istore_n 3, 25, 17, 0, 0, 0, [], sg0),
  (.aload_n 0, 26, 18, 0, 0, 0, [], sg0),
  (.getfield 9, 27, 19, 5, 0, 0, [], sg0),
  (.iload_n 3, 30, 20, 0, 0, 0, [], sg0),
  (.aload_n 1, 31, 21, 0, 0, 0, [], sg0),
  (.iconst 0, 32, 22, 0, 0, 0, [], sg0),
  (.iload_n 2, 33, 23, 0, 0, 0, [], sg0),
  (.invokevirtual 29, 34, 24, 0, 0, 1, [], sgX0_truths),
  (.invokestatic 21, 37, 25, 0, 0, 1, [], sgX7_put),
  (.aload_n 0, 40, 26, 0, 0, 0, [], sg0),
  (.getfield 15, 41, 27, 5, 1, 0, [], sg0),
  (.iload_n 3, 44, 28, 0, 0, 0, [], sg0),
  (.aload_n 1, 45, 29, 0, 0, 0, [], sg0),
  (.iconst 1, 46, 30, 0, 0, 1, [], sg0),
  (.iload_n 2, 47, 31, 0, 0, 0, [], sg0),
  (.invokevirtual 29, 48, 32, 0, 0, 1, [], sgX0_truths),
  (.invokestatic 21, 51, 33, 0, 0, 1, [], sgX7_put),
  (.aload_n 0, 54, 34, 0, 0, 0, [], sg0),
  (.getfield 18, 55, 35, 5, 2, 0, [], sg0),
  (.iload_n 3, 58, 36, 0, 0, 0, [], sg0),
  (.iconst 0, 59, 37, 0, 0, 0, [], sg0),
  (.bipush 99, 60, 38, 0, 0, 99, [], sg0),
  (.aload_n 1, 62, 39, 0, 0, 0, [], sg0),
  (.iconst 2, 63, 40, 0, 0, 2, [], sg0),
  (.iconst 0, 64, 41, 0, 0, 0, [], sg0),
  (.iload_n 2, 65, 42, 0, 0, 0, [], sg0),
  (.invokevirtual 35, 66, 43, 0, 0, 1, [], sgX0_valueOf),
  (.invokestatic 39, 69, 44, 0, 8, 0, [], sg0),
  (.invokestatic 44, 72, 45, 0, 7, 0, [], sg0),
  (.invokestatic 21, 75, 46, 0, 0, 1, [], sgX7_put),
  (.iinc 2 1, 78, 47, 0, 0, 1, [], sg0),
  (.goto (-69), 81, 48, 7, 0, 0, [], sg0),
  (.aload_n 0, 84, 49, 0, 0, 0, [], sg0),
  (.dup, 85, 50, 0, 0, 0, [], sg0),
  (.getfield 25, 86, 51, 5, 3, 0, [], sg0),
  (.iconst 1, 89, 52, 0, 0, 1, [], sg0),
  (.iadd, 90, 53, 0, 0, 0, [], sg0),
  (.putfield 25, 91, 54, 5, 3, 0, [], sg0),
  (.return_, 94, 55, 0, 0, 0, [], sg0),
  (.nop, 95, 56, 0, 0, 0, [], sg0)]
set_option maxRecDepth 100000 in
theorem okX5_add : Chk sgX5_add kX5_add := ⟨linBQ (by decide +kernel), And.intro sgVX0_truths (And.intro sgSX7_put (And.intro sgVX0_truths (And.intro sgSX7_put (And.intro sgVX0_valueOf (And.intro sgSX7_put trivial))))), tb_l2 [(1, 104), (1, 104), (1, 101), (1, 102), (1, 103), (2, 174), (2, 175), (1, 14), (2, 176), (2, 177), (2, 178), (1, 14), (2, 179), (1, 104), (1, 104)] (by decide +kernel) (by decide +kernel), nw_l2 [(2, 146), (1, 98), (2, 146), (1, 98), (2, 173), (1, 98)] (by decide +kernel) (by decide +kernel), by decide +kernel⟩
set_option maxRecDepth 100000 in
def kX5_side : List Row := [(.iload_n 3, 0, 1, 0, 0, 0, [], sg0),
  (.ifCond .ne 10, 1, 2, 5, 0, 0, [], sg0),
  (.aload_n 0, 4, 3, 0, 0, 0, [], sg0),
  (.getfield 9, 5, 4, 5, 0, 0, [], sg0),
  (.goto 7, 8, 5, 7, 0, 0, [], sg0),
  (.aload_n 0, 11, 6, 0, 0, 0, [], sg0),
  (.getfield 15, 12, 7, 5, 1, 0, [], sg0),
  (.iload_n 1, 15, 8, 0, 0, 0, [], sg0),
  (.iconst 5, 16, 9, 0, 0, 5, [], sg0),
  (.imul, 17, 10, 0, 0, 0, [], sg0),
  (.iload_n 2, 18, 11, 0, 0, 0, [], sg0),
  (.iadd, 19, 12, 0, 0, 0, [], sg0),
  (.invokestatic 47, 20, 13, 0, 0, 1, [], sgX7_at),
  (.ireturn, 23, 14, 0, 0, 0, [], sg0),
  (.nop, 24, 15, 0, 0, 0, [], sg0)]
set_option maxRecDepth 100000 in
theorem okX5_side : Chk sgX5_side kX5_side := ⟨linBQ (by decide +kernel), And.intro sgSX7_at trivial, tb_l2 [(1, 101), (1, 102)] (by decide +kernel) (by decide +kernel), nw_l2 [(2, 203)] (by decide +kernel) (by decide +kernel), by decide +kernel⟩
set_option maxRecDepth 100000 in
def kX5_costOf : List Row := [(.aload_n 0, 0, 1, 0, 0, 0, [], sg0),
  (.getfield 18, 1, 2, 5, 2, 0, [], sg0),
  (.iload_n 1, 4, 3, 0, 0, 0, [], sg0),
  (.iconst 5, 5, 4, 0, 0, 5, [], sg0),
  (.imul, 6, 5, 0, 0, 0, [], sg0),
  (.iload_n 2, 7, 6, 0, 0, 0, [], sg0),
  (.iadd, 8, 7, 0, 0, 0, [], sg0),
  (.invokestatic 47, 9, 8, 0, 0, 1, [], sgX7_at),
  (.ireturn, 12, 9, 0, 0, 0, [], sg0),
  (.nop, 13, 10, 0, 0, 0, [], sg0)]
set_option maxRecDepth 100000 in
theorem okX5_costOf : Chk sgX5_costOf kX5_costOf := ⟨linBQ (by decide +kernel), And.intro sgSX7_at trivial, tb_l2 [(1, 103)] (by decide +kernel) (by decide +kernel), nw_l2 [(2, 203)] (by decide +kernel) (by decide +kernel), by decide +kernel⟩
set_option maxRecDepth 100000 in
def kX6_init : List Row := [(.aload_n 0, 0, 1, 0, 0, 0, [], sg0),
  (.invokespecial 3, 1, 2, 0, 9, 0, [], sg0),
  (.aload_n 0, 4, 3, 0, 0, 0, [], sg0),
  (.sipush 160, 5, 4, 0, 0, 160, [], sg0),
  (.newarray .int, 8, 5, 0, 0, 0, [], sg0),
  (.putfield 9, 10, 6, 6, 0, 0, [], sg0),
  (.return_, 13, 7, 0, 0, 0, [], sg0),
  (.nop, 14, 8, 0, 0, 0, [], sg0)]
set_option maxRecDepth 100000 in
theorem okX6_init : Chk sgX6_init kX6_init := ⟨linBQ (by decide +kernel), trivial, tb_l2 [(1, 29), (1, 22), (1, 23), (1, 53), (1, 30)] (by decide +kernel) (by decide +kernel), nw_l2 [] (by decide +kernel) (by decide +kernel), by decide +kernel⟩
set_option maxRecDepth 100000 in
def kX6_append : List Row := [(.aload_n 0, 0, 1, 0, 0, 0, [], sg0),
  (.getfield 15, 1, 2, 6, 1, 0, [], sg0),
  (.sipush 160, 4, 3, 0, 0, 160, [], sg0),
  (.if_icmp .lt 4, 7, 4, 5, 0, 0, [], sg0),
  (.return_, 10, 5, 0, 0, 0, [], sg0),
  (.aload_n 0, 11, 6, 0, 0, 0, [], sg0),
  (.getfield 9, 12, 7, 6, 0, 0, [], sg0),
  (.aload_n 0, 15, 8, 0, 0, 0, [], sg0),
  (.getfield 15, 16, 9, 6, 1, 0, [], sg0),
  (.iload_n 1, 19, 10, 0, 0, 0, [], sg0),
  (.invokestatic 19, 20, 11, 0, 0, 1, [], sgX7_put),
  (.aload_n 0, 23, 12, 0, 0, 0, [], sg0),
  (.dup, 24, 13, 0, 0, 0, [], sg0),
  (.getfield 15, 25, 14, 6, 1, 0, [], sg0),
  (.iconst 1, 28, 15, 0, 0, 1, [], sg0),
  (.iadd, 29, 16, 0, 0, 0, [], sg0),
  (.putfield 15, 30, 17, 6, 1, 0, [], sg0),
  (.return_, 33, 18, 0, 0, 0, [], sg0),
  (.nop, 34, 19, 0, 0, 0, [], sg0)]
set_option maxRecDepth 100000 in
theorem okX6_append : Chk sgX6_append kX6_append := ⟨linBQ (by decide +kernel), And.intro sgSX7_put trivial, tb_l2 [(1, 31), (1, 30), (1, 31), (1, 31), (1, 31)] (by decide +kernel) (by decide +kernel), nw_l2 [(1, 233)] (by decide +kernel) (by decide +kernel), by decide +kernel⟩
set_option maxRecDepth 100000 in
def kX6_start : List Row := [(.aload_n 0, 0, 1, 0, 0, 0, [], sg0),
  (.iconst 0, 1, 2, 0, 0, 0, [], sg0),
  (.putfield 23, 2, 3, 6, 5, 0, [], sg0),
  (.aload_n 0, 5, 4, 0, 0, 0, [], sg0),
  (.invokevirtual 26, 6, 5, 6, 0, 0, [], sgX6_advance),
  (.return_, 9, 6, 0, 0, 0, [], sg0),
  (.nop, 10, 7, 0, 0, 0, [], sg0)]
set_option maxRecDepth 100000 in
theorem okX6_start : Chk sgX6_start kX6_start := ⟨linBQ (by decide +kernel), And.intro sgVX6_advance trivial, tb_l2 [(1, 39), (2, 6)] (by decide +kernel) (by decide +kernel), nw_l2 [] (by decide +kernel) (by decide +kernel), by decide +kernel⟩
set_option maxRecDepth 100000 in
def kX6_advance : List Row := [(.aload_n 0, 0, 1, 0, 0, 0, [], sg0),
  (.aload_n 0, 1, 2, 0, 0, 0, [], sg0),
  (.getfield 23, 2, 3, 6, 5, 0, [], sg0),
  (.putfield 29, 5, 4, 6, 4, 0, [], sg0),
  (.iconst 0, 8, 5, 0, 0, 0, [], sg0),
  (.istore_n 1, 9, 6, 0, 0, 0, [], sg0),
  (.iload_n 1, 10, 7, 0, 0, 0, [], sg0),
  (.sipush 160, 11, 8, 0, 0, 160, [], sg0),
  (.if_icmp .ge 47, 14, 9, 29, 0, 0, [], sg0),
  (.aload_n 0, 17, 10, 0, 0, 0, [], sg0),
  (.getfield 29, 18, 11, 6, 4, 0, [], sg0),
  (.aload_n 0, 21, 12, 0, 0, 0, [], sg0),
  (.getfield 15, 22, 13, 6, 1, 0, [], sg0),
  (.if_icmp .ge 36, 25, 14, 29, 0, 0, [], sg0),
  (.aload_n 0, 28, 15, 0, 0, 0, [], sg0),
  (.getfield 9, 29, 16, 6, 0, 0, [], sg0),
  (.aload_n 0, 32, 17, 0, 0, 0, [], sg0),
  (.getfield 29, 33, 18, 6, 4, 0, [], sg0),
  (.invokestatic 32, 36, 19, 0, 0, 1, [], sgX7_at),
  (.invokestatic 36, 39, 20, 0, 0, 0, [], sgX6_isBlank),
  (.ifCond .eq 19, 42, 21, 29, 0, 0, [], sg0),
  (.aload_n 0, 45, 22, 0, 0, 0, [], sg0),
  (.dup, 46, 23, 0, 0, 0, [], sg0),
  (.getfield 29, 47, 24, 6, 4, 0, [], sg0),
  (.iconst 1, 50, 25, 0, 0, 1, [], sg0),
  (.iadd, 51, 26, 0, 0, 0, [], sg0),
  (.putfield 29, 52, 27, 6, 4, 0, [], sg0),
  (.iinc 1 1, 55, 28, 0, 0, 1, [], sg0),
  (.goto (-48), 58, 29, 6, 0, 0, [], sg0),
  (.aload_n 0, 61, 30, 0, 0, 0, [], sg0),
  (.iconst 0, 62, 31, 0, 0, 0, [], sg0),
  (.putfield 40, 63, 32, 6, 3, 0, [], sg0),
  (.aload_n 0, 66, 33, 0, 0, 0, [], sg0),
  (.getfield 29, 67, 34, 6, 4, 0, [], sg0),
  (.aload_n 0, 70, 35, 0, 0, 0, [], sg0),
  (.getfield 15, 71, 36, 6, 1, 0, [], sg0),
  (.if_icmp .lt 19, 74, 37, 45, 0, 0, [], sg0),
  (.aload_n 0, 77, 38, 0, 0, 0, [], sg0),
  (.aload_n 0, 78, 39, 0, 0, 0, [], sg0),
  (.getfield 29, 79, 40, 6, 4, 0, [], sg0),
  (.putfield 23, 82, 41, 6, 5, 0, [], sg0),
  (.aload_n 0, 85, 42, 0, 0, 0, [], sg0),
  (.iconst 0, 86, 43, 0, 0, 0, [], sg0),
  (.putfield 43, 87, 44, 6, 2, 0, [], sg0),
  (.goto 97, 90, 45, 87, 0, 0, [], sg0),
  (.aload_n 0, 93, 46, 0, 0, 0, [], sg0),
  (.getfield 9, 94, 47, 6, 0, 0, [], sg0),
  (.aload_n 0, 97, 48, 0, 0, 0, [], sg0),
  (.getfield 29, 98, 49, 6, 4, 0, [], sg0),
  (.invokestatic 32, 101, 50, 0, 0, 1, [], sgX7_at),
  (.invokestatic 46, 104, 51, 0, 0, 0, [], sgX6_isLetter),
  (.ifCond .eq 10, 107, 52, 55, 0, 0, [], sg0),
  (.aload_n 0, 110, 53, 0, 0, 0, [], sg0),
  (.invokevirtual 49, 111, 54, 6, 0, 0, [], sgX6_readWord),
  (.goto 73, 114, 55, 87, 0, 0, [], sg0),
  (.aload_n 0, 117, 56, 0, 0, 0, [], sg0),
  (.getfield 9, 118, 57, 6, 0, 0, [], sg0),
  (.aload_n 0, 121, 58, 0, 0, 0, [], sg0),
  (.getfield 29, 122, 59, 6, 4, 0, [], sg0),
  (.invokestatic 32, 125, 60, 0, 0, 1, [], sgX7_at),
  (.invokestatic 52, 128, 61, 0, 0, 0, [], sgX6_isDigit),
  (.ifCond .eq 10, 131, 62, 65, 0, 0, [], sg0),
  (.aload_n 0, 134, 63, 0, 0, 0, [], sg0),
  (.invokevirtual 55, 135, 64, 6, 0, 0, [], sgX6_readNumber),
  (.goto 49, 138, 65, 87, 0, 0, [], sg0),
  (.aload_n 0, 141, 66, 0, 0, 0, [], sg0),
  (.aload_n 0, 142, 67, 0, 0, 0, [], sg0),
  (.getfield 29, 143, 68, 6, 4, 0, [], sg0),
  (.iconst 1, 146, 69, 0, 0, 1, [], sg0),
  (.iadd, 147, 70, 0, 0, 0, [], sg0),
  (.putfield 23, 148, 71, 6, 5, 0, [], sg0),
  (.aload_n 0, 151, 72, 0, 0, 0, [], sg0),
  (.aload_n 0, 152, 73, 0, 0, 0, [], sg0),
  (.getfield 9, 153, 74, 6, 0, 0, [], sg0),
  (.aload_n 0, 156, 75, 0, 0, 0, [], sg0),
  (.getfield 29, 157, 76, 6, 4, 0, [], sg0),
  (.invokestatic 32, 160, 77, 0, 0, 1, [], sgX7_at),
  (.invokestatic 58, 163, 78, 0, 0, 0, [], sgX6_isSign),
  (.ifCond .eq 17, 166, 79, 85, 0, 0, [], sg0),
  (.aload_n 0, 169, 80, 0, 0, 0, [], sg0),
  (.getfield 9, 170, 81, 6, 0, 0, [], sg0),
  (.aload_n 0, 173, 82, 0, 0, 0, [], sg0),
  (.getfield 29, 174, 83, 6, 4, 0, [], sg0),
  (.invokestatic 32, 177, 84, 0, 0, 1, [], sgX7_at),
  (.goto 4, 180, 85, 86, 0, 0, [], sg0),
  (.iconst 1, 183, 86, 0, 0, 1, [], sg0),
  (.putfield 43, 184, 87, 6, 2, 0, [], sg0),
  (.return_, 187, 88, 0, 0, 0, [], sg0),
  (.nop, 188, 89, 0, 0, 0, [], sg0)]
set_option maxRecDepth 100000 in
theorem okX6_advance : Chk sgX6_advance kX6_advance := ⟨linBQ (by decide +kernel), And.intro sgSX7_at (And.intro sgSX6_isBlank (And.intro sgSX7_at (And.intro sgSX6_isLetter (And.intro sgVX6_readWord (And.intro sgSX7_at (And.intro sgSX6_isDigit (And.intro sgVX6_readNumber (And.intro sgSX7_at (And.intro sgSX6_isSign (And.intro sgSX7_at trivial)))))))))), tb_l2 [(1, 39), (1, 37), (1, 37), (1, 31), (1, 30), (1, 37), (2, 13), (1, 37), (1, 37), (1, 35), (1, 37), (1, 31), (1, 37), (1, 39), (1, 34), (1, 30), (1, 37), (2, 16), (2, 19), (1, 30), (1, 37), (2, 82), (2, 85), (1, 37), (1, 39), (1, 30), (1, 37), (2, 89), (1, 30), (1, 37), (1, 34)] (by decide +kernel) (by decide +kernel), nw_l2 [(2, 10), (2, 10), (2, 10), (2, 10), (2, 10)] (by decide +kernel) (by decide +kernel), by decide +kernel⟩
set_option maxRecDepth 100000 in
def kX6_readWord : List Row := [(.aload_n 0, 0, 1, 0, 0, 0, [], sg0),
  (.aload_n 0, 1, 2, 0, 0, 0, [], sg0),
  (.getfield 29, 2, 3, 6, 4, 0, [], sg0),
  (.putfield 23, 5, 4, 6, 5, 0, [], sg0),
  (.iconst 0, 8, 5, 0, 0, 0, [], sg0),
  (.istore_n 1, 9, 6, 0, 0, 0, [], sg0),
  (.iload_n 1, 10, 7, 0, 0, 0, [], sg0),
  (.sipush 160, 11, 8, 0, 0, 160, [], sg0),
  (.if_icmp .ge 47, 14, 9, 29, 0, 0, [], sg0),
  (.aload_n 0, 17, 10, 0, 0, 0, [], sg0),
  (.getfield 23, 18, 11, 6, 5, 0, [], sg0),
  (.aload_n 0, 21, 12, 0, 0, 0, [], sg0),
  (.getfield 15, 22, 13, 6, 1, 0, [], sg0),
  (.if_icmp .ge 36, 25, 14, 29, 0, 0, [], sg0),
  (.aload_n 0, 28, 15, 0, 0, 0, [], sg0),
  (.getfield 9, 29, 16, 6, 0, 0, [], sg0),
  (.aload_n 0, 32, 17, 0, 0, 0, [], sg0),
  (.getfield 23, 33, 18, 6, 5, 0, [], sg0),
  (.invokestatic 32, 36, 19, 0, 0, 1, [], sgX7_at),
  (.invokestatic 46, 39, 20, 0, 0, 0, [], sgX6_isLetter),
  (.ifCond .eq 19, 42, 21, 29, 0, 0, [], sg0),
  (.aload_n 0, 45, 22, 0, 0, 0, [], sg0),
  (.dup, 46, 23, 0, 0, 0, [], sg0),
  (.getfield 23, 47, 24, 6, 5, 0, [], sg0),
  (.iconst 1, 50, 25, 0, 0, 1, [], sg0),
  (.iadd, 51, 26, 0, 0, 0, [], sg0),
  (.putfield 23, 52, 27, 6, 5, 0, [], sg0),
  (.iinc 1 1, 55, 28, 0, 0, 1, [], sg0),
  (.goto (-48), 58, 29, 6, 0, 0, [], sg0),
  (.aload_n 0, 61, 30, 0, 0, 0, [], sg0),
  (.getfield 9, 62, 31, 6, 0, 0, [], sg0),
  (.aload_n 0, 65, 32, 0, 0, 0, [], sg0),
  (.getfield 29, 66, 33, 6, 4, 0, [], sg0),
  (.invokestatic 32, 69, 34, 0, 0, 1, [], sgX7_at),
  (.bipush 97, 72, 35, 0, 0, 97, [], sg0),
  (.isub, 74, 36, 0, 0, 0, [], sg0),
  (.istore_n 1, 75, 37, 0, 0, 0, [], sg0),
  (.aload_n 0, 76, 38, 0, 0, 0, [], sg0),
  (.getfield 23, 77, 39, 6, 5, 0, [], sg0),
  (.aload_n 0, 80, 40, 0, 0, 0, [], sg0),
  (.getfield 29, 81, 41, 6, 4, 0, [], sg0),
  (.isub, 84, 42, 0, 0, 0, [], sg0),
  (.iconst 1, 85, 43, 0, 0, 1, [], sg0),
  (.if_icmp .ne 12, 86, 44, 49, 0, 0, [], sg0),
  (.iload_n 1, 89, 45, 0, 0, 0, [], sg0),
  (.iconst 5, 90, 46, 0, 0, 5, [], sg0),
  (.if_icmp .ge 7, 91, 47, 49, 0, 0, [], sg0),
  (.iconst 1, 94, 48, 0, 0, 1, [], sg0),
  (.goto 4, 95, 49, 50, 0, 0, [], sg0),
  (.iconst 0, 98, 50, 0, 0, 0, [], sg0),
  (.istore_n 2, 99, 51, 0, 0, 0, [], sg0),
  (.aload_n 0, 100, 52, 0, 0, 0, [], sg0),
  (.iload_n 2, 101, 53, 0, 0, 0, [], sg0),
  (.ifCond .eq 7, 102, 54, 56, 0, 0, [], sg0),
  (.iload_n 1, 105, 55, 0, 0, 0, [], sg0),
  (.goto 4, 106, 56, 57, 0, 0, [], sg0),
  (.iconst 5, 109, 57, 0, 0, 5, [], sg0),
  (.putfield 40, 110, 58, 6, 3, 0, [], sg0),
  (.iload_n 2, 113, 59, 0, 0, 0, [], sg0),
  (.ifCond .ne 12, 114, 60, 64, 0, 0, [], sg0),
  (.aload_n 0, 117, 61, 0, 0, 0, [], sg0),
  (.ldc 61, 118, 62, 50, 0, 0, [], sg0),
  (.invokevirtual 63, 120, 63, 6, 0, 0, [], sgX6_spells),
  (.ifCond .eq 11, 123, 64, 68, 0, 0, [], sg0),
  (.aload_n 0, 126, 65, 0, 0, 0, [], sg0),
  (.iconst 3, 127, 66, 0, 0, 3, [], sg0),
  (.putfield 43, 128, 67, 6, 2, 0, [], sg0),
  (.goto 110, 131, 68, 117, 0, 0, [], sg0),
  (.aload_n 0, 134, 69, 0, 0, 0, [], sg0),
  (.ldc 67, 135, 70, 50, 1, 0, [], sg0),
  (.invokevirtual 63, 137, 71, 6, 0, 0, [], sgX6_spells),
  (.ifCond .eq 11, 140, 72, 76, 0, 0, [], sg0),
  (.aload_n 0, 143, 73, 0, 0, 0, [], sg0),
  (.iconst 4, 144, 74, 0, 0, 4, [], sg0),
  (.putfield 43, 145, 75, 6, 2, 0, [], sg0),
  (.goto 93, 148, 76, 117, 0, 0, [], sg0),
  (.aload_n 0, 151, 77, 0, 0, 0, [], sg0),
  (.ldc 69, 152, 78, 50, 2, 0, [], sg0),
  (.invokevirtual 63, 154, 79, 6, 0, 0, [], sgX6_spells),
  (.ifCond .eq 11, 157, 80, 84, 0, 0, [], sg0),
  (.aload_n 0, 160, 81, 0, 0, 0, [], sg0),
  (.iconst 5, 161, 82, 0, 0, 5, [], sg0),
  (.putfield 43, 162, 83, 6, 2, 0, [], sg0),
  (.goto 76, 165, 84, 117, 0, 0, [], sg0),
  (.aload_n 0, 168, 85, 0, 0, 0, [], sg0),
  (.ldc 71, 169, 86, 50, 3, 0, [], sg0),
  (.invokevirtual 63, 171, 87, 6, 0, 0, [], sgX6_spells),
  (.ifCond .eq 12, 174, 88, 92, 0, 0, [], sg0),
  (.aload_n 0, 177, 89, 0, 0, 0, [], sg0),
  (.bipush 6, 178, 90, 0, 0, 6, [], sg0),
  (.putfield 43, 180, 91, 6, 2, 0, [], sg0),
  (.goto 58, 183, 92, 117, 0, 0, [], sg0),
  (.aload_n 0, 186, 93, 0, 0, 0, [], sg0),
  (.ldc 73, 187, 94, 50, 4, 0, [], sg0),
  (.invokevirtual 63, 189, 95, 6, 0, 0, [], sgX6_spells),
  (.ifCond .eq 12, 192, 96, 100, 0, 0, [], sg0),
  (.aload_n 0, 195, 97, 0, 0, 0, [], sg0),
  (.bipush 7, 196, 98, 0, 0, 7, [], sg0),
  (.putfield 43, 198, 99, 6, 2, 0, [], sg0),
  (.goto 40, 201, 100, 117, 0, 0, [], sg0),
  (.aload_n 0, 204, 101, 0, 0, 0, [], sg0),
  (.ldc 75, 205, 102, 50, 5, 0, [], sg0),
  (.invokevirtual 63, 207, 103, 6, 0, 0, [], sgX6_spells),
  (.ifCond .eq 12, 210, 104, 108, 0, 0, [], sg0),
  (.aload_n 0, 213, 105, 0, 0, 0, [], sg0),
  (.bipush 8, 214, 106, 0, 0, 8, [], sg0),
  (.putfield 43, 216, 107, 6, 2, 0, [], sg0),
  (.goto 22, 219, 108, 117, 0, 0, [], sg0),
  (.aload_n 0, 222, 109, 0, 0, 0, [], sg0),
  (.aload_n 0, 223, 110, 0, 0, 0, [], sg0),
  (.ldc 77, 224, 111, 50, 6, 0, [], sg0),
  (.invokevirtual 63, 226, 112, 6, 0, 0, [], sgX6_spells),
  (.ifCond .eq 8, 229, 113, 115, 0, 0, [], sg0),
  (.bipush 9, 232, 114, 0, 0, 9, [], sg0),
  (.goto 4, 234, 115, 116, 0, 0, [], sg0),
  (.iconst 1, 237, 116, 0, 0, 1, [], sg0),
  (.putfield 43, 238, 117, 6, 2, 0, [], sg0),
  (.return_, 241, 118, 0, 0, 0, [], sg0),
  (.nop, 242, 119, 0, 0, 0, [], sg0)]
set_option maxRecDepth 100000 in
theorem okX6_readWord : Chk sgX6_readWord kX6_readWord := ⟨linBQ (by decide +kernel), And.intro sgSX7_at (And.intro sgSX6_isLetter (And.intro sgSX7_at (And.intro sgVX6_spells (And.intro sgVX6_spells (And.intro sgVX6_spells (And.intro sgVX6_spells (And.intro sgVX6_spells (And.intro sgVX6_spells (And.intro sgVX6_spells trivial))))))))), tb_l2 [(1, 37), (1, 39), (1, 39), (1, 31), (1, 30), (1, 39), (2, 16), (1, 39), (1, 39), (1, 30), (1, 37), (1, 39), (1, 37), (1, 35), (2, 24), (1, 34), (2, 24), (1, 34), (2, 24), (1, 34), (2, 24), (1, 34), (2, 24), (1, 34), (2, 24), (1, 34), (2, 24), (1, 34)] (by decide +kernel) (by decide +kernel), nw_l2 [(2, 10), (2, 10)] (by decide +kernel) (by decide +kernel), by decide +kernel⟩
set_option maxRecDepth 100000 in
def kX6_spells : List Row := [(.aload_n 1, 0, 1, 0, 0, 0, [], sg0),
  (.ifnull 19, 1, 2, 10, 0, 0, [], sg0),
  (.aload_n 1, 4, 3, 0, 0, 0, [], sg0),
  (.invokevirtual 79, 5, 4, 50, 0, 0, [], sgJ0_length_8abf5),
  (.aload_n 0, 8, 5, 0, 0, 0, [], sg0),
  (.getfield 23, 9, 6, 6, 5, 0, [], sg0),
  (.aload_n 0, 12, 7, 0, 0, 0, [], sg0),
  (.getfield 29, 13, 8, 6, 4, 0, [], sg0),
  (.isub, 16, 9, 0, 0, 0, [], sg0),
  (.if_icmp .eq 5, 17, 10, 12, 0, 0, [], sg0),
  (.iconst 0, 20, 11, 0, 0, 0, [], sg0),
  (.ireturn, 21, 12, 0, 0, 0, [], sg0),
  (.iconst 0, 22, 13, 0, 0, 0, [], sg0),
  (.istore_n 2, 23, 14, 0, 0, 0, [], sg0),
  (.iload_n 2, 24, 15, 0, 0, 0, [], sg0),
  (.aload_n 1, 25, 16, 0, 0, 0, [], sg0),
  (.invokevirtual 79, 26, 17, 50, 0, 0, [], sgJ0_length_8abf5),
  (.if_icmp .ge 32, 29, 18, 33, 0, 0, [], sg0),
  (.aload_n 1, 32, 19, 0, 0, 0, [], sg0),
  (.iload_n 2, 33, 20, 0, 0, 0, [], sg0),
  (.invokevirtual 85, 34, 21, 50, 0, 0, [], sgJ0_charAt_5068e),
  (.aload_n 0, 37, 22, 0, 0, 0, [], sg0),
  (.getfield 9, 38, 23, 6, 0, 0, [], sg0),
  (.aload_n 0, 41, 24, 0, 0, 0, [], sg0),
  (.getfield 29, 42, 25, 6, 4, 0, [], sg0),
  (.iload_n 2, 45, 26, 0, 0, 0, [], sg0),
  (.iadd, 46, 27, 0, 0, 0, [], sg0),
  (.invokestatic 32, 47, 28, 0, 0, 1, [], sgX7_at),
  (.if_icmp .eq 5, 50, 29, 31, 0, 0, [], sg0),
  (.iconst 0, 53, 30, 0, 0, 0, [], sg0),
  (.ireturn, 54, 31, 0, 0, 0, [], sg0),
  (.iinc 2 1, 55, 32, 0, 0, 1, [], sg0),
  (.goto (-34), 58, 33, 14, 0, 0, [], sg0),
  (.iconst 1, 61, 34, 0, 0, 1, [], sg0),
  (.ireturn, 62, 35, 0, 0, 0, [], sg0),
  (.nop, 63, 36, 0, 0, 0, [], sg0)]
set_option maxRecDepth 100000 in
theorem okX6_spells : Chk sgX6_spells kX6_spells := ⟨linBQ (by decide +kernel), And.intro sgQJ0_length_8abf5 (And.intro sgQJ0_length_8abf5 (And.intro sgQJ0_charAt_5068e (And.intro sgSX7_at trivial))), tb_l2 [(2, 28), (1, 39), (1, 37), (2, 28), (2, 38), (1, 30), (1, 37)] (by decide +kernel) (by decide +kernel), nw_l2 [(2, 10)] (by decide +kernel) (by decide +kernel), by decide +kernel⟩
set_option maxRecDepth 100000 in
def kX6_readNumber : List Row := [(.aload_n 0, 0, 1, 0, 0, 0, [], sg0),
  (.aload_n 0, 1, 2, 0, 0, 0, [], sg0),
  (.getfield 29, 2, 3, 6, 4, 0, [], sg0),
  (.putfield 23, 5, 4, 6, 5, 0, [], sg0),
  (.iconst 0, 8, 5, 0, 0, 0, [], sg0),
  (.istore_n 1, 9, 6, 0, 0, 0, [], sg0),
  (.iload_n 1, 10, 7, 0, 0, 0, [], sg0),
  (.sipush 160, 11, 8, 0, 0, 160, [], sg0),
  (.if_icmp .ge 73, 14, 9, 43, 0, 0, [], sg0),
  (.aload_n 0, 17, 10, 0, 0, 0, [], sg0),
  (.getfield 23, 18, 11, 6, 5, 0, [], sg0),
  (.aload_n 0, 21, 12, 0, 0, 0, [], sg0),
  (.getfield 15, 22, 13, 6, 1, 0, [], sg0),
  (.if_icmp .ge 62, 25, 14, 43, 0, 0, [], sg0),
  (.aload_n 0, 28, 15, 0, 0, 0, [], sg0),
  (.getfield 9, 29, 16, 6, 0, 0, [], sg0),
  (.aload_n 0, 32, 17, 0, 0, 0, [], sg0),
  (.getfield 23, 33, 18, 6, 5, 0, [], sg0),
  (.invokestatic 32, 36, 19, 0, 0, 1, [], sgX7_at),
  (.invokestatic 52, 39, 20, 0, 0, 0, [], sgX6_isDigit),
  (.ifCond .eq 45, 42, 21, 43, 0, 0, [], sg0),
  (.aload_n 0, 45, 22, 0, 0, 0, [], sg0),
  (.aload_n 0, 46, 23, 0, 0, 0, [], sg0),
  (.getfield 40, 47, 24, 6, 3, 0, [], sg0),
  (.bipush 10, 50, 25, 0, 0, 10, [], sg0),
  (.imul, 52, 26, 0, 0, 0, [], sg0),
  (.aload_n 0, 53, 27, 0, 0, 0, [], sg0),
  (.getfield 9, 54, 28, 6, 0, 0, [], sg0),
  (.aload_n 0, 57, 29, 0, 0, 0, [], sg0),
  (.getfield 23, 58, 30, 6, 5, 0, [], sg0),
  (.invokestatic 32, 61, 31, 0, 0, 1, [], sgX7_at),
  (.iadd, 64, 32, 0, 0, 0, [], sg0),
  (.bipush 48, 65, 33, 0, 0, 48, [], sg0),
  (.isub, 67, 34, 0, 0, 0, [], sg0),
  (.putfield 40, 68, 35, 6, 3, 0, [], sg0),
  (.aload_n 0, 71, 36, 0, 0, 0, [], sg0),
  (.dup, 72, 37, 0, 0, 0, [], sg0),
  (.getfield 23, 73, 38, 6, 5, 0, [], sg0),
  (.iconst 1, 76, 39, 0, 0, 1, [], sg0),
  (.iadd, 77, 40, 0, 0, 0, [], sg0),
  (.putfield 23, 78, 41, 6, 5, 0, [], sg0),
  (.iinc 1 1, 81, 42, 0, 0, 1, [], sg0),
  (.goto (-74), 84, 43, 6, 0, 0, [], sg0),
  (.aload_n 0, 87, 44, 0, 0, 0, [], sg0),
  (.aload_n 0, 88, 45, 0, 0, 0, [], sg0),
  (.getfield 23, 89, 46, 6, 5, 0, [], sg0),
  (.aload_n 0, 92, 47, 0, 0, 0, [], sg0),
  (.getfield 29, 93, 48, 6, 4, 0, [], sg0),
  (.isub, 96, 49, 0, 0, 0, [], sg0),
  (.iconst 4, 97, 50, 0, 0, 4, [], sg0),
  (.if_icmp .le 7, 98, 51, 53, 0, 0, [], sg0),
  (.iconst 1, 101, 52, 0, 0, 1, [], sg0),
  (.goto 4, 102, 53, 54, 0, 0, [], sg0),
  (.iconst 2, 105, 54, 0, 0, 2, [], sg0),
  (.putfield 43, 106, 55, 6, 2, 0, [], sg0),
  (.return_, 109, 56, 0, 0, 0, [], sg0),
  (.nop, 110, 57, 0, 0, 0, [], sg0)]
set_option maxRecDepth 100000 in
theorem okX6_readNumber : Chk sgX6_readNumber kX6_readNumber := ⟨linBQ (by decide +kernel), And.intro sgSX7_at (And.intro sgSX6_isDigit (And.intro sgSX7_at trivial)), tb_l2 [(1, 37), (1, 39), (1, 39), (1, 31), (1, 30), (1, 39), (2, 82), (1, 35), (1, 30), (1, 39), (1, 35), (1, 39), (1, 39), (1, 39), (1, 37), (1, 34)] (by decide +kernel) (by decide +kernel), nw_l2 [(2, 10), (2, 10)] (by decide +kernel) (by decide +kernel), by decide +kernel⟩
set_option maxRecDepth 100000 in
def kX6_isBlank : List Row := [(.iload_n 0, 0, 1, 0, 0, 0, [], sg0),
  (.bipush 32, 1, 2, 0, 0, 32, [], sg0),
  (.if_icmp .eq 9, 3, 3, 6, 0, 0, [], sg0),
  (.iload_n 0, 6, 4, 0, 0, 0, [], sg0),
  (.bipush 10, 7, 5, 0, 0, 10, [], sg0),
  (.if_icmp .ne 7, 9, 6, 8, 0, 0, [], sg0),
  (.iconst 1, 12, 7, 0, 0, 1, [], sg0),
  (.goto 4, 13, 8, 9, 0, 0, [], sg0),
  (.iconst 0, 16, 9, 0, 0, 0, [], sg0),
  (.ireturn, 17, 10, 0, 0, 0, [], sg0),
  (.nop, 18, 11, 0, 0, 0, [], sg0)]
set_option maxRecDepth 100000 in
theorem okX6_isBlank : Chk sgX6_isBlank kX6_isBlank := ⟨linBQ (by decide +kernel), trivial, tb_l2 [] (by decide +kernel) (by decide +kernel), nw_l2 [] (by decide +kernel) (by decide +kernel), by decide +kernel⟩
set_option maxRecDepth 100000 in
def kX6_isLetter : List Row := [(.iload_n 0, 0, 1, 0, 0, 0, [], sg0),
  (.bipush 97, 1, 2, 0, 0, 97, [], sg0),
  (.if_icmp .lt 13, 3, 3, 8, 0, 0, [], sg0),
  (.iload_n 0, 6, 4, 0, 0, 0, [], sg0),
  (.bipush 122, 7, 5, 0, 0, 122, [], sg0),
  (.if_icmp .gt 7, 9, 6, 8, 0, 0, [], sg0),
  (.iconst 1, 12, 7, 0, 0, 1, [], sg0),
  (.goto 4, 13, 8, 9, 0, 0, [], sg0),
  (.iconst 0, 16, 9, 0, 0, 0, [], sg0),
  (.ireturn, 17, 10, 0, 0, 0, [], sg0),
  (.nop, 18, 11, 0, 0, 0, [], sg0)]
set_option maxRecDepth 100000 in
theorem okX6_isLetter : Chk sgX6_isLetter kX6_isLetter := ⟨linBQ (by decide +kernel), trivial, tb_l2 [] (by decide +kernel) (by decide +kernel), nw_l2 [] (by decide +kernel) (by decide +kernel), by decide +kernel⟩
set_option maxRecDepth 100000 in
def kX6_isDigit : List Row := [(.iload_n 0, 0, 1, 0, 0, 0, [], sg0),
  (.bipush 48, 1, 2, 0, 0, 48, [], sg0),
  (.if_icmp .lt 13, 3, 3, 8, 0, 0, [], sg0),
  (.iload_n 0, 6, 4, 0, 0, 0, [], sg0),
  (.bipush 57, 7, 5, 0, 0, 57, [], sg0),
  (.if_icmp .gt 7, 9, 6, 8, 0, 0, [], sg0),
  (.iconst 1, 12, 7, 0, 0, 1, [], sg0),
  (.goto 4, 13, 8, 9, 0, 0, [], sg0),
  (.iconst 0, 16, 9, 0, 0, 0, [], sg0),
  (.ireturn, 17, 10, 0, 0, 0, [], sg0),
  (.nop, 18, 11, 0, 0, 0, [], sg0)]
set_option maxRecDepth 100000 in
theorem okX6_isDigit : Chk sgX6_isDigit kX6_isDigit := ⟨linBQ (by decide +kernel), trivial, tb_l2 [] (by decide +kernel) (by decide +kernel), nw_l2 [] (by decide +kernel) (by decide +kernel), by decide +kernel⟩
set_option maxRecDepth 100000 in
def kX6_isSign : List Row := [(.iload_n 0, 0, 1, 0, 0, 0, [], sg0),
  (.tableswitch 105 40 61 #[103, 103, 103, 103, 105, 103, 105, 105, 105, 105, 105, 105, 105, 105, 105, 105, 105, 105, 105, 103, 103, 103], 1, 2, 4, 0, 0, [2, 2, 2, 2, 4, 2, 4, 4, 4, 4, 4, 4, 4, 4, 4, 4, 4, 4, 4, 2, 2, 2], sg0),
  (.iconst 1, 104, 3, 0, 0, 1, [], sg0),
  (.ireturn, 105, 4, 0, 0, 0, [], sg0),
  (.iconst 0, 106, 5, 0, 0, 0, [], sg0),
  (.ireturn, 107, 6, 0, 0, 0, [], sg0),
  (.nop, 108, 7, 0, 0, 0, [], sg0)]
set_option maxRecDepth 100000 in
theorem okX6_isSign : Chk sgX6_isSign kX6_isSign := ⟨linBQ (by decide +kernel), trivial, tb_l2 [] (by decide +kernel) (by decide +kernel), nw_l2 [] (by decide +kernel) (by decide +kernel), by decide +kernel⟩
set_option maxRecDepth 100000 in
def kJ0_length_8abf5 : List Row := [(.aload_n 0, 0, 1, 0, 0, 0, [], sg0),
  (.getfield 9, 1, 2, 50, 1, 0, [], sg0),
  (.arraylength, 4, 3, 0, 0, 0, [], sg0),
  (.aload_n 0, 5, 4, 0, 0, 0, [], sg0),
  (.invokevirtual 335, 6, 5, 50, 0, 0, [], sgJ0_coder_7d493),
  (.ishr, 9, 6, 0, 0, 0, [], sg0),
  (.ireturn, 10, 7, 0, 0, 0, [], sg0),
  (.nop, 11, 8, 0, 0, 0, [], sg0)]
set_option maxRecDepth 100000 in
theorem okJ0_length_8abf5 : Chk sgJ0_length_8abf5 kJ0_length_8abf5 := ⟨linBQ (by decide +kernel), And.intro sgQJ0_coder_7d493 trivial, tb_l2 [(6, 62), (2, 32)] (by decide +kernel) (by decide +kernel), nw_l2 [] (by decide +kernel) (by decide +kernel), by decide +kernel⟩
set_option maxRecDepth 100000 in
def kJ0_charAt_5068e : List Row := [(.aload_n 0, 0, 1, 0, 0, 0, [], sg0),
  (.invokevirtual 492, 1, 2, 50, 0, 0, [], sgJ0_isLatin1_aae02),
  (.ifCond .eq 12, 4, 3, 8, 0, 0, [], sg0),
  (.aload_n 0, 7, 4, 0, 0, 0, [], sg0),
  (.getfield 9, 8, 5, 50, 1, 0, [], sg0),
  (.iload_n 1, 11, 6, 0, 0, 0, [], sg0),
  (.invokestatic 495, 12, 7, 0, 0, 0, [], sgJ1_charAt_3b067),
  (.ireturn, 15, 8, 0, 0, 0, [], sg0),
  (.aload_n 0, 16, 9, 0, 0, 0, [], sg0),
  (.getfield 9, 17, 10, 50, 1, 0, [], sg0),
  (.iload_n 1, 20, 11, 0, 0, 0, [], sg0),
  (.invokestatic 498, 21, 12, 0, 0, 0, [], sgJ2_charAt_3b067),
  (.ireturn, 24, 13, 0, 0, 0, [], sg0),
  (.nop, 25, 14, 0, 0, 0, [], sg0)]
set_option maxRecDepth 100000 in
theorem okJ0_charAt_5068e : Chk sgJ0_charAt_5068e kJ0_charAt_5068e := ⟨linBQ (by decide +kernel), And.intro sgQJ0_isLatin1_aae02 (And.intro sgSJ1_charAt_3b067 (And.intro sgSJ2_charAt_3b067 trivial)), tb_l2 [(2, 42), (6, 62), (2, 46), (6, 62), (2, 57)] (by decide +kernel) (by decide +kernel), nw_l2 [] (by decide +kernel) (by decide +kernel), by decide +kernel⟩
set_option maxRecDepth 100000 in
def kJ0_coder_7d493 : List Row := [(.getstatic 38, 0, 1, 51, 0, 0, [], sg0),
  (.ifCond .eq 10, 3, 2, 5, 0, 0, [], sg0),
  (.aload_n 0, 6, 3, 0, 0, 0, [], sg0),
  (.getfield 15, 7, 4, 50, 0, 0, [], sg0),
  (.goto 4, 10, 5, 6, 0, 0, [], sg0),
  (.iconst 1, 13, 6, 0, 0, 1, [], sg0),
  (.ireturn, 14, 7, 0, 0, 0, [], sg0),
  (.nop, 15, 8, 0, 0, 0, [], sg0)]
set_option maxRecDepth 100000 in
theorem okJ0_coder_7d493 : Chk sgJ0_coder_7d493 kJ0_coder_7d493 := ⟨linBQ (by decide +kernel), trivial, tb_l2 [(2, 36), (6, 63)] (by decide +kernel) (by decide +kernel), nw_l2 [] (by decide +kernel) (by decide +kernel), by decide +kernel⟩
set_option maxRecDepth 100000 in
def kJ0_isLatin1_aae02 : List Row := [(.getstatic 38, 0, 1, 51, 0, 0, [], sg0),
  (.ifCond .eq 14, 3, 2, 7, 0, 0, [], sg0),
  (.aload_n 0, 6, 3, 0, 0, 0, [], sg0),
  (.getfield 15, 7, 4, 50, 0, 0, [], sg0),
  (.ifCond .ne 7, 10, 5, 7, 0, 0, [], sg0),
  (.iconst 1, 13, 6, 0, 0, 1, [], sg0),
  (.goto 4, 14, 7, 8, 0, 0, [], sg0),
  (.iconst 0, 17, 8, 0, 0, 0, [], sg0),
  (.ireturn, 18, 9, 0, 0, 0, [], sg0),
  (.nop, 19, 10, 0, 0, 0, [], sg0)]
set_option maxRecDepth 100000 in
theorem okJ0_isLatin1_aae02 : Chk sgJ0_isLatin1_aae02 kJ0_isLatin1_aae02 := ⟨linBQ (by decide +kernel), trivial, tb_l2 [(2, 36), (6, 63)] (by decide +kernel) (by decide +kernel), nw_l2 [] (by decide +kernel) (by decide +kernel), by decide +kernel⟩
set_option maxRecDepth 100000 in
def kJ0_checkIndex_df160 : List Row := [(.iload_n 0, 0, 1, 0, 0, 0, [], sg0),
  (.iload_n 1, 1, 2, 0, 0, 0, [], sg0),
  (.getstatic 1053, 2, 3, 52, 0, 0, [], sg0),
  (.invokestatic 1059, 5, 4, 0, 0, 0, [], sgJ3_checkIndex_8e157),
  (.pop, 8, 5, 0, 0, 0, [], sg0),
  (.return_, 9, 6, 0, 0, 0, [], sg0),
  (.nop, 10, 7, 0, 0, 0, [], sg0)]
set_option maxRecDepth 100000 in
theorem okJ0_checkIndex_df160 : Chk sgJ0_checkIndex_df160 kJ0_checkIndex_df160 := ⟨linBQ (by decide +kernel), And.intro sgSJ3_checkIndex_8e157 trivial, tb_l2 [(2, 52), (2, 54)] (by decide +kernel) (by decide +kernel), nw_l2 [] (by decide +kernel) (by decide +kernel), by decide +kernel⟩
set_option maxRecDepth 100000 in
def kJ1_charAt_3b067 : List Row := [(.iload_n 1, 0, 1, 0, 0, 0, [], sg0),
  (.aload_n 0, 1, 2, 0, 0, 0, [], sg0),
  (.arraylength, 2, 3, 0, 0, 0, [], sg0),
  (.invokestatic 9, 3, 4, 0, 0, 0, [], sgJ0_checkIndex_df160),
  (.aload_n 0, 6, 5, 0, 0, 0, [], sg0),
  (.iload_n 1, 7, 6, 0, 0, 0, [], sg0),
  (.baload, 8, 7, 0, 0, 0, [], sg0),
  (.sipush 255, 9, 8, 0, 0, 255, [], sg0),
  (.iand, 12, 9, 0, 0, 0, [], sg0),
  (.i2c, 13, 10, 0, 0, 0, [], sg0),
  (.ireturn, 14, 11, 0, 0, 0, [], sg0),
  (.nop, 15, 12, 0, 0, 0, [], sg0)]
set_option maxRecDepth 100000 in
theorem okJ1_charAt_3b067 : Chk sgJ1_charAt_3b067 kJ1_charAt_3b067 := ⟨linBQ (by decide +kernel), And.intro sgSJ0_checkIndex_df160 trivial, tb_l2 [(2, 49)] (by decide +kernel) (by decide +kernel), nw_l2 [] (by decide +kernel) (by decide +kernel), by decide +kernel⟩
set_option maxRecDepth 100000 in
def kJ3_checkIndex_8e157 : List Row := [(.iload_n 0, 0, 1, 0, 0, 0, [], sg0),
  (.ifCond .lt 8, 1, 2, 5, 0, 0, [], sg0),
  (.iload_n 0, 4, 3, 0, 0, 0, [], sg0),
  (.iload_n 1, 5, 4, 0, 0, 0, [], sg0),
  (.if_icmp .lt 10, 6, 5, 10, 0, 0, [], sg0),
  (.aload_n 2, 9, 6, 0, 0, 0, [], sg0),
  (.iload_n 0, 10, 7, 0, 0, 0, [], sg0),
  (.iload_n 1, 11, 8, 0, 0, 0, [], sg0),
  (.nop, 12, 9, 0, 0, 0, [], sg0),
  (.nop, 15, 10, 0, 0, 0, [], sg0),
  (.iload_n 0, 16, 11, 0, 0, 0, [], sg0),
  (.ireturn, 17, 12, 0, 0, 0, [], sg0),
  (.nop, 18, 13, 0, 0, 0, [], sg0)]
set_option maxRecDepth 100000 in
theorem okJ3_checkIndex_8e157 : Chk sgJ3_checkIndex_8e157 kJ3_checkIndex_8e157 := ⟨linBQ (by decide +kernel), trivial, tb_l2 [] (by decide +kernel) (by decide +kernel), nw_l2 [] (by decide +kernel) (by decide +kernel), by decide +kernel⟩
