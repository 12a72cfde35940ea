/** The document's part ==== 3., up to its rows on exceptions: all that is asked of a republic, sentence by sentence. */
public final class QuestionTest extends Check {
    private static final String ONE = "citizen fear 0 does 00";
    private static final String TWELVE = repeat("never 0;", 11) + "never 0";

    private static void matters() {
        EarCode x = make("never 1;never 1 if place>3;always 1 if who<1;never 1;always 1",
                ONE + " knows 1 2;" + ONE + " knows 0;" + ONE + " knows 3 4;seen 2 17");
        x.die(2);
        says("Of a MATTER and a CITIZEN now: FORBIDDEN by: CLAUSES IN FORCE that do, as bits");
        is("at 3", x.matter(11, 0, 0), 1);
        is("at 4", x.matter(12, 0, 0), 3);
        is("another deed", x.matter(7, 0, 0), 0);
        is("another deed behind", x.matter(16, 0, 0), 0);
        EarCode all = make(repeat("never 7;", 11) + "never 7", ONE + " knows 0 1 2 3 4 5 6 7 8 9 10 11");
        is("all twelve", all.matter(63, 0, 0), 4095);
        is("without a code", make(null, ONE).matter(63, 0, 0), 0);
        says("DEMANDED likewise");
        is("of 0", x.matter(8, 0, 1), 4);
        is("of 1", x.matter(8, 1, 1), 0);
        says("MAY: none that one KNOWS FORBIDS it");
        is("0 at 3: clause 0 is not known", x.matter(11, 0, 2), 1);
        is("0 at 4", x.matter(12, 0, 2), 0);
        is("1 at 3", x.matter(11, 1, 2), 0);
        says("DARES: that, and it is not SEEN.");
        EarCode y = make("never 1 if place>3", ONE + " knows 0;seen 0 13;seen 0 14");
        is("may, not seen", y.matter(10, 0, 3), 1);
        is("may, but seen", y.matter(11, 0, 2) * 10 + y.matter(11, 0, 3), 10);
        is("may not, and seen", y.matter(12, 0, 3), 0);
        is("may not", y.matter(13, 0, 3), 0);
        says("NOBODY: DEEDS that are FORBIDDEN (IN FORCE) to all ALIVE at all PLACES, as bits (0 without anybody).");
        EarCode z = make("never 0;never 7 if place<4;never 7 if place>3;never 1 if place<7;never 2 if who<1;never 3;always 4;never 5 if place>0",
                ONE + " knows 0 1 2 3 4 6 7;" + ONE);
        is("0 by one clause, 7 by two", z.nobody(), 129);
        z.die(1);
        is("2 to 0 alone", z.nobody(), 133);
        z.die(0);
        is("without anybody", z.nobody(), 0);
        is("of an empty republic", make("never 0").nobody(), 0);
        is("not in force", make("never 0", ONE).nobody(), 0);
    }

    private static void contradictions() {
        says("CONTRADICT: two CLAUSES, a never and an always one, whatever is IN FORCE, that FORBID and DEMAND one MATTER of some CITIZEN ALIVE now: a CLAUSE's such others, as bits.");
        EarCode x = make("never 7 if place>6;always 7 if place>5;always 7 if place<7;never 7 if place<1;never 6;always 7 if who>0;always 7 if day>0", ONE + ";" + ONE);
        is("0: at place 7, of 1 too", x.clause(0, 4), 2 | 32);
        is("1", x.clause(1, 4), 1);
        is("2", x.clause(2, 4), 8);
        is("3", x.clause(3, 4), 4 | 32);
        is("another deed", x.clause(4, 4), 0);
        x.days(1);
        is("a day later", x.clause(0, 4), 2 | 32 | 64);
        x.die(1);
        is("of 0 alone", x.clause(0, 4), 2 | 64);
        x.die(0);
        is("of nobody", x.clause(0, 4), 0);
        EarCode two = make("never 1;never 1;always 2;always 2", ONE);
        is("two of a kind do not", two.clause(0, 4) + two.clause(2, 4), 0);
        EarCode last = make(repeat("never 3;", 11) + "always 3", ONE);
        is("the last with all others", last.clause(11, 4), 2047);
        is("the first with the last", last.clause(0, 4), 2048);
        EarCode wide = make("never 7;always 7 if place<1;always 7 if place>6;never 7 if place>0;always 7", ONE);
        is("at several places", wide.clause(0, 4), 2 | 4 | 16);
        is("at several places, of an always one", wide.clause(4, 4), 1 | 8);
        says("RELIEF: the fewest CLAUSES that must be none, so that no two left CONTRADICT: of several the least as bits.");
        is("one always against eleven", last.relief(), 2048);
        is("one against one: the least", make("always 3;never 3", ONE).relief(), 1);
        is("two against two: the least", make("never 3;always 3;never 3;always 3", ONE).relief(), 5);
        is("six pairs", make("never 0;always 0;never 1;always 1;never 2;always 2;never 3;always 3;never 4;always 4;never 5;always 5", ONE).relief(), 0x555);
        is("none contradicts", two.relief(), 0);
        EarCode fewer = make("never 1 if who>0;always 1;never 2;always 2 if feast", ONE + ";" + ONE);
        is("both pairs", fewer.relief(), 5);
        fewer.die(1);
        is("when 1 is dead", fewer.relief(), 4);
        fewer.days(1);
        is("when it is no feast", fewer.relief(), 0);
        is("nobody", make("never 0;always 0").relief(), 0);
        is("no code", new EarCode().relief(), 0);
    }

    private static void reading() {
        EarCode x = make("never 1;never 1 if place>3;always 1;never 2 if who>0;never 1 if known>0", ONE + ";" + ONE + " knows 0;" + ONE);
        x.die(2);
        says("READ: some were watched today: MATTERS of told CITIZENS ALIVE, each done and TAKEN for it, or not TAKEN (all are who break it)");
        is("of 0", readOf(x, 0, 0, 8, 1), 8);
        is("of 1 and 0", readOf(x, 0, 1, 8, 1, 0, 8, 0), 4);
        is("one told twice", readOf(x, 0, 0, 8, 1, 0, 8, 1), 8);
        fails("a dead one", ARGUMENT, () -> readOf(x, 0, 2, 8, 1));
        EarCode feast = make("never 1 if feast;never 1 if day>0", ONE);
        is("on day 0", readOf(feast, 1, 0, 8, 1), 1);
        feast.days(1);
        is("today is day 1", readOf(feast, 1, 0, 8, 1), 2);
        watched(x, whole(0, 8, 1));
        is("as many rows as fit: 133", x.read(0), 8);
        says("CODES: sets of never CLAUSES by which all that were TAKEN, and no others, did what some CLAUSE of the set FORBIDS: how many");
        is("all sets of four", readOf(x, 0), 16);
        is("taken: 0 at 4: of clauses 0, 1 one at least", readOf(x, 0, 0, 12, 1), 12);
        is("not taken: neither", readOf(x, 0, 0, 12, 0), 4);
        is("none fits", readOf(x, 0, 0, 12, 1, 0, 12, 0), 0);
        is("taken for what no clause forbids", readOf(x, 0, 0, 0, 1), 0);
        is("not taken for what no clause forbids", readOf(x, 0, 0, 0, 0), 16);
        is("of twelve never clauses", readOf(make(TWELVE, ONE), 0), 4096);
        is("one at least of twelve", readOf(make(TWELVE, ONE), 0, 0, 0, 1), 4095);
        is("none of twelve", readOf(make(TWELVE, ONE), 0, 0, 0, 0), 1);
        is("of always clauses none", readOf(make("always 1", ONE), 0), 1);
        is("of no code the empty one", readOf(new EarCode(), 0), 1);
        is("two taken by two clauses: of 0, 4 and of 0, 1 one at least", readOf(x, 0, 0, 12, 1, 1, 8, 1), 10);
        is("and a third", readOf(x, 0, 0, 12, 1, 1, 8, 1, 1, 16, 1), 5);
        is("two not taken", readOf(x, 0, 0, 8, 0, 1, 16, 0), 4);
        is("three not taken", readOf(x, 0, 0, 12, 0, 1, 16, 0, 1, 8, 0), 1);
        says("SURE: CLAUSES in all of them, as bits");
        is("nothing", readOf(x, 1), 0);
        is("3 of 1 at deed 2", readOf(x, 1, 1, 16, 1), 8);
        is("4: 0 is not taken where 1 is", readOf(x, 1, 1, 8, 1, 0, 8, 0), 16);
        is("without codes", readOf(x, 1, 0, 12, 1, 0, 12, 0), 0);
        is("without a code", readOf(new EarCode(), 1), 0);
        says("POSSIBLE: in some.");
        is("all never clauses", readOf(x, 2), 27);
        is("but 0 and 1", readOf(x, 2, 0, 12, 0), 24);
        is("without codes", readOf(x, 2, 0, 12, 1, 0, 12, 0), 0);
        is("the last of twelve", readOf(make(TWELVE, ONE), 2), 4095);
        says("NEXT to be watched, of a CITIZEN: the MATTER that splits these CODES best: that in which the greater part is the least");
        // Of 0: at 8 by clause 0 alone 8 and 8; deed 2 is nothing to 0.
        is("of 0", nextOf(x, 0), 8);
        // Of 1: at 8 by 0 and 4 12 and 4; at 16 by 3 8 and 8.
        is("of 1", nextOf(x, 1), 16);
        is("behind 0's", nextOf(x, 1, 0, 12, 0), 8);
        is("the last matter", nextOf(make("never 7 if place>6", ONE), 0), 63);
        is("of twelve clauses", nextOf(make(repeat("never 0;", 11) + "never 7 if place>6", ONE), 0), 63);
        says("(of several the least MATTER; none with fewer than two CODES).");
        is("nothing splits: the least", nextOf(make("never 1 if who>0", ONE + ";" + ONE), 0), 0);
        is("two codes", nextOf(make("never 1", ONE), 0), 8);
        is("one code", nextOf(make("never 1", ONE), 0, 0, 8, 1), -1);
        is("no code", nextOf(make("never 1", ONE), 0, 0, 0, 1), -1);
        is("without a text", nextOf(make(null, ONE), 0), -1);
    }

    /** One row as often as the tape has room for it. */
    private static int[] whole(int... row) {
        int[] rows = new int[399];
        for (int i = 0; i < rows.length; i++) {
            rows[i] = row[i % 3];
        }
        return rows;
    }

    private static void knowers() {
        says("COVER: the fewest CITIZENS ALIVE who together KNOW all CLAUSES IN FORCE: of several the least as bits.");
        EarCode x = make("never 0;never 0;never 0", ONE + " knows 0;" + ONE + " knows 1;" + ONE + " knows 0 1;" + ONE + " knows 1 0;" + ONE);
        is("2, not 3, nor 0 and 1", x.cover(), 4);
        x.die(2);
        is("3", x.cover(), 8);
        x.die(3);
        is("0 and 1", x.cover(), 3);
        x.die(0);
        x.die(1);
        is("nothing in force", x.cover(), 0);
        x.die(4);
        is("nobody", x.cover(), 0);
        StringBuilder ten = new StringBuilder();
        for (int c = 0; c < 10; c++) {
            ten.append(c == 0 ? "" : ";").append(ONE).append(" knows ").append(c);
        }
        EarCode y = make(TWELVE, ten.toString());
        is("all ten", y.cover(), 1023);
        says("DIES with one: CLAUSES that are IN FORCE by that one alone, as bits.");
        EarCode z = make(TWELVE, ONE + " knows 0 5 11;" + ONE + " knows 5;" + ONE + " knows 11 7");
        is("0", z.dies(0), 1);
        is("1", z.dies(1), 0);
        z.die(2);
        is("0 when 2 is dead", z.dies(0), 1 | 2048);
        z.die(1);
        is("0 alone", z.dies(0), 1 | 32 | 2048);
        EarCode lasts = make(TWELVE, ONE + " knows 0;" + ONE + " knows 0 3;" + repeat(ONE + ";", 7) + ONE + " knows 11 0");
        is("1", lasts.dies(1), 8);
        is("5", lasts.dies(5), 0);
        is("9", lasts.dies(9), 2048);
        says("HEIRS for K (1 to 10): how often somebody must be TOLD in all, so that each CLAUSE IN FORCE is known by K ALIVE at least");
        EarCode h = make(TWELVE, ONE + " knows 0 1;" + ONE + " knows 0;" + ONE + " knows 0 2;" + ONE + " knows 3");
        h.die(3);
        is("1", h.heirs(1), 0);
        is("2", h.heirs(2), 2);
        is("3", h.heirs(3), 4);
        is("of ten", y.heirs(10), 90);
        is("of ten by one", y.heirs(1), 0);
        is("nothing in force", make("never 0", ONE).heirs(1), 0);
        fails("0", ARGUMENT, () -> h.heirs(0));
        fails("11", ARGUMENT, () -> h.heirs(11));
        says("none, if fewer than K are ALIVE.");
        is("4 of 3", h.heirs(4), -1);
        y.die(9);
        is("10 of 9", y.heirs(10), -1);
        is("9 of 9", y.heirs(9), 72);
        is("of nobody", new EarCode().heirs(1), -1);
        says("POOLED: CLAUSES that one or the SPOUSE KNOWS, as bits.");
        EarCode p = make(TWELVE, ONE + " knows 0;" + ONE + " knows 11;" + ONE + ";wed 0 1");
        is("wed", p.citizen(0, 7), 2049);
        p.tell(1, 4);
        is("what the spouse knows later", p.citizen(0, 7), 2065);
        is("one's own", p.citizen(0, 1), 2049);
        is("without a spouse", p.citizen(2, 7), 0);
        p.die(1);
        is("of the dead spouse no more", p.citizen(0, 7), 2049);
        is("of the dead one", p.citizen(1, 7), 2065);
    }

    private static void risks() {
        says("RISK of a CITIZEN by N DAYS (1 to 60) from now on: on how many of these the MATTER of the HABIT is one that some CLAUSE IN FORCE FORBIDS, and none that one KNOWS does");
        EarCode x = make("never 1;never 1 if place>3;never 2", "citizen fear 0 does 11 14 22 knows 1;citizen fear 0 does 33 knows 0");
        is("a day", x.risk(0, 1), 1);
        is("two: the second one knows", x.risk(0, 2), 1);
        is("three: the third is not in force", x.risk(0, 3), 1);
        is("four", x.risk(0, 4), 2);
        is("sixty", x.risk(0, 60), 20);
        fails("0", ARGUMENT, () -> x.risk(0, 0));
        fails("61", ARGUMENT, () -> x.risk(0, 61));
        is("all of sixty", make("never 0", ONE + ";citizen fear 0 does 11 knows 0").risk(0, 60), 60);
        says("(all as it is now but for DAY; TAKEN not looked at).");
        EarCode y = make("never 1 if day>59;never 1 if feast", "citizen fear 0 does 11;citizen fear 0 does 66 knows 0");
        is("up to day 59", y.risk(0, 60), 0);
        y.days(1);
        is("up to day 60", y.risk(0, 60), 1);
        EarCode z = make("never 1 if feast", "citizen fear 0 does 11;citizen fear 0 does 66 knows 0");
        is("feasts 0 to 7", z.risk(0, 8), 2);
        is("feasts 0 to 6", z.risk(0, 7), 1);
        is("taken today", z.days(1), 1);
        is("taken, but at risk on day 7", z.risk(0, 7), 1);
        is("taken, days 1 to 6", z.risk(0, 6), 0);
        EarCode taken = make("never 1", "citizen fear 0 does 11;citizen fear 0 does 66 knows 0;term 30");
        taken.days(1);
        is("taken for thirty", taken.risk(0, 5), 5);
        says("SAFE: the first MATTER of a DEED (PLACES by numbers) that is not FORBIDDEN IN FORCE to one now; none.");
        EarCode s = make("never 1 if place<7;never 2;never 3 if place<1 and who<1;never 4", ONE + " knows 0 1 2;" + ONE);
        is("the last", s.safe(0, 1), 7);
        is("none", s.safe(0, 2), -1);
        is("the second", s.safe(0, 3), 1);
        is("to 1 the first", s.safe(1, 3), 0);
        is("not in force", s.safe(0, 4), 0);
        is("deed 7", s.safe(0, 7), 0);
        says("BETTER: by how many MATTERS (0 on) the HABIT should go on from a later one now, so that RISK in N DAYS is the least (of several the least).");
        EarCode b = make("never 1", "citizen fear 0 does 11 12 13 14 15 20;citizen fear 0 does 66 knows 0;citizen fear 0 does 11;citizen fear 0 does 11 20 12 21");
        is("the last of six", b.better(0, 1), 5);
        is("two days: 15 and 20, or 20 and 11", b.better(0, 2), 4);
        is("six days", b.better(0, 6), 0);
        is("seven days: 11 twice, or 20", b.better(0, 7), 5);
        is("of one matter", b.better(2, 60), 0);
        is("of several the least", b.better(3, 1), 1);
        b.days(1);
        is("from the next one on", b.better(0, 1), 4);
        is("nothing is forbidden", make("", "citizen fear 0 does 11 22").better(0, 60), 0);
        is("by day as well", make("never 1 if day<1;never 2 if day>0", "citizen fear 0 does 11 22;citizen fear 0 does 66 knows 0 1").better(0, 2), 1);
    }

    private static void tellings() {
        says("TELLING by N DAYS (1 to 60): of all CITIZENS ALIVE and CLAUSES IN FORCE that one does not KNOW: the pair (the least CITIZEN, then CLAUSE, of several) by which, if that one were TOLD it, RISK of all ALIVE together is the least");
        EarCode x = make("never 1;never 2;never 3;never 2", "citizen fear 0 does 11 20 20;citizen fear 0 does 21 22;citizen fear 0 does 66 knows 0 1 3");
        is("a day: 0 of 0", x.telling(1, false), 0);
        is("two days: 1 of 1", x.telling(2, false), 101);
        is("sixty days", x.telling(60, false), 101);
        x.die(1);
        is("three days: 0 of 1", x.telling(3, false), 1);
        fails("0", ARGUMENT, () -> x.telling(0, false));
        fails("61", ARGUMENT, () -> x.telling(61, false));
        EarCode last = make(TWELVE, repeat(ONE + ";", 9) + ONE + " knows 11");
        is("the least of nine", last.telling(1, false), 11);
        for (int c = 0; c < 9; c++) {
            last.tell(c, 11);
        }
        is("none", last.telling(1, false), -1);
        is("none: 0", last.telling(1, true), 0);
        EarCode nine = make(TWELVE, "citizen fear 0 does 66 knows 11;" + repeat("citizen fear 0 does 66;", 8) + ONE);
        is("9 of 11", nine.telling(1, false), 911);
        is("nobody", new EarCode().telling(60, false), -1);
        is("nobody: 0", new EarCode().telling(60, true), 0);
        says("by how much it is less than now (it may be below 0).");
        EarCode now = make("never 1", "citizen fear 0 does 11 22;citizen fear 0 does 66 knows 0");
        is("by the matter of today", now.telling(1, true), 1);
        is("by two of three", now.telling(3, true), 2);
        now.days(1);
        is("not by that of tomorrow", now.telling(1, true), 0);
        is("by none", make("never 1", ONE + ";" + ONE + " knows 0").telling(5, true), 0);
        is("by all", nine.telling(60, true), 60);
        // Whoever is told 1 knows two, and does what 0 forbids to such; 0 is known by a citizen who does it not.
        EarCode below = make("never 1 if known>1;never 5;never 6", "citizen fear 0 does 11 knows 2;citizen fear 0 does 77 knows 0 1 2");
        is("told 1: at risk; told 0: not", below.telling(4, false), 0);
        is("by nothing", below.telling(4, true), 0);
        EarCode worse = make("never 5;never 1 if who<1 and known>1 and known<3;never 1 if who<1 and known>2", "citizen fear 0 does 11 knows 1 2;citizen fear 0 does 77 knows 0 1 2");
        is("the only pair", worse.telling(4, false), 0);
        is("what one knows forbids it then, too", worse.telling(4, true), 0);
        EarCode minus = make("never 7 if who>5;never 1 if known>1;always 7", "citizen fear 0 does 11 knows 0;citizen fear 0 does 22 knows 0 2;citizen fear 0 does 22 knows 0 1 2");
        minus.tell(1, 1);
        is("1 helps 0", minus.telling(4, false), 1);
        EarCode minusOnly = make("never 6;always 7;never 1 if known>1 and who<1", "citizen fear 0 does 11 knows 0;citizen fear 0 does 66 knows 0 1 2");
        is("told 2: not at risk", minusOnly.telling(4, false), 2);
        EarCode pair = make("never 6;never 1 if known>0 and known<2", "citizen fear 0 does 11;citizen fear 0 does 66 knows 0 1");
        is("told 0: at risk; told 1: not", pair.telling(4, false), 1);
        EarCode unknown = make("never 6;never 1 if known>2;never 5", "citizen fear 0 does 11 knows 1 2;citizen fear 0 does 66 knows 0 1");
        is("told 0: one keeps from it", unknown.telling(4, true), 0);
        belowNothing();
    }

    private static void belowNothing() {
        // 0 knows all but clause 0. Told it, one knows two: clause 1, which 0 knows, forbids deed 1 to who knows one
        // alone; clause 2, which is unknown to 0 as well, forbids it to who knows two.
        EarCode x = make("never 6;never 6 if feast;never 1 if known>1", "citizen fear 0 does 11 knows 1;citizen fear 0 does 66 knows 0 1 2");
        is("told 2 it is no risk", x.telling(6, false), 2);
        EarCode y = make("never 6;never 6;never 1 if known>1 and known<4", "citizen fear 0 does 11 knows 0;citizen fear 0 does 66 knows 0 1 2");
        is("of 1 and 2: 2", y.telling(6, false), 2);
        is("by 0", y.telling(6, true), 0);
        // The only pairs bring risk to 0: each makes 1 known clause more, and what forbids it then is the other one.
        EarCode z = make("never 1 if known>0 and day<9;never 1 if known>0 and day<3", "citizen fear 0 does 11;citizen fear 0 does 66 knows 0 1");
        is("told 0 keeps from all of it", z.telling(9, false), 0);
        EarCode w = make("never 1 if known>0 and day<3;never 1 if known>0 and day>2", "citizen fear 0 does 11;citizen fear 0 does 66 knows 0 1");
        is("told 0: at risk behind day 2", w.telling(9, true), -3);
        is("so 1 is better by far", w.telling(9, false), 1);
        is("of 6 both are alike", w.telling(6, false), 0);
        is("by -3", w.telling(6, true), -3);
        is("of 3: told 0 no risk", w.telling(3, false) * 10 + w.telling(3, true), 0);
        is("of sixty", w.telling(60, true), -3);
    }

    private static void fears() {
        says("DEDUCED by one: CLAUSES IN FORCE that one does not KNOW and that FORBID one, as it is now, some MATTER that one has SEEN, as bits.");
        EarCode x = make("never 0;never 7 if place>6;never 7;never 7 if who>0;never 7 if day>0;always 7;never 7;never 7 if known>1",
                ONE + " knows 2;citizen fear 0 does 66 knows 0 1 3 4 5 7;seen 0 77;seen 0 00;seen 0 33");
        is("0 and 1", x.deduced(0), 3);
        is("nothing seen", x.deduced(1), 0);
        x.days(1);
        is("4 a day later", x.deduced(0), 19);
        x.tell(0, 0);
        is("0 is known now, 7 forbids it to who knows two", x.deduced(0), 2 | 16 | 128);
        x.die(1);
        is("none is in force any more", x.deduced(0), 0);
        is("0 is in force, but forbids nothing seen", make("never 0;never 1", ONE + ";" + ONE + " knows 0 1;seen 0 11").deduced(0), 2);
        says("HUSH of a DEED: PLACES at which nobody ALIVE MAY do it, as bits (0 without anybody).");
        EarCode h = make("never 7 if place<1;never 7 if place>6;never 0", ONE + " knows 0 1;" + ONE + " knows 0;" + ONE);
        is("2 may all", h.hush(7), 0);
        h.die(2);
        is("at 0", h.hush(7), 1);
        h.die(1);
        is("at 0 and 7", h.hush(7), 129);
        is("not known", h.hush(0), 0);
        h.tell(0, 2);
        is("everywhere", h.hush(0), 255);
        is("not the deed behind it", make("never 1", ONE + " knows 0").hush(0), 0);
        is("nor the one ahead", make("never 1", ONE + " knows 0").hush(2), 0);
        h.die(0);
        is("without anybody", h.hush(0), 0);
        is("of an empty republic", new EarCode().hush(7), 0);
        says("USUAL at a PLACE: the DEED that most MATTERS of the HABITS of all ALIVE tell there (of several the least); none.");
        EarCode u = make(null, "citizen fear 0 does 70 70 50;citizen fear 0 does 50 07;citizen fear 0 does 07 17 17");
        is("5 and 7 twice each", u.usual(0), 5);
        is("at 7", u.usual(7), 0);
        is("at 3", u.usual(3), -1);
        u.die(0);
        is("of all alive", u.usual(0), 5);
        u.die(1);
        is("none", u.usual(0), -1);
        is("1 twice at 7", u.usual(7), 1);
        u.die(2);
        is("without anybody", u.usual(7), -1);
        says("FEARED by all: MATTERS that all ALIVE have SEEN, as bits of a long");
        EarCode f = make(null, ONE + ";" + ONE + ";" + ONE + ";seen 0 00;seen 0 37;seen 0 77;seen 1 77;seen 1 37;seen 2 11");
        is("three", f.feared(true), 0);
        f.die(2);
        is("two", f.feared(true), 1L << 63 | 1L << 31);
        is("not what 0 alone has not", make(null, ONE + ";" + ONE + ";seen 1 77").feared(true), 0);
        is("not what the last alone has not", make(null, ONE + ";" + ONE + ";seen 0 77").feared(true), 0);
        says("by nobody.");
        is("two", f.feared(false), ~(1L << 63 | 1L << 31 | 1L));
        f.die(0);
        is("one", f.feared(false), ~(1L << 63 | 1L << 31));
        f.die(1);
        is("nobody", f.feared(true) | f.feared(false), 0);
        is("nobody has seen anything", make(null, ONE).feared(false), -1L);
    }

    private static void customs() {
        says("CUSTOM of N ROUNDS (0 to 30): all at once each one ALIVE has SEEN also what more than half of the others ALIVE have: how many MATTERS all have SEEN in sum then (nothing stays).");
        // Of five: 00 by two (half of the others of a third), 77 by three (more than half), 11 by one.
        EarCode x = make(null, repeat(ONE + ";", 4) + ONE + ";seen 0 00;seen 1 00;seen 1 77;seen 2 77;seen 3 77;seen 4 11");
        is("0 rounds", x.custom(0), 6);
        is("1", x.custom(1), 8);
        is("30", x.custom(30), 8);
        is("nothing stays", x.custom(0), 6);
        is("nor is seen", x.seen(0), 1);
        fails("-1", ARGUMENT, () -> x.custom(-1));
        fails("31", ARGUMENT, () -> x.custom(31));
        x.die(4);
        // Of four: 00 by two of three others (more than half); 11 is the dead one's.
        is("the others alive", x.custom(1), 4 + 4 + 1);
        EarCode two = make(null, ONE + ";" + ONE + ";seen 0 77");
        is("one of one other", two.custom(1), 2);
        is("one alone", make(null, ONE + ";seen 0 77").custom(30), 1);
        is("nobody", new EarCode().custom(30), 0);
        EarCode three = make(null, ONE + ";" + ONE + ";" + ONE + ";seen 0 77");
        is("one of two others is half", three.custom(30), 1);
        says("SETTLES: behind how many ROUNDS (0 to 30) nobody SEES more; none.");
        is("behind one", x.settles(), 1);
        is("behind one, of two", two.settles(), 1);
        is("at once", three.settles(), 0);
        is("nobody", new EarCode().settles(), 0);
        is("nothing stays", x.custom(0), 6);
        says("PROVOKED: a MATTER of one's HABIT is worth HARM of its DEED, or, if it is FORBIDDEN IN FORCE to one now, as much below 0: the greatest worth of all");
        EarCode p = make("never 1;never 2 if feast;never 3;never 7", "citizen fear 0 does 11 22 33;citizen fear 0 does 11 knows 0 1 3;citizen fear 0 does 70;harm 1 99;harm 2 98;harm 3 5;harm 7 0");
        is("-99, -98, 5", p.provoked(0, false), 5);
        is("-99", p.provoked(1, false), -99);
        is("0 is not below 0", p.provoked(2, false), 0);
        p.days(1);
        is("-99, 98, 5", p.provoked(0, false), 98);
        says("the greatest of all others, if that MATTER (the first such place of the HABIT) is kept from one (0 with one MATTER).");
        is("5", p.provoked(0, true), 5);
        is("with one", p.provoked(1, true), 0);
        EarCode q = make("never 1", "citizen fear 0 does 22 33 22;citizen fear 0 does 11 12 knows 0;citizen fear 0 does 11 22;harm 2 9;harm 3 8");
        is("another place of the same", q.provoked(0, true), 9);
        is("below 0", q.provoked(1, true), -1);
        is("the least of two", q.provoked(2, true), -1);
    }

    private static void daysAhead() {
        says("CROWD of a PLACE on a DAY from now on (0 to 60 DAYS ahead): CITIZENS ALIVE whose HABIT is there then, as bits.");
        EarCode x = make(null, "citizen fear 0 does 00 17;citizen fear 0 does 07;citizen fear 0 does 27 20 30;citizen fear 0 does 07");
        x.die(3);
        is("now at 0", x.crowd(0, 0), 1);
        is("now at 7", x.crowd(7, 0), 6);
        is("tomorrow at 7", x.crowd(7, 1), 3);
        is("in 60 days at 7", x.crowd(7, 60), 6);
        is("in 59 days at 0", x.crowd(0, 59), 4);
        is("at 3", x.crowd(3, 5), 0);
        fails("-1", ARGUMENT, () -> x.crowd(0, -1));
        fails("61", ARGUMENT, () -> x.crowd(0, 61));
        x.days(1);
        is("a day later", x.crowd(7, 0), 3);
        is("all ten", make(null, repeat("citizen fear 0 does 77;", 9) + "citizen fear 0 does 07").crowd(7, 60), 1023);
        is("nobody", new EarCode().crowd(7, 60), 0);
        says("WITNESSES of two (ALIVE or not): on how many of N DAYS from now on both HABITS are at one PLACE.");
        EarCode w = make(null, "citizen fear 0 does 00 17;citizen fear 0 does 07;citizen fear 0 does 27 20 30;citizen fear 0 does 37");
        is("one day", w.witnesses(0, 1, 1), 0);
        is("two days", w.witnesses(0, 1, 2), 1);
        is("sixty", w.witnesses(0, 1, 60), 30);
        is("0 and 2: of six days 2, 3 and 4", w.witnesses(0, 2, 6), 3);
        is("as 2 and 0", w.witnesses(2, 0, 6), 3);
        w.die(3);
        is("with a dead one", w.witnesses(3, 1, 60), 60);
        w.die(1);
        is("two dead ones", w.witnesses(1, 3, 60), 60);
        fails("0", ARGUMENT, () -> w.witnesses(0, 1, 0));
        fails("61", ARGUMENT, () -> w.witnesses(0, 1, 61));
        says("TRIAL of N DAYS (0 to 40) from now (draws, too; nothing stays): how often somebody was TAKEN in it; HARM in it; who is TAKEN then, as bits; how many MATTERS all have SEEN in sum.");
        EarCode t = make("never 1", "citizen fear 0 does 11;citizen fear 0 does 21;citizen fear 0 does 66 knows 0;harm 1 7;term 1");
        is("0 days", t.trial(0, 0) + t.trial(0, 1) + t.trial(0, 2) + t.trial(0, 3), 0);
        is("taken in 40", t.trial(40, 0), 20);
        is("harm in 40", t.trial(40, 1), 140);
        is("who then", t.trial(40, 2), 0);
        is("who behind 39", t.trial(39, 2), 1);
        is("seen by 0 and 1", t.trial(40, 3), 2);
        is("nothing stays", t.count(4) + t.count(7) + t.count(8) + t.count(10) + t.count(13), 0);
        is("nor the draws", t.seed(1), 1);
        is("days", t.days(3), 2);
        is("in one more", t.trial(1, 0) * 100 + t.trial(1, 1), 0);
        is("in two more", t.trial(2, 0) * 100 + t.trial(2, 1), 107);
        is("who is taken now", t.trial(0, 2), 1);
        fails("-1", ARGUMENT, () -> t.trial(-1, 0));
        fails("41", ARGUMENT, () -> t.trial(41, 0));
        EarCode d = make("never 1", "citizen fear 0 does 11;citizen fear 0 does 66 knows 0;watch 50");
        d.seed(seedFor(49));
        is("by the draw: taken", d.trial(1, 0), 1);
        d.seed(seedFor(50));
        is("by the draw: not", d.trial(1, 0), 0);
        is("nobody", new EarCode().trial(40, 3), 0);
    }

    /** Of nine who break the code on one day, the fewest or the most that are taken, from these seeds. */
    private static int extreme(int watch, int first, int last, boolean most) {
        int best = -1;
        for (int seed = first; seed <= last; seed++) {
            int taken = 0;
            int now = seed;
            for (int i = 0; i < 9; i++) {
                taken += draw(now) < watch ? 1 : 0;
                now = drawn(now);
            }
            best = best < 0 ? taken : most ? Math.max(best, taken) : Math.min(best, taken);
        }
        return best;
    }

    private static void spans() {
        says("SPAN: the fewest and the most TAKEN in such TRIALS from SEED 1, 2, .. 6.");
        boolean[] matter = new boolean[8];
        for (int watch = 0; watch <= 100; watch++) {
            EarCode x = make("never 1", repeat("citizen fear 0 does 11;", 9) + "citizen fear 0 does 66 knows 0;watch " + watch);
            x.seed(99);
            is("the fewest at " + watch, x.span(1, false), extreme(watch, 1, 6, false));
            is("the most at " + watch, x.span(1, true), extreme(watch, 1, 6, true));
            is("the seed stays", x.seed(0), 99);
            is("days stay", x.count(4) + x.count(13), 0);
            int[][] others = {{0, 6, 0}, {1, 7, 7}, {1, 5, 6}, {2, 6, 1}};
            for (int[] other : others) {
                matter[other[2]] |= extreme(watch, other[0], other[1], false) != extreme(watch, 1, 6, false);
                matter[other[2]] |= extreme(watch, other[0], other[1], true) != extreme(watch, 1, 6, true);
            }
        }
        is("the seeds at the ends are told apart", matter[0] && matter[1] && matter[6] && matter[7], true);
        EarCode again = make("never 1", "citizen fear 0 does 11;citizen fear 0 does 66 knows 0;term 1");
        again.days(7);
        is("those taken ahead do not count", again.span(2, false) + again.span(2, true), 2);
        EarCode y = make("never 1", "citizen fear 0 does 11;citizen fear 0 does 66 knows 0;term 1");
        is("0 days", y.span(0, false) + y.span(0, true), 0);
        is("40 days", y.span(40, false) + y.span(40, true), 40);
        fails("-1", ARGUMENT, () -> y.span(-1, true));
        fails("41", ARGUMENT, () -> y.span(41, false));
        is("nobody", new EarCode().span(40, true), 0);
        says("FIRST: behind how many DAYS (1 to 40) somebody is TAKEN first, as they come; none.");
        is("1", y.first(), 1);
        is("40", make("never 1 if day>38", "citizen fear 0 does 11;citizen fear 0 does 66 knows 0").first(), 40);
        is("41", make("never 1 if day>39", "citizen fear 0 does 11;citizen fear 0 does 66 knows 0").first(), -1);
        is("never", new EarCode().first(), -1);
        y.days(1);
        is("behind one who was taken", y.first(), 2);
        is("nothing stays", y.count(4), 1);
        EarCode z = make("never 1", "citizen fear 0 does 11;citizen fear 0 does 66 knows 0;watch 50");
        z.seed(seedFor(50));
        is("by draws as they come", z.first() > 1, true);
        says("LED: for which CLAUSES somebody was TAKEN by THE LOG, as bits; of one CITIZEN alone.");
        EarCode l = make(repeat("never 0;", 10) + "never 1;never 2", "citizen fear 0 does 11 22;citizen fear 0 does 22;citizen fear 0 does 33;citizen fear 0 does 66 knows 10 11;term 1");
        is("an empty log", l.led(-1), 0);
        l.days(1);
        is("0", l.led(0), 1 << 10);
        is("1", l.led(1), 1 << 11);
        is("2", l.led(2), 0);
        is("all", l.led(-1), 3 << 10);
        l.die(1);
        is("a dead one", l.led(1), 1 << 11);
        says("WORST: the CLAUSE of which most were TAKEN by THE LOG; of several the least; none.");
        is("of several", l.worst(), 10);
        EarCode w = make(repeat("never 0;", 10) + "never 1;never 2", "citizen fear 0 does 11;citizen fear 0 does 22;citizen fear 0 does 22;citizen fear 0 does 66 knows 10 11");
        is("none", w.worst(), -1);
        w.days(1);
        is("most", w.worst(), 11);
    }

    /** A number for all rows of a log. */
    private static int rowsOf(EarCode x) {
        int sum = 0;
        for (int ago = 0; ago < x.count(10); ago++) {
            for (int what = 0; what < 4; what++) {
                sum = sum * 31 + x.log(ago, what);
            }
        }
        return sum;
    }

    private static void goingBack() {
        says("UNDONE: the latest ACT not undone yet (10 are remembered; DAYS of one call are one)");
        EarCode x = make("never 1", "citizen fear 0 does 11 22;citizen fear 0 does 66 knows 0");
        is("none", x.undo(), false);
        for (int i = 1; i <= 12; i++) {
            x.days(i);
            is("remembered", x.count(13), Math.min(i, 10));
        }
        int day = 78;
        for (int i = 12; i > 2; i--) {
            is("undone", x.undo(), true);
            day -= i;
            is("day", x.count(4), day);
            is("left", x.count(13), i - 3);
        }
        is("the second is not remembered", x.undo(), false);
        is("three days stay", x.count(4), 3);
        x.die(0);
        x.die(1);
        x.undo();
        x.baby(1);
        is("0 is dead, 1 not", x.citizen(0, 0) * 10 + x.citizen(1, 0), 1);
        x.undo();
        is("the baby is undone", x.count(1), 2);
        x.undo();
        is("0 lives: the act not undone yet", x.citizen(0, 0), 1);
        says("all is as ahead of it (but for the TAPE, fault(), THE IMAGE).");
        EarCode y = make("never 1", "citizen fear 0 does 11 22;citizen fear 0 does 66 knows 0");
        y.seed(5);
        y.days(1);
        y.seed(6);
        y.image();
        fails("a wrong text", ARGUMENT, () -> republicOf(y, "watch 1 1"));
        tape(y, "watch 7");
        is("undone", y.undo(), true);
        is("day, taken, harm, kept, log", y.count(4) + y.count(6) + y.count(7) + y.count(8) + y.count(9) + y.count(10), 0);
        is("next", y.citizen(0, 6), 9);
        is("taken", y.citizen(0, 3), 0);
        is("seen", y.seen(0), 0);
        is("the seed", y.seed(5), 5);
        is("fault()", y.fault(), 8);
        is("the tape", y.republic(), 2);
        is("what it told", y.count(11), 7);
        is("the image", y.back(), true);
        is("its day", y.count(4), 1);
        is("its seed", y.seed(0), 6);
        EarCode full = make("never 1;never 2", "citizen fear 0 does 11;citizen fear 0 does 22;" + repeat("citizen fear 0 does 11;", 7) + "citizen fear 0 does 66 knows 0 1;term 1");
        full.days(14);
        int oldest = rowsOf(full);
        full.days(1);
        is("a full log goes on", rowsOf(full) != oldest, true);
        full.undo();
        is("all its rows are back", rowsOf(full), oldest);
        says("A text, going back: none are remembered.");
        EarCode z = make(null, "citizen fear 0 does 11");
        z.days(1);
        republicOf(z, "");
        is("behind a text", z.count(13), 0);
        is("nothing to undo", z.undo(), false);
        is("the day stays", z.count(4), 1);
        EarCode code = new EarCode();
        code.days(1);
        codeOf(code, "");
        is("behind a code", code.count(13), 0);
        is("nothing to undo", code.undo(), false);
        z.image();
        z.days(1);
        z.back();
        is("behind going back", z.count(13), 0);
        is("nothing to undo there", z.undo(), false);
        z.days(1);
        z.image();
        is("behind an image they are", z.count(13), 1);
        z.back();
        is("not with it", z.undo(), false);
        says("THE IMAGE (one) of all may be kept, and gone back to (but for the TAPE, fault() and THE IMAGE itself).");
        EarCode i = new EarCode();
        is("none is kept", i.back(), false);
        i.image();
        codeOf(i, "never 1");
        republicOf(i, "citizen fear 0 does 11;citizen fear 0 does 66 knows 0");
        i.days(2);
        i.image();
        i.days(3);
        fails("a wrong text", ARGUMENT, () -> republicOf(i, "term 0"));
        tape(i, "term 9");
        is("back to the later one", i.back(), true);
        is("its day", i.count(4), 2);
        is("fault()", i.fault(), 5);
        is("the tape", i.republic(), 2);
        is("what it told", i.count(12), 9);
        is("once more", i.back(), true);
        is("its term", i.count(12), 3);
        EarCode log = make("never 1;never 2", "citizen fear 0 does 11;citizen fear 0 does 22;citizen fear 0 does 66 knows 0 1");
        log.die(1);
        log.days(1);
        log.image();
        int rows = rowsOf(log);
        log.undo();
        log.undo();
        log.die(0);
        log.days(1);
        is("another log", rowsOf(log) != rows, true);
        log.back();
        is("its log", rowsOf(log), rows);
        is("its texts", i.count(3), 1);
    }

    public static void main(String[] args) {
        part(" ==== 3. ", " Of several exceptions");
        matters();
        contradictions();
        reading();
        knowers();
        risks();
        tellings();
        fears();
        customs();
        daysAhead();
        spans();
        goingBack();
        end("all questions are answered as the document has it");
    }
}
