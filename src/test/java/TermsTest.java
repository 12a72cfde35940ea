/** The document's first part, "Terms" up to ==== 2.: what there is, and the texts that tell it, sentence by sentence. */
public final class TermsTest extends Check {
    private static final String ONE = "citizen fear 0 does 00";
    private static final String THINGS = "never always if or and not feast place day who known citizen fear does knows watch term"
            + " harm wed seen 11 ; ( ) < > +";

    /** The first wrong byte of a code's text told to a new object; -1 if it is right. */
    private static int codeFault(String text) {
        EarCode x = new EarCode();
        tape(x, text);
        return faultOf(x, thrown(x::code));
    }

    /** As with a code of two clauses and citizens 0 and 1 (wed), 2 (dead) and 3. */
    private static int republicFault(String text) {
        EarCode x = four();
        tape(x, text);
        return faultOf(x, thrown(x::republic));
    }

    private static EarCode four() {
        EarCode x = make("never 0;never 1", ONE + ";" + ONE + ";" + ONE + ";" + ONE + ";wed 0 1");
        x.die(2);
        return x;
    }

    private static int faultOf(EarCode x, Class<?> thrown) {
        if (thrown != null && thrown != ARGUMENT) {
            return -99;
        }
        int fault = x.fault();
        return (fault == -1) == (thrown == null) ? fault : -98;
    }

    /** Whether never 1 with this condition forbids deed 1 at a place to a citizen (who knows 2, 0, 1 clauses) on a day. */
    private static boolean holds(String condition, int place, int citizen, int day) {
        EarCode x = make("never 1 if " + condition + ";never 7", "citizen fear 0 does 00 knows 0 1;" + ONE + ";" + ONE + " knows 1");
        for (int left = day; left > 0; left -= 50) {
            x.days(Math.min(left, 50));
        }
        return x.matter(8 + place, citizen, 0) == 1;
    }

    private static void things() {
        EarCode x = make("never 0;never 7", "citizen fear 0 does 00 77 knows 0 1");
        says("DEEDS (8, numbered from 0 on)");
        is("deed 0", x.hush(0), 255);
        is("deed 7", x.hush(7), 255);
        fails("deed -1", INDEX, () -> x.hush(-1));
        fails("deed 8", INDEX, () -> x.hush(8));
        says("PLACES (8 likewise)");
        is("place 0", x.usual(0), 0);
        is("place 7", x.usual(7), 7);
        fails("place -1", INDEX, () -> x.usual(-1));
        fails("place 8", INDEX, () -> x.usual(8));
        says("a MATTER is a DEED at a PLACE, numbered 8 times DEED and PLACE (0 to 63)");
        EarCode y = make("never 0;never 7", "citizen fear 0 does 00 07 10 37 70 77 knows 0 1");
        int[] matters = {0, 7, 8, 31, 56, 63};
        for (int k = 0; k < 6; k++) {
            is("matter " + k, y.habit(0, k), matters[k]);
        }
        is("matter 0", y.matter(0, 0, 0), 1);
        is("matter 7, the last of deed 0", y.matter(7, 0, 0), 1);
        is("matter 8, the first of deed 1", y.matter(8, 0, 0), 0);
        is("matter 55, the last of deed 6", y.matter(55, 0, 0), 0);
        is("matter 56, the first of deed 7", y.matter(56, 0, 0), 2);
        is("matter 63", y.matter(63, 0, 0), 2);
        fails("matter -1", INDEX, () -> y.matter(-1, 0, 0));
        fails("matter 64", INDEX, () -> y.matter(64, 0, 0));
        says("CITIZENS (at most 10, numbered from 0 on)");
        EarCode z = make(null, repeat(ONE + ";", 9) + ONE);
        is("ten", z.count(1), 10);
        is("the first", z.citizen(0, 0), 1);
        is("the last", z.citizen(9, 0), 1);
        fails("citizen -1", INDEX, () -> z.citizen(-1, 0));
        fails("citizen 10", INDEX, () -> z.citizen(10, 0));
        fails("an 11th told", ARGUMENT, () -> republicOf(z, ONE));
        fails("an 11th born", UNSUPPORTED, () -> z.baby(0));
        z.die(0);
        fails("the dead count, too", UNSUPPORTED, () -> z.baby(1));
        says("ALIVE or dead");
        is("alive", z.citizen(1, 0), 1);
        is("dead", z.citizen(0, 0), 0);
        says("KNOWS: CLAUSES, as bits");
        EarCode k = make(repeat("never 0;", 11) + "never 0", ONE + " knows 0 11;" + ONE + ";" + ONE + " knows 0 1 2 3 4 5 6 7 8 9 10 11");
        is("the first and the last", k.citizen(0, 1), 2049);
        is("none", k.citizen(1, 1), 0);
        is("all", k.citizen(2, 1), 4095);
    }

    private static void citizens() {
        says("a HABIT: 1 to 6 MATTERS, done one behind another, day by day, in a ring");
        EarCode x = make(null, "citizen fear 0 does 01 12 23 34 45 56;citizen fear 0 does 77");
        int[] six = {1, 10, 19, 28, 37, 46};
        for (int day = 0; day < 13; day++) {
            is("of six, day " + day, x.citizen(0, 6), six[day % 6]);
            is("of one, day " + day, x.citizen(1, 6), 63);
            x.days(1);
        }
        is("six", x.citizen(0, 5), 6);
        is("one", x.citizen(1, 5), 1);
        is("none is wrong", republicFault("citizen fear 0 does"), 19);
        is("seven are wrong", republicFault("citizen fear 0 does 00 00 00 00 00 00 00"), 38);
        says("FEAR 0 to 100");
        EarCode f = make(null, "citizen fear 0 does 00;citizen fear 100 does 11;seen 0 00;seen 1 11");
        is("0", f.citizen(0, 2), 0);
        is("100", f.citizen(1, 2), 100);
        f.days(50);
        is("who fears 0 never keeps, who fears 100 does always", f.count(9), 50);
        is("101", republicFault("citizen fear 101 does 00"), 13);
        is("999", republicFault("citizen fear 999 does 00"), 13);
        says("SEEN: MATTERS for which one saw somebody taken, as bits of a long");
        EarCode s = make(null, ONE + ";seen 0 00;seen 0 37;seen 0 40;seen 0 77");
        is("0, 31, 32 and 63", s.seen(0), 1L | 1L << 31 | 1L << 32 | 1L << 63);
        EarCode t = make("never 7", "citizen fear 0 does 77;" + ONE + " knows 0");
        t.days(1);
        is("taken for 63", t.seen(0), Long.MIN_VALUE);
        is("not there", t.seen(1), 0);
        says("TAKEN for so many DAYS yet (0: free)");
        EarCode u = make("never 7", "citizen fear 0 does 77;" + ONE + " knows 0;term 1");
        is("free", u.citizen(0, 3), 0);
        u.days(1);
        is("for a day yet", u.citizen(0, 3), 1);
        u.days(1);
        is("free again", u.citizen(0, 3), 0);
        fails("so it cannot be set free", STATE, () -> u.release(0));
        says("a SPOUSE or none");
        EarCode w = make(null, ONE + ";" + ONE + ";" + ONE + ";wed 0 2");
        is("0's", w.citizen(0, 4), 2);
        is("none", w.citizen(1, 4), -1);
        is("2's", w.citizen(2, 4), 0);
    }

    private static int takenUnder(String line, int seed) {
        EarCode x = make("never 1", "citizen fear 0 does 11;" + ONE + " knows 0;" + line);
        x.seed(seed);
        return x.days(1);
    }

    private static void numbersAtFirst() {
        says("WATCH 0 to 100 (100 at first)");
        is("at first", new EarCode().count(11), 100);
        is("0", make(null, "watch 0").count(11), 0);
        is("100", make(null, "watch 1;watch 100").count(11), 100);
        is("101", republicFault("watch 101"), 6);
        says("of a hundred who break the code so many are taken");
        is("of 0 none", takenUnder("watch 0", seedFor(0)), 0);
        is("of 1 the first", takenUnder("watch 1", seedFor(0)), 1);
        is("of 1 no second", takenUnder("watch 1", seedFor(1)), 0);
        is("of 99 the 99th", takenUnder("watch 99", seedFor(98)), 1);
        is("of 99 not the last", takenUnder("watch 99", seedFor(99)), 0);
        is("of 100 the last", takenUnder("watch 100", seedFor(99)), 1);
        says("TERM 1 to 30 (3 at first): DAYS.");
        is("at first", new EarCode().count(12), 3);
        is("1", make(null, "term 1").count(12), 1);
        is("30", make(null, "term 30").count(12), 30);
        is("0", republicFault("term 0"), 5);
        is("31", republicFault("term 31"), 5);
        for (int term : new int[] {1, 3, 30}) {
            EarCode x = make("never 1", "citizen fear 0 does 11;" + ONE + " knows 0;term " + term);
            x.days(1);
            is("taken for " + term, x.citizen(0, 3), term);
            x.days(term);
            is("free behind " + term, x.citizen(0, 3), 0);
            is("taken again", x.days(1), 1);
        }
        says("HARM of a DEED: 0 to 99 (1 at first).");
        for (int deed = 0; deed < 8; deed++) {
            is("at first", make(null, "citizen fear 0 does " + deed + "0").provoked(0, false), 1);
            EarCode x = make(null, "citizen fear 0 does " + deed + "0;harm " + deed + " 99");
            is("99", x.provoked(0, false), 99);
            republicOf(x, "harm " + deed + " 0");
            is("0", x.provoked(0, false), 0);
        }
        is("100", republicFault("harm 0 100"), 7);
        is("deed 8", republicFault("harm 8 0"), 5);
        says("DAY: 0 at first.");
        is("at first", new EarCode().count(4), 0);
        is("so it is a feast", holds("feast", 0, 0, 0), true);
        is("and below 1", holds("day < 1", 0, 0, 0), true);
    }

    private static void codes() {
        says("THE CODE (a text, told once, ahead of all CITIZENS)");
        fails("told twice", STATE, () -> codeOf(make("never 0"), "never 0"));
        fails("an empty one was told", STATE, () -> codeOf(make(""), ""));
        fails("behind a citizen", STATE, () -> codeOf(make(null, ONE), "never 0"));
        EarCode dead = make(null, ONE);
        dead.die(0);
        fails("behind a dead one", STATE, () -> codeOf(dead, "never 0"));
        is("behind a text without a citizen", codeOf(make(null, "watch 5", ""), "never 0"), 1);
        says("CLAUSES: CLAUSE { ; CLAUSE }, at most 12, numbered from 0 on");
        is("one", codeOf(new EarCode(), "never 0"), 1);
        EarCode x = new EarCode();
        is("twelve", codeOf(x, "never 0;never 1;never 2;never 3;never 4;never 5;never 6;never 7;always 6;always 5;always 4;always 3"), 12);
        is("the first", x.clause(0, 1), 0);
        is("the last", x.clause(11, 1), 3);
        fails("-1", INDEX, () -> x.clause(-1, 0));
        fails("12", INDEX, () -> x.clause(12, 0));
        is("thirteen", codeFault(repeat("never 0;", 12) + "never 0"), 96);
        is("a ; ahead", codeFault(";never 0"), 0);
        is("a ; behind", codeFault("never 0;"), 8);
        is("two", codeFault("never 0;;never 0"), 8);
        is("no ;", codeFault("never 0 never 0"), 8);
        says("never D [ if C ] | always D [ if C ].");
        is("never", make("never 5").clause(0, 0), 0);
        is("always", make("always 5").clause(0, 0), 1);
        is("never if", codeFault("never 5 if feast"), -1);
        is("always if", codeFault("always 5 if feast"), -1);
        is("no deed", codeFault("never if feast"), 6);
        is("no condition", codeFault("never 5 if;never 5"), 10);
        is("no if", codeFault("never 5 feast"), 8);
        is("two ifs", codeFault("never 5 if feast if feast"), 17);
        is("neither", codeFault("5 if feast"), 0);
        says("D: a DEED, 0 to 7.");
        is("0", make("never 0").clause(0, 1), 0);
        is("7", make("never 7").clause(0, 1), 7);
        is("007", make("never 007").clause(0, 1), 7);
        is("8", codeFault("never 8"), 6);
        is("999", codeFault("never 999"), 6);
        is("-1", codeFault("never -1"), 6);
    }

    private static void conditions() {
        says("C: ALL { or ALL }; ALL: ATOM { and ATOM }");
        String yes = "1>0";
        String no = "0>1";
        for (int day = 0; day < 2; day++) {
            boolean feast = day == 0;
            is("or feast", holds("0>1 or feast", 0, 0, day), feast);
            is("or feast, anyway", holds("1>0 or feast", 0, 0, day), true);
            is("and feast", holds("1>0 and feast", 0, 0, day), feast);
            is("and feast, never", holds("0>1 and feast", 0, 0, day), false);
            is("feast or", holds("feast or 0>1", 0, 0, day), feast);
            is("feast and", holds("feast and 1>0", 0, 0, day), feast);
            is("or feast and", holds("1>0 or feast and 0>1", 0, 0, day), true);
            is("and feast or", holds("1>0 and feast or 0>1", 0, 0, day), feast);
        }
        for (int bits = 0; bits < 8; bits++) {
            String a = (bits & 1) != 0 ? yes : no;
            String b = (bits & 2) != 0 ? yes : no;
            String c = (bits & 4) != 0 ? yes : no;
            boolean p = a.equals(yes);
            boolean q = b.equals(yes);
            boolean r = c.equals(yes);
            is(a, holds(a, 0, 0, 0), p);
            is(a + " or " + b, holds(a + " or " + b, 0, 0, 0), p || q);
            is(a + " and " + b, holds(a + " and " + b, 0, 0, 0), p && q);
            is(a + " or and " + b + c, holds(a + " or " + b + " and " + c, 0, 0, 0), p || q && r);
            is(a + " and or " + b + c, holds(a + " and " + b + " or " + c, 0, 0, 0), p && q || r);
            is(a + " and and " + b + c, holds(a + " and " + b + " and " + c, 0, 0, 0), p && q && r);
            is(a + " or or " + b + c, holds(a + " or " + b + " or " + c, 0, 0, 0), p || q || r);
        }
        says("ATOM: not ATOM | ( C ) | feast | SUM < SUM | SUM > SUM.");
        is("not of one alone", holds("not 0>1 or 1>0", 0, 0, 0), true);
        is("not of one alone, and", holds("not 0>1 and 0>1", 0, 0, 0), false);
        is("not not", holds("not not 1>0", 0, 0, 0), true);
        is("brackets", holds("(1>0 or 1>0) and 0>1", 0, 0, 0), false);
        is("not of brackets", holds("not (0>1 and 1>0)", 0, 0, 0), true);
        is("1 < 1", holds("1<1", 0, 0, 0), false);
        is("1 > 1", holds("1>1", 0, 0, 0), false);
        is("0 < 1", holds("0<1", 0, 0, 0), true);
        is("1 < 0", holds("1<0", 0, 0, 0), false);
        is("=", codeFault("never 1 if 1=1"), 12);
        is("a chain", codeFault("never 1 if 1<2<3"), 14);
        is("an empty bracket", codeFault("never 1 if ()"), 12);
        is("brackets round a sum", codeFault("never 1 if (1)<2"), 13);
        says("SUM: PART { + PART }; PART: NUMBER | place | day | who | known.");
        is("five parts", holds("place+day+who+known+4 > 13", 3, 2, 4), true);
        is("five parts, less", holds("place+day+who+known+4 > 13", 3, 2, 3), false);
        is("on the right", holds("13 < place+day+who+known+4", 3, 2, 4), true);
        is("on both", holds("place+place+day < place+3", 1, 0, 1), true);
        is("on both, not", holds("place+place+day < place+3", 2, 0, 1), false);
        is("a part twice: place", holds("place+place>5", 3, 0, 0), true);
        is("a part twice: day", holds("day+day>5", 0, 0, 3), true);
        is("a part twice: who", holds("who+who>3", 0, 2, 0), true);
        is("a part twice: known", holds("known+known>3", 0, 0, 0), true);
        is("a part on both sides", holds("day+who+known<known+who+day+1", 0, 2, 3), true);
        is("a part more on the right", holds("who+known<who+known+who+known", 0, 2, 0), true);
        is("a + ahead", codeFault("never 1 if +1<2"), 11);
        is("a + behind", codeFault("never 1 if 1+<2"), 13);
        is("no part feast", codeFault("never 1 if 1+feast<2"), 13);
        is("as many as fit", codeFault("never 1 if " + repeat("1+", 192) + "1<1"), -1);
        is("great sums, the same", holds(repeat("999+", 46) + "1>1" + repeat("+999", 46), 0, 0, 0), false);
        is("great sums, one more", holds(repeat("999+", 46) + "2>1" + repeat("+999", 46), 0, 0, 0), true);
        says("All numbers are of 1 to 3 digits.");
        is("999", holds("day+999>998", 0, 0, 0), true);
        is("001", holds("001>000", 0, 0, 0), true);
        is("no digit", codeFault("never 1 if <2"), 11);
        is("four", codeFault("never 1 if 0001<2"), 11);
        is("four of a deed", codeFault("never 0001"), 6);
        is("three of a deed", codeFault("never 001"), -1);
        is("four of a watch", republicFault("watch 0001"), 6);
        is("three of a watch", republicFault("watch 001"), -1);
        is("three of a citizen", republicFault("seen 003 11"), -1);
        is("four of a citizen", republicFault("seen 0003 11"), 5);
        is("three of a clause", republicFault(ONE + " knows 001"), -1);
        is("four of a clause", republicFault(ONE + " knows 0001"), 29);
        is("ten, as many as go round", republicFault("watch 4294967296"), 6);
    }

    private static void whatHolds() {
        says("Of a MATTER and a CITIZEN on a DAY: who: the CITIZEN's number");
        is("0", holds("who<1", 0, 0, 0), true);
        is("1 is not below 1", holds("who<1", 0, 1, 0), false);
        is("2", holds("who>1", 0, 2, 0), true);
        says("known: how many CLAUSES one KNOWS");
        is("of two", holds("known>1", 0, 0, 0), true);
        is("of none", holds("known<1", 0, 1, 0), true);
        is("of one", holds("known>0 and known<2", 0, 2, 0), true);
        EarCode twelve = make("never 1 if known>11;" + repeat("never 0;", 10) + "never 0", ONE + " knows 0 1 2 3 4 5 6 7 8 9 10");
        is("of eleven", twelve.matter(8, 0, 0), 0);
        twelve.tell(0, 11);
        is("of twelve", twelve.matter(8, 0, 0), 1);
        says("feast: DAY modulo 7 is 0.");
        for (int day = 0; day <= 15; day++) {
            is("day " + day, holds("feast", 0, 0, day), day == 0 || day == 7 || day == 14);
        }
        is("day 700", holds("feast and day>699 and day<701", 0, 0, 700), true);
        says("A never CLAUSE FORBIDS MATTERS of its DEED for which it holds");
        EarCode x = make("never 1 if place>5;always 1 if place>5", ONE + " knows 0 1");
        is("it holds", x.matter(14, 0, 0), 1);
        is("it does not", x.matter(13, 0, 0), 0);
        is("of another deed", x.matter(22, 0, 0), 0);
        says("an always CLAUSE DEMANDS them.");
        is("it holds", x.matter(14, 0, 1), 2);
        is("it does not", x.matter(13, 0, 1), 0);
        is("of another deed", x.matter(6, 0, 1), 0);
        is("without an if all", make("always 1", ONE + " knows 0").matter(8, 0, 1), 1);
        says("IN FORCE: a CLAUSE that somebody ALIVE KNOWS.");
        EarCode y = make("never 0;never 1;never 2", ONE + " knows 0 1;" + ONE + " knows 1");
        is("0 and 1", y.count(5), 3);
        y.die(0);
        is("1 alone", y.count(5), 2);
        y.die(1);
        is("none", y.count(5), 0);
    }

    private static void republics() {
        says("THE REPUBLIC is told in texts (at most 12, one behind another)");
        EarCode x = new EarCode();
        for (int i = 1; i <= 12; i++) {
            is("text " + i, republicOf(x, i == 1 ? ONE : "seen 0 0" + i % 8), i);
        }
        fails("a 13th", UNSUPPORTED, () -> republicOf(x, ""));
        is("all stand", x.citizen(0, 8), 8);
        says("LINE { ; LINE }, at most 14");
        is("14", republicFault(repeat("term 1;", 13) + "term 1"), -1);
        is("15", republicFault(repeat("term 1;", 14) + "term 1"), 98);
        is("a ; ahead", republicFault(";term 1"), 0);
        is("a ; behind", republicFault("term 1;"), 7);
        is("a 14th ; behind", republicFault(repeat("term 1;", 14)), 98);
        is("two", republicFault("term 1;;term 1"), 7);
        is("no ;", republicFault("term 1 term 1"), 7);
        EarCode later = make(null, "watch 1;term 2;watch 3", "term 4");
        is("a later line", later.count(11), 3);
        is("a later text", later.count(12), 4);
        says("citizen fear N does M { M } [ knows K { K } ] | watch N | term N | harm D N | wed C C | seen C M.");
        is("no fear", republicFault("citizen does 00"), 8);
        is("no number", republicFault("citizen fear does 00"), 13);
        is("no does", republicFault("citizen fear 0 00"), 15);
        is("no matter", republicFault("citizen fear 0 does knows 0"), 20);
        is("no clause", republicFault("citizen fear 0 does 00 knows;" + ONE), 28);
        is("knows ahead", republicFault("citizen fear 0 knows 0 does 00"), 15);
        is("knows twice", republicFault(ONE + " knows 0 knows 1"), 31);
        is("knows one twice", republicFault(ONE + " knows 0 0 1 0"), -1);
        is("watch alone", republicFault("watch;term 1"), 5);
        is("watch two", republicFault("watch 1 1"), 8);
        is("term alone", republicFault("term;term 1"), 4);
        is("term two", republicFault("term 1 1"), 7);
        is("harm of one", republicFault("harm 1;term 1"), 6);
        is("harm of three", republicFault("harm 1 1 1"), 9);
        is("wed of one", republicFault("wed 3;term 1"), 5);
        is("wed of three", republicFault(ONE + ";wed 3 4 3"), 31);
        is("seen of one", republicFault("seen 0;term 1"), 6);
        is("seen of three", republicFault("seen 0 00 00"), 10);
        EarCode pooled = make("never 0;never 1", ONE + " knows 0;" + ONE + " knows 1;wed 1 0");
        is("wed in a text pools", pooled.citizen(0, 1) + 4 * pooled.citizen(1, 1), 15);
    }

    private static void lines() {
        says("M: a MATTER, told as DEED at PLACE by two digits together (37: DEED 3 at PLACE 7; each 0 to 7, else it is wrong; just two digits)");
        is("37", make(null, "citizen fear 0 does 37").habit(0, 0), 31);
        is("seen 37", make(null, ONE + ";seen 0 37").seen(0), 1L << 31);
        is("77", republicFault("citizen fear 0 does 77"), -1);
        is("78", republicFault("citizen fear 0 does 78"), 20);
        is("87", republicFault("citizen fear 0 does 87"), 20);
        is("99", republicFault("citizen fear 0 does 99"), 20);
        is("one digit", republicFault("citizen fear 0 does 7"), 20);
        is("three", republicFault("citizen fear 0 does 007"), 20);
        is("not together", republicFault("citizen fear 0 does 3 7"), 20);
        is("seen 78", republicFault("seen 0 78"), 7);
        is("seen 80", republicFault("seen 0 80"), 7);
        is("seen 7", republicFault("seen 0 7"), 7);
        is("seen 007", republicFault("seen 0 007"), 7);
        says("K: a CLAUSE");
        is("1", republicFault(ONE + " knows 1"), -1);
        is("2", republicFault(ONE + " knows 2"), 29);
        is("behind others", republicFault(ONE + " knows 0 1 2"), 33);
        EarCode none = new EarCode();
        fails("without a code", ARGUMENT, () -> republicOf(none, ONE + " knows 0"));
        is("where", none.fault(), 29);
        EarCode empty = make("");
        fails("of an empty code", ARGUMENT, () -> republicOf(empty, ONE + " knows 0"));
        says("C: a CITIZEN that there is by then, ALIVE (of wed without a SPOUSE, not the same: else that one is wrong)");
        is("seen 0", republicFault("seen 0 00"), -1);
        is("seen 3", republicFault("seen 3 00"), -1);
        is("seen 4", republicFault("seen 4 00"), 5);
        is("by then", republicFault(ONE + ";seen 4 00"), -1);
        is("not by then", republicFault("seen 4 00;" + ONE), 5);
        is("seen of a dead one", republicFault("seen 2 00"), 5);
        is("wed with a new one", republicFault(ONE + ";wed 3 4"), -1);
        is("wed 4 ahead", republicFault(ONE + ";wed 4 3"), -1);
        is("with one not by then", republicFault("wed 3 4;" + ONE), 6);
        is("with a dead one", republicFault("wed 3 2"), 6);
        is("of a dead one", republicFault("wed 2 3"), 4);
        is("with a spouse's", republicFault("wed 3 0"), 6);
        is("of one with a spouse", republicFault("wed 0 3"), 4);
        is("of both wed", republicFault("wed 0 1"), 4);
        is("the same", republicFault("wed 3 3"), 6);
        is("the same, written otherwise", republicFault("wed 3 03"), 6);
        is("wed in the same text", republicFault(ONE + ";" + ONE + ";wed 3 4;wed 5 4"), 60);
        says("a 7th MATTER is wrong.");
        is("the 6th", republicFault("citizen fear 0 does 00 01 02 03 04 05"), -1);
        is("the 7th", republicFault("citizen fear 0 does 00 01 02 03 04 05 06"), 38);
        is("a 7th that is none", republicFault("citizen fear 0 does 00 01 02 03 04 05 9"), 38);
        is("knows behind the 6th", republicFault("citizen fear 0 does 00 01 02 03 04 05 knows 0"), -1);
    }

    private static void letters() {
        says("Words are as long as a to z go on");
        is("iffeast", codeFault("never 1 iffeast"), 8);
        is("never1if", codeFault("never1if1<2and3<4or(feast)"), -1);
        is("neveralways", codeFault("neveralways 1"), 0);
        is("Never", codeFault("Never 1"), 0);
        is("nEver", codeFault("nEver 1"), 0);
        is("neve", codeFault("neve 1"), 0);
        is("neverr", codeFault("neverr 1"), 0);
        is("` is ahead of a", codeFault("never`1"), 5);
        is("{ is behind z", codeFault("never{1"), 5);
        is("/ is ahead of 0", codeFault("never 1/"), 7);
        is(": is behind 9", codeFault("never 1:"), 7);
        is("citizenfear", republicFault("citizenfear 0 does 00"), 0);
        is("fear0does00knows0", republicFault("citizen fear0does00knows0"), -1);
        says("between all there may be blanks (32), also ahead and behind.");
        is("of a code", codeFault("   never   1   if   (   not   feast   )   or   1   +   2   <   3   ;   always   2   "), -1);
        is("of a republic", republicFault("  citizen  fear  5  does  11  22  knows  0  1  ;  watch  5  ;  harm  5  5  "), -1);
        is("none within a word", codeFault("ne ver 1"), 0);
        is("none within a number", republicFault("watch 1 0"), 8);
        int[] others = {0, 9, 10, 13, 20, 21, 22, 31, 33, 127, 128, 160, 255};
        for (int other : others) {
            is("byte " + other + " ahead", codeFault((char) other + "never 1"), 0);
            is("byte " + other + " between", codeFault("never" + (char) other + "1"), 5);
            is("byte " + other + " behind", republicFault("watch 1" + (char) other), 7);
            is("byte " + other + " for a number", republicFault("watch " + (char) other), 6);
        }
        is("up to 400 bytes", codeFault(repeat(" ", 393) + "never 1"), -1);
        is("wrong at 400 bytes", codeFault(repeat(" ", 393) + "never 8"), 399);
        says("A text that is empty, or blanks alone, has no LINE, no CLAUSE.");
        is("an empty code", codeOf(new EarCode(), ""), 0);
        is("a blank", codeOf(new EarCode(), " "), 0);
        is("400 blanks", codeOf(new EarCode(), repeat(" ", 400)), 0);
        EarCode x = new EarCode();
        is("an empty republic", republicOf(x, ""), 1);
        is("a blank republic", republicOf(x, repeat(" ", 400)), 2);
        is("nobody", x.count(1), 0);
        says("( and not within one another at most 6 deep.");
        is("6 (", codeFault("never 1 if ((((((feast))))))"), -1);
        is("7 (", codeFault("never 1 if (((((((feast)))))))"), 17);
        is("6 not", codeFault("never 1 if not not not not not not feast"), -1);
        is("7 not", codeFault("never 1 if not not not not not not not feast"), 35);
        is("3 of each", codeFault("never 1 if not(not(not(feast)))"), -1);
        is("4 not, 3 (", codeFault("never 1 if not(not(not(not feast)))"), 23);
        is("3 not, 4 (", codeFault("never 1 if (not(not(not(feast))))"), 23);
        is("beside one another", codeFault("never 1 if " + repeat("(feast) and ", 20) + repeat("not feast or ", 8) + "feast"), -1);
        is("again behind a deep one", codeFault("never 1 if ((((((feast)))))) or not ((((( not feast or 1<2)))))"), 42);
        is("it holds 6 deep", holds("not(not(not(feast and place<4)))", 3, 0, 0), false);
        is("and not", holds("not(not(not(feast and place<4)))", 4, 0, 0), true);
        is("and or at each depth", holds("0>1 or 1>0 and (0>1 or 1>0 and (0>1 or 1>0 and (0>1 or 1>0 and (0>1 or 1>0 and (0>1 or 1>0 and (0>1 or 1>0 and place<4))))))", 3, 0, 0), true);
        is("and or at each depth, not", holds("0>1 or 1>0 and (0>1 or 1>0 and (0>1 or 1>0 and (0>1 or 1>0 and (0>1 or 1>0 and (0>1 or 1>0 and (0>1 or 1>0 and place<4))))))", 4, 0, 0), false);
    }

    /** The begin of each thing where a text may end, by the ends of all its things; else its length is wrong. */
    private static void cutCode(String text, int... mayEnd) {
        String[] things = text.split(" ");
        int at = 0;
        for (int i = 0; i < things.length; i++) {
            at += things[i].length() + (i == 0 ? 0 : 1);
            boolean fine = false;
            for (int end : mayEnd) {
                fine |= end == i;
            }
            String cut = text.substring(0, at);
            is(cut, codeFault(cut), fine ? -1 : at);
            is(cut + " and blanks", codeFault(cut + "   "), fine ? -1 : at + 3);
        }
    }

    private static void cutRepublic(String text, int... mayEnd) {
        String[] things = text.split(" ");
        int at = 0;
        for (int i = 0; i < things.length; i++) {
            at += things[i].length() + (i == 0 ? 0 : 1);
            boolean fine = false;
            for (int end : mayEnd) {
                fine |= end == i;
            }
            String cut = text.substring(0, at);
            is(cut, republicFault(cut), fine ? -1 : at);
            is(cut + " and blanks", republicFault(cut + "   "), fine ? -1 : at + 3);
        }
    }

    /** Of all things just these can stand behind the text. */
    private static void canStand(boolean code, String text, String fine) {
        for (String thing : THINGS.split(" ")) {
            boolean can = (" " + fine + " ").contains(" " + thing + " ");
            int fault = code ? codeFault(text + " " + thing) : republicFault(text + " " + thing);
            if (can) {
                is(thing + " can stand behind " + text, fault == -1 || fault == text.length() + 1 + thing.length(), true);
            } else {
                is(thing + " cannot stand behind " + text, fault, text.length() + 1);
            }
        }
    }

    private static void whatCanStand() {
        String atoms = "not feast place day who known 11 (";
        canStand(true, "", "never always");
        canStand(true, "never", "");
        canStand(true, "always", "");
        canStand(true, "never 1", "if ;");
        canStand(true, "never 1;", "never always");
        canStand(true, "never 1 if", atoms);
        canStand(true, "never 1 if not", atoms);
        canStand(true, "never 1 if (", atoms);
        canStand(true, "never 1 if feast", "or and ;");
        canStand(true, "never 1 if not feast", "or and ;");
        canStand(true, "never 1 if feast or", atoms);
        canStand(true, "never 1 if feast and", atoms);
        canStand(true, "never 1 if (feast", "or and )");
        canStand(true, "never 1 if (feast)", "or and ;");
        canStand(true, "never 1 if place", "< > +");
        canStand(true, "never 1 if 1", "< > +");
        canStand(true, "never 1 if place+", "place day who known 11");
        canStand(true, "never 1 if place<", "place day who known 11");
        canStand(true, "never 1 if place>", "place day who known 11");
        canStand(true, "never 1 if place<who", "+ or and ;");
        canStand(true, "never 1 if (place<who", "+ or and )");
        canStand(false, "", "citizen watch term harm wed seen");
        canStand(false, "watch 1;", "citizen watch term harm wed seen");
        canStand(false, "citizen", "fear");
        canStand(false, "citizen fear", "11");
        canStand(false, "citizen fear 1", "does");
        canStand(false, "citizen fear 1 does", "11");
        canStand(false, ONE, "11 knows ;");
        canStand(false, "citizen fear 0 does 00 01 02 03 04 05", "knows ;");
        canStand(false, ONE + " knows", "");
        canStand(false, ONE + " knows 1", ";");
        canStand(false, "watch", "11");
        canStand(false, "watch 1", ";");
        canStand(false, "term", "11");
        canStand(false, "term 1", ";");
        canStand(false, "harm", "");
        canStand(false, "harm 1", "11");
        canStand(false, "harm 1 1", ";");
        canStand(false, "wed", "");
        canStand(false, ONE + ";wed 3", "");
        canStand(false, ONE + ";wed 3 4", ";");
        canStand(false, "seen", "");
        canStand(false, "seen 3", "11");
        canStand(false, "seen 3 11", ";");
    }

    private static void wrongBytes() {
        says("The first wrong byte: the begin of the first thing that cannot stand there");
        whatCanStand();
        is("of two wrong things", codeFault("never 8 if what"), 6);
        is("of a right thing where it cannot stand", codeFault("never 1 or feast"), 8);
        is("a word of the republic", codeFault("watch 1"), 0);
        is("a word of the code", republicFault("never 1"), 0);
        is("a ) too many", codeFault("never 1 if (feast))"), 18);
        is("no )", codeFault("never 1 if (feast;never 1"), 17);
        is("fear", republicFault("fear 1"), 0);
        is("does", republicFault("does 11"), 0);
        is("knows", republicFault("knows 1"), 0);
        says("a number of more digits");
        is("of a sum", codeFault("never 1 if place < 1000"), 19);
        is("of a deed", codeFault("never 0000"), 6);
        is("400", codeFault(repeat("1", 400)), 0);
        is("400 signs", codeFault(repeat("(", 400)), 0);
        is("400 signs that part lines", republicFault(repeat(";", 400)), 0);
        is("100 words and numbers", codeFault(repeat("or11", 100)), 0);
        is("390", codeFault("never 1 if " + repeat("0", 389)), 11);
        is("of a fear", republicFault("citizen fear 0000 does 00"), 13);
        is("of a matter", republicFault("citizen fear 0 does 00 0000"), 23);
        is("of a term", republicFault("term 0001"), 5);
        says("or out of its bounds");
        is("deed", codeFault("never 8"), 6);
        is("fear", republicFault("citizen fear 101 does 00"), 13);
        is("watch", republicFault("watch 999"), 6);
        is("term", republicFault("term 000"), 5);
        is("harm", republicFault("harm 7 100"), 7);
        is("a harm's deed", republicFault("harm 8 1"), 5);
        says("or that tells none that can be");
        is("a clause", republicFault(ONE + " knows 2"), 29);
        is("a citizen", republicFault("seen 4 00"), 5);
        is("a dead one", republicFault("seen 2 00"), 5);
        is("a spouse", republicFault("wed 3 1"), 6);
        is("a matter", republicFault("seen 0 88"), 7);
        says("a word that is none");
        is("at first", codeFault("nevermind 1"), 0);
        is("behind a deed", codeFault("never 1 when feast"), 8);
        is("in a condition", codeFault("never 1 if feast xor feast"), 17);
        is("in a sum", codeFault("never 1 if place < here"), 19);
        is("a line's", republicFault("watch 1;guard 1"), 8);
        is("a citizen's", republicFault("citizen dread 1 does 00"), 8);
        is("one letter", republicFault("w"), 0);
        is("400 letters", republicFault(repeat("a", 400)), 0);
        says("the ( or not that is a 7th one deep");
        is("(", codeFault("never 1 if ( ( ( ( ( ( (feast)))))))"), 23);
        is("not", codeFault("never 1 if ((((((not feast))))))"), 17);
        is("not behind or", codeFault("never 1 if ((((((feast or not feast))))))"), 26);
        is("( behind not", codeFault("never 1 if not not not not not not (feast)"), 35);
        says("of a LINE, a CLAUSE, a CITIZEN too many, the first word");
        is("a line", republicFault(repeat("term 1;", 14) + "  term 1"), 100);
        is("a clause", codeFault(repeat("never 1;", 12) + "  always 1"), 98);
        EarCode ten = make(null, repeat(ONE + ";", 9) + ONE);
        fails("a citizen", ARGUMENT, () -> republicOf(ten, "watch 1; " + ONE));
        is("its first word", ten.fault(), 9);
        EarCode nine = make(null, repeat(ONE + ";", 8) + ONE);
        fails("one that may come and one too many", ARGUMENT, () -> republicOf(nine, ONE + ";" + ONE));
        is("its first word, too", nine.fault(), 23);
        says("or the text's length, if more must come.");
        cutCode("always 7 if not ( feast or place + 1 < who ) and day > known ; never 1", 1, 12, 16, 19);
        cutCode("never 0 if ( ( 1 < 2 ) or ( not feast ) )", 1, 14);
        cutRepublic("citizen fear 5 does 11 22 knows 0 1 ; watch 5 ; term 5 ; harm 1 2 ; wed 3 4 ; seen 3 11", 4, 5, 7, 8, 11, 14, 18, 22, 26);
        says("Of a wrong text nothing stays.");
        EarCode x = four();
        long before = x.seen(0);
        fails("right lines and a wrong one", ARGUMENT,
                () -> republicOf(x, "watch 5;term 5;harm 0 5;seen 0 11;" + ONE + " knows 1;wed 3 4;nothing"));
        is("watch", x.count(11), 100);
        is("term", x.count(12), 3);
        is("harm", x.provoked(3, false), 1);
        is("seen", x.seen(0), before);
        is("citizens", x.count(1), 4);
        is("spouse", x.citizen(3, 4), -1);
        is("known", x.citizen(3, 1), 0);
        is("texts", x.count(3), 1);
        is("acts", x.count(13), 1);
        EarCode y = new EarCode();
        fails("right clauses and a wrong one", ARGUMENT, () -> codeOf(y, "never 1;never 2;never 8"));
        is("no code", y.count(0), -1);
        is("another may be told", codeOf(y, "always 3"), 1);
        is("its deed", y.clause(0, 1), 3);
        is("its kind", y.clause(0, 0), 1);
        EarCode z = new EarCode();
        for (int i = 0; i < 40; i++) {
            fails("a long one", ARGUMENT, () -> codeOf(z, "always 1 if " + repeat("place>5 or ", 34) + "feast;"));
        }
        is("a right one as long", codeOf(z, "never 1 if " + repeat("place>6 or ", 34) + "feast"), 1);
        republicOf(z, ONE + " knows 0");
        is("a never one", z.clause(0, 0), 0);
        z.days(1);
        is("its condition holds", z.matter(15, 0, 0), 1);
        is("its condition does not", z.matter(14, 0, 0), 0);
        EarCode w = new EarCode();
        fails("one with conditions", ARGUMENT, () -> codeOf(w, "always 1 if place>6 and not feast or who>5;always 2 if who>9;"));
        is("one without", codeOf(w, "never 1;never 2 if place>5"), 2);
        republicOf(w, ONE + " knows 0 1");
        is("the first holds everywhere", w.matter(8, 0, 0), 1);
        is("the second from 6 on", w.matter(22, 0, 0), 2);
        is("the second not at 5", w.matter(21, 0, 0), 0);
        is("none demands", w.matter(8, 0, 1), 0);
    }

    public static void main(String[] args) {
        part("## Terms ", " ==== 2.");
        things();
        citizens();
        numbersAtFirst();
        codes();
        conditions();
        whatHolds();
        republics();
        lines();
        letters();
        wrongBytes();
        end("the terms and texts are as the document has them");
    }
}
