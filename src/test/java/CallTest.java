import java.util.ArrayList;
import java.util.List;
import java.util.function.Consumer;
import java.util.function.ObjIntConsumer;

/**
 * Promises 1 to 48, and the document's rows on exceptions, sentence by sentence: what each call answers at its bounds,
 * what it refuses, which of several exceptions it throws, and that nothing but the tape changes by it.
 */
public final class CallTest extends Check {
    private static final String ONE = "citizen fear 0 does 00";
    private static final String TWELVE = repeat("never 0;", 11) + "never 0";
    private static final int CLAUSES = 5;
    private static final int CITIZENS = 6;
    private static final int ACTS = 4;
    private static final int DEAD = 4;
    private static final int HELD = 2;
    private static final int SINGLE = 3;
    private static final String LEFT = "watch 7";

    /** A republic with something of all in it: 4 is dead, 0 and 1 are wed, 2 and 5 are taken; a tape, a fault, an image. */
    private static EarCode lively() {
        EarCode x = make("never 1;never 2 if place>3;always 1 if feast;never 3;never 4 if known<1",
                "citizen fear 40 does 11 22 33 knows 0 3;citizen fear 100 does 11 24 knows 1;citizen fear 0 does 11 12;"
                + "citizen fear 7 does 61 51;citizen fear 0 does 55;citizen fear 50 does 24;wed 0 1;seen 3 61;harm 1 5;harm 6 9;term 5");
        x.seed(7);
        x.days(3);
        x.image();
        x.tell(SINGLE, 2);
        x.die(DEAD);
        x.days(1);
        thrown(() -> republicOf(x, "watch 3;watch 101"));
        tape(x, LEFT);
        return x;
    }

    /** All that can be asked of an object, but for the tape. */
    private static List<Long> picture(EarCode x) {
        List<Long> all = new ArrayList<>();
        for (int what = -1; what <= 14; what++) {
            all.add((long) x.count(what));
        }
        all.add((long) x.fault());
        for (int clause = 0; clause < x.count(0); clause++) {
            for (int what = 0; what < 5; what++) {
                all.add((long) x.clause(clause, what));
            }
        }
        for (int citizen = 0; citizen < x.count(1); citizen++) {
            for (int what = 0; what < 9; what++) {
                all.add((long) x.citizen(citizen, what));
            }
            all.add(x.seen(citizen));
            for (int k = 0; k < 6; k++) {
                all.add((long) x.habit(citizen, k));
            }
            if (x.citizen(citizen, 0) == 1) {
                all.add((long) x.provoked(citizen, false));
            }
        }
        for (int ago = 0; ago < x.count(10); ago++) {
            for (int what = 0; what < 4; what++) {
                all.add((long) x.log(ago, what));
            }
        }
        int seed = x.seed(0);
        x.seed(seed);
        all.add((long) seed);
        return all;
    }

    /** What the tape has: what a republic's text read from it makes. */
    private static List<Long> pictureOfTape(EarCode x) {
        List<Long> all = new ArrayList<>();
        Class<?> thrown = thrown(x::republic);
        all.add(thrown == null ? 0L : 1L);
        all.add((long) x.fault());
        all.add((long) x.count(11));
        all.add((long) x.count(3));
        return all;
    }

    private static void same(String what, EarCode x, EarCode y) {
        is(what, picture(x).equals(picture(y)), true);
    }

    /** Both are the same, and so are what undoing makes of them, what going back makes of them, and their tapes. */
    private static void unchanged(String what, Consumer<EarCode> call, Consumer<EarCode> instead) {
        for (int undone = 0; undone <= ACTS + 1; undone++) {
            EarCode x = lively();
            EarCode y = lively();
            thrown(() -> call.accept(x));
            instead.accept(y);
            for (int i = 0; i < undone; i++) {
                if (i < ACTS) {
                    x.undo();
                    y.undo();
                } else {
                    x.back();
                    y.back();
                }
            }
            same(what + " changes nothing, " + undone + " undone", x, y);
            is(what + " leaves the tape", pictureOfTape(x).equals(pictureOfTape(y)), true);
        }
    }

    /** A call that throws, of a lively republic, and leaves it as it is. */
    private static void refused(String what, Class<? extends RuntimeException> want, Consumer<EarCode> call) {
        EarCode z = lively();
        fails(what, want, () -> call.accept(z));
        unchanged(what, call, y -> { });
    }

    /** A call that throws and uses up a tape of bytes, but changes nothing else. */
    private static void refusedTape(String what, Class<? extends RuntimeException> want, Consumer<EarCode> call, int... bytes) {
        EarCode z = lively();
        watched(z, bytes);
        fails(what, want, () -> call.accept(z));
        unchanged(what, x -> {
            watched(x, bytes);
            call.accept(x);
        }, y -> y.end(0));
    }

    /** The last numbers that are taken, and the first that are not, at both ends, and the farthest. */
    private static void range(String what, int low, int high, Class<? extends RuntimeException> want, ObjIntConsumer<EarCode> call) {
        int[] taken = {low, low + 1, high - 1, high};
        for (int n : taken) {
            EarCode x = lively();
            is(what + " " + n + " is taken", thrown(() -> call.accept(x, n)) == null, true);
        }
        int[] refused = {MIN, low - 1, high + 1, MAX};
        for (int n : refused) {
            refused(what + " " + n, want, x -> call.accept(x, n));
        }
    }

    private static void newObject() {
        promise(1);
        says("No CLAUSE, nobody.");
        EarCode x = new EarCode();
        int[] want = {-1, 0, 0, 0, 0, 0, 0, 0, 0, 0, 0, 100, 3, 0};
        for (int what = 0; what < 14; what++) {
            is("count " + what, x.count(what), want[what]);
        }
        fails("no clause", INDEX, () -> x.clause(0, 0));
        fails("nobody", INDEX, () -> x.citizen(0, 0));
        is("no text was read", x.fault(), -1);
        is("an empty tape", x.end(1), false);
        is("an empty log", x.log(0, 0), -1);
        is("no act", x.undo(), false);
        is("no image", x.back(), false);
        is("seed", x.seed(1), 1);
        is("of nobody", x.nobody() + x.relief() + x.cover() + x.hush(0) + x.led(-1), 0);
        is("none", x.usual(0) + x.worst() + x.first() + x.heirs(1) + x.telling(1, false), -5);
    }

    private static void tapes() {
        promise(2);
        says("Twenty bytes come behind the TAPE, of each number the highest first: how many it has");
        EarCode x = new EarCode();
        is("twenty", x.feed(0x77617463, 0x68202020, 0x20202020, 0x20202020, 0x20202035), 20);
        is("twenty more", x.feed(0x3b746572, 0x6d20397f, 0xffffffff, 0x80000000, MAX), 40);
        is("the first 28", x.end(28), true);
        fails("127 is no sign", ARGUMENT, x::republic);
        is("the byte behind term 9", x.fault(), 27);
        x.feed(0x77617463, 0x68202020, 0x20202020, 0x20202020, 0x20202035);
        x.feed(0x3b746572, 0x6d203920, 0x20202020, 0x20202020, 0x20202020);
        is("watch and term", x.republic(), 1);
        is("watch", x.count(11), 5);
        is("term", x.count(12), 9);
        x.feed(0x808182ff, 0, 0, 0, 0);
        fails("bytes from 128 on", ARGUMENT, x::republic);
        is("the first", x.fault(), 0);
        says("NONE, and none come, if it would have more than 400.");
        EarCode y = new EarCode();
        for (int i = 1; i <= 20; i++) {
            is("feed " + i, y.feed(0x20202020, 0x20202020, 0x20202020, 0x20202020, 0x20202020), 20 * i);
        }
        is("full", y.feed(0x21212121, 0x21212121, 0x21212121, 0x21212121, 0x21212121), -1);
        is("full yet", y.feed(0, 0, 0, 0, 0), -1);
        is("none came", y.end(401), false);
        is("all blanks", y.code(), 0);
        is("used up", y.feed(0x20202020, 0x20202020, 0x20202020, 0x20202020, 0x20202020), 20);
        EarCode z = new EarCode();
        for (int i = 0; i < 20; i++) {
            z.feed(0x20202020, 0x20202020, 0x20202020, 0x20202020, 0x20202020);
        }
        z.end(381);
        is("401 it would be", z.feed(0x21212121, 0x21212121, 0x21212121, 0x21212121, 0x21212121), -1);
        is("not 382", z.end(382), false);
        is("but 381", z.end(381), true);
        z.end(380);
        is("400 it would be", z.feed(0x20202020, 0x20202020, 0x20202020, 0x20202020, 0x20202021), 400);
        fails("the last byte", ARGUMENT, z::code);
        is("is the 400th", z.fault(), 399);
        promise(3);
        says("The TAPE has its first n bytes alone: true");
        EarCode e = new EarCode();
        is("0 of none", e.end(0), true);
        tape(e, "watch 55");
        is("all", e.end(8), true);
        is("seven", e.end(7), true);
        is("eight no more", e.end(8), false);
        is("seven of seven", e.republic(), 1);
        is("the first seven", e.count(11), 5);
        tape(e, "watch 66");
        is("none of them", e.end(0), true);
        is("an empty text", e.republic(), 2);
        is("nothing told", e.count(11), 5);
        says("false, and nothing happens, if it has fewer, or n is below 0.");
        for (int n : new int[] {8, 400, 401, MAX, -1, MIN}) {
            unchanged("end " + n, x2 -> is("end " + n, x2.end(n), false), y2 -> { });
        }
        is("fewer: one of none", new EarCode().end(1), false);
    }

    private static void texts() {
        promise(4);
        says("Uses the TAPE up: THE CODE: how many CLAUSES.");
        EarCode x = new EarCode();
        is("none", codeOf(x, ""), 0);
        is("told all the same", x.count(0), 0);
        EarCode y = new EarCode();
        is("twelve", codeOf(y, TWELVE), 12);
        is("used up", y.end(1), false);
        is("told", y.count(0), 12);
        says("IllegalArgumentException: the text is wrong");
        EarCode z = new EarCode();
        fails("wrong", ARGUMENT, () -> codeOf(z, "never 8"));
        is("used up", z.end(1), false);
        is("nothing told", z.count(0), -1);
        is("where", z.fault(), 6);
        is("a right one may come", codeOf(z, "never 7"), 1);
        says("IllegalStateException: one was told, or there is a CITIZEN (told behind that).");
        EarCode told = make("never 1");
        fails("told", STATE, () -> codeOf(told, "never 2"));
        is("the told one stays", told.clause(0, 1), 1);
        is("used up", told.end(1), false);
        fails("told, and wrong", ARGUMENT, () -> codeOf(told, "never"));
        EarCode citizen = make(null, ONE);
        fails("a citizen", STATE, () -> codeOf(citizen, "never 2"));
        is("none told", citizen.count(0), -1);
        fails("a citizen, and wrong", ARGUMENT, () -> codeOf(citizen, ";"));
        EarCode w = lively();
        fails("both", STATE, () -> codeOf(w, ""));
        is("a right text: no fault", w.fault(), -1);
        unchanged("a right code", v -> codeOf(v, "always 5"), v -> thrown(() -> codeOf(v, "")));
        promise(5);
        says("Uses the TAPE up: a text of THE REPUBLIC: how many there are.");
        EarCode r = new EarCode();
        for (int i = 1; i <= 12; i++) {
            is("text " + i, republicOf(r, i == 12 ? "watch 12" : ""), i);
            is("used up", r.end(1), false);
        }
        is("the last is told", r.count(11), 12);
        says("IllegalArgumentException: it is wrong");
        fails("a 13th, and wrong", ARGUMENT, () -> republicOf(r, "watch"));
        EarCode wrong = lively();
        fails("wrong", ARGUMENT, () -> republicOf(wrong, "watch 9;term 9;harm 1 9;seen 3 77;" + ONE + ";wed 3 6;knows"));
        is("where", wrong.fault(), 65);
        is("used up", wrong.end(1), false);
        unchanged("a wrong text", v -> republicOf(v, "watch 9;term 9;harm 6 8;seen 3 77;" + ONE + ";wed 3 6;term 31"),
                v -> thrown(() -> republicOf(v, repeat(" ", 65) + "term 31")));
        says("UnsupportedOperationException: there are 12.");
        fails("a 13th", UNSUPPORTED, () -> republicOf(r, "watch 13"));
        is("the 12th stays", r.count(11), 12);
        is("used up", r.end(1), false);
        is("12 yet", r.count(3), 12);
        fails("an empty 13th", UNSUPPORTED, () -> republicOf(r, ""));
        EarCode acts = make(null, ONE, "", "", "", "", "", "", "", "", "", "", "");
        acts.days(1);
        fails("a 13th behind an act", UNSUPPORTED, () -> republicOf(acts, "watch 13"));
        is("the act can be undone yet", acts.undo(), true);
        acts.image();
        fails("a 13th behind an image", UNSUPPORTED, () -> republicOf(acts, "watch 13"));
        is("back", acts.back(), true);
        is("12", acts.count(3), 12);
    }

    private static void faults() {
        promise(6);
        says("The first wrong byte of the latest text that was read");
        EarCode x = new EarCode();
        fails("a code", ARGUMENT, () -> codeOf(x, " ?"));
        is("1", x.fault(), 1);
        fails("a republic", ARGUMENT, () -> republicOf(x, "  ?"));
        is("2", x.fault(), 2);
        fails("at its end", ARGUMENT, () -> codeOf(x, "never 1;" + repeat(" ", 392)));
        is("400", x.fault(), 400);
        fails("at its begin", ARGUMENT, () -> republicOf(x, "?"));
        is("0", x.fault(), 0);
        tape(x, "    ?");
        is("a tape that was not read", x.fault(), 0);
        is("read", readOf(x, 0), 1);
        is("reads no text", x.fault(), 0);
        fails("nor does next", INDEX, () -> nextOf(x, 0, 1));
        is("0 yet", x.fault(), 0);
        x.image();
        x.back();
        x.days(1);
        x.undo();
        is("it stays", x.fault(), 0);
        says("NONE without one, and ahead of any.");
        is("a right one", republicOf(x, ""), 1);
        is("without one", x.fault(), -1);
        is("a right code", codeOf(x, "never 1"), 1);
        is("without one yet", x.fault(), -1);
        is("ahead of any", new EarCode().fault(), -1);
    }

    private static void clausesAndCitizens() {
        promise(7);
        says("Of a CLAUSE what 0 1 if it DEMANDS, 1 the DEED, 2 1 if IN FORCE, 3 who ALIVE KNOWS it, as bits, 4 those that it CONTRADICTS.");
        EarCode x = make("never 0;" + repeat("never 1;", 10) + "always 7", repeat(ONE + ";", 9) + ONE + " knows 11");
        is("0 0", x.clause(0, 0), 0);
        is("11 0", x.clause(11, 0), 1);
        is("0 1", x.clause(0, 1), 0);
        is("11 1", x.clause(11, 1), 7);
        is("0 2", x.clause(0, 2), 0);
        is("11 2", x.clause(11, 2), 1);
        is("0 3", x.clause(0, 3), 0);
        is("11 3: 9", x.clause(11, 3), 512);
        x.tell(0, 11);
        is("11 3: 0 and 9", x.clause(11, 3), 513);
        x.die(9);
        is("11 3: 0", x.clause(11, 3), 1);
        is("11 4", x.clause(11, 4), 0);
        is("0 with 11", make("never 7;" + repeat("never 1;", 10) + "always 7", ONE).clause(0, 4), 2048);
        range("clause", 0, CLAUSES - 1, INDEX, (y, n) -> y.clause(n, 0));
        fails("without a code", INDEX, () -> make(null, ONE).clause(0, 0));
        says("NoSuchElementException: another what.");
        range("what", 0, 4, ELEMENT, (y, n) -> y.clause(0, n));
        refused("no clause, no what", INDEX, y -> y.clause(CLAUSES, 5));
        refused("no clause, no what, below", INDEX, y -> y.clause(-1, -1));
        promise(8);
        says("Of a CITIZEN what 0 1 if ALIVE, 1 KNOWS, as bits, 2 FEAR, 3 TAKEN (DAYS), 4 the SPOUSE (NONE), 5 how many MATTERS the HABIT has, 6 the MATTER that is next, 7 POOLED, 8 how many MATTERS one has SEEN.");
        EarCode z = make(TWELVE, "citizen fear 100 does 77 00 knows 11;citizen fear 0 does 01 02 03 04 05 06 knows 0;wed 0 1;seen 0 00;seen 0 77;seen 0 77");
        int[] zero = {1, 2049, 100, 0, 1, 2, 63, 2049, 2};
        int[] one = {1, 2049, 0, 0, 0, 6, 1, 2049, 0};
        for (int what = 0; what < 9; what++) {
            is("0 " + what, z.citizen(0, what), zero[what]);
            is("1 " + what, z.citizen(1, what), one[what]);
        }
        z.die(0);
        int[] dead = {0, 2049, 100, 0, -1, 2, 63, 2049, 2};
        for (int what = 0; what < 9; what++) {
            is("of the dead " + what, z.citizen(0, what), dead[what]);
        }
        EarCode all = allSeen();
        is("64 seen", all.citizen(0, 8), 64);
        is("taken", lively().citizen(HELD, 3) > 0, true);
        range("citizen", 0, CITIZENS - 1, INDEX, (y, n) -> y.citizen(n, 0));
        says("NoSuchElementException: another what.");
        range("what", 0, 8, ELEMENT, (y, n) -> y.citizen(0, n));
        range("what of a dead one", 0, 8, ELEMENT, (y, n) -> y.citizen(DEAD, n));
        refused("no citizen, no what", INDEX, y -> y.citizen(CITIZENS, 9));
        promise(9);
        says("SEEN, as bits of a long.");
        is("all", all.seen(0), -1L);
        is("none", z.seen(1), 0);
        is("of a dead one", z.seen(0), 1L << 63 | 1L);
        range("citizen", 0, CITIZENS - 1, INDEX, (y, n) -> y.seen(n));
        fails("nobody", INDEX, () -> new EarCode().seen(0));
        promise(10);
        says("The k-th MATTER of a HABIT (from 0 on, as told)");
        is("0", z.habit(0, 0), 63);
        is("1", z.habit(0, 1), 0);
        for (int k = 0; k < 6; k++) {
            is("of six " + k, z.habit(1, k), k + 1);
        }
        z.days(1);
        is("as told, not as it goes on", z.habit(1, 0), 1);
        range("citizen", 0, CITIZENS - 1, INDEX, (y, n) -> y.habit(n, 0));
        says("NONE.");
        for (int k : new int[] {-1, 2, 6, MIN, MAX}) {
            is("of two " + k, z.habit(0, k), -1);
        }
        is("of six, 6", z.habit(1, 6), -1);
        refused("no citizen, no k", INDEX, y -> y.habit(CITIZENS, 9));
    }

    /** A citizen who has seen all 64 matters, told in texts of 13 lines. */
    private static EarCode allSeen() {
        EarCode x = make(null, ONE);
        for (int from = 0; from < 64; from += 13) {
            StringBuilder text = new StringBuilder();
            for (int m = from; m < Math.min(from + 13, 64); m++) {
                text.append(m == from ? "" : ";").append("seen 0 ").append(m / 8).append(m % 8);
            }
            republicOf(x, text.toString());
        }
        return x;
    }

    private static void matters() {
        promise(11);
        says("Of a MATTER and a CITIZEN now what 0 FORBIDDEN by, 1 DEMANDED by (as bits), 2 1 if MAY, 3 1 if DARES.");
        EarCode x = make("never 7;always 7;" + repeat("never 0;", 9) + "never 7", ONE + " knows 0 1 11;" + ONE + ";seen 1 77");
        is("forbidden by", x.matter(63, 1, 0), 2049);
        is("demanded by", x.matter(63, 1, 1), 2);
        is("0 may not", x.matter(63, 0, 2), 0);
        is("1 may", x.matter(63, 1, 2), 1);
        is("1 does not dare", x.matter(63, 1, 3), 0);
        is("but at 62", x.matter(62, 1, 3), 1);
        range("matter", 0, 63, INDEX, (y, n) -> y.matter(n, 0, 0));
        refused("citizen -1", INDEX, y -> y.matter(0, -1, 0));
        refused("citizen 6", INDEX, y -> y.matter(0, CITIZENS, 0));
        is("the last citizen", lively().matter(0, CITIZENS - 1, 0), 0);
        says("IllegalStateException: one is dead");
        refused("dead", STATE, y -> y.matter(0, DEAD, 0));
        refused("no matter, and dead", INDEX, y -> y.matter(64, DEAD, 0));
        refused("no matter, no citizen, no what", INDEX, y -> y.matter(-1, -1, -1));
        says("NoSuchElementException: another what.");
        range("what", 0, 3, ELEMENT, (y, n) -> y.matter(0, 0, n));
        refused("dead, and no what", STATE, y -> y.matter(0, DEAD, 4));
        refused("no citizen, and no what", INDEX, y -> y.matter(0, CITIZENS, 4));
        refused("no matter, and no what", INDEX, y -> y.matter(64, 0, 4));
    }

    private static void acts() {
        promise(12);
        says("TOLD a CLAUSE: how many one KNOWS then.");
        EarCode x = make(TWELVE, ONE);
        for (int clause = 11; clause >= 0; clause--) {
            is("told " + clause, x.tell(0, clause), 12 - clause);
        }
        is("all", x.citizen(0, 1), 4095);
        refused("citizen -1", INDEX, y -> y.tell(-1, 4));
        refused("citizen 6", INDEX, y -> y.tell(CITIZENS, 4));
        refused("clause -1", INDEX, y -> y.tell(0, -1));
        refused("clause 5", INDEX, y -> y.tell(0, CLAUSES));
        refused("the farthest", INDEX, y -> y.tell(MIN, MAX));
        is("the last of each", lively().tell(CITIZENS - 1, CLAUSES - 1), 1);
        fails("without a code", INDEX, () -> make(null, ONE).tell(0, 0));
        says("IllegalStateException: one is dead, or KNOWS it.");
        refused("dead", STATE, y -> y.tell(DEAD, 0));
        refused("known", STATE, y -> y.tell(0, 0));
        refused("dead, and no clause", INDEX, y -> y.tell(DEAD, CLAUSES));
        EarCode wise = make("never 0", ONE + " knows 0");
        wise.die(0);
        fails("dead and known", STATE, () -> wise.tell(0, 0));
        promise(13);
        says("One dies: CLAUSES that are IN FORCE no more by that, as bits.");
        EarCode d = make(TWELVE, ONE + " knows 0 11;" + ONE + " knows 11 5;" + ONE);
        is("nothing", d.die(2), 0);
        is("0", d.die(0), 1);
        is("5 and 11", d.die(1), 2080);
        is("nobody", d.count(2), 0);
        refused("citizen -1", INDEX, y -> y.die(-1));
        refused("citizen 6", INDEX, y -> y.die(CITIZENS));
        refused("the farthest", INDEX, y -> y.die(MIN));
        says("IllegalStateException: one is dead.");
        refused("dead", STATE, y -> y.die(DEAD));
        promise(14);
        says("WED: what both KNOW, as bits.");
        EarCode w = make(TWELVE, ONE + " knows 0;" + ONE + " knows 11;" + ONE + ";" + ONE);
        is("0 and 11", w.wed(1, 0), 2049);
        is("nothing", w.wed(2, 3), 0);
        refused("citizen -1", INDEX, y -> y.wed(-1, SINGLE));
        refused("citizen 6", INDEX, y -> y.wed(CITIZENS, SINGLE));
        refused("other -1", INDEX, y -> y.wed(SINGLE, -1));
        refused("other 6", INDEX, y -> y.wed(SINGLE, CITIZENS));
        refused("no other, and dead", INDEX, y -> y.wed(DEAD, CITIZENS));
        refused("no other, and wed", INDEX, y -> y.wed(0, MAX));
        is("the last", thrown(() -> lively().wed(CITIZENS - 1, SINGLE)) == null, true);
        says("IllegalArgumentException: both are one");
        refused("one", ARGUMENT, y -> y.wed(SINGLE, SINGLE));
        refused("one that is none", INDEX, y -> y.wed(CITIZENS, CITIZENS));
        refused("one that is none, below", INDEX, y -> y.wed(-1, -1));
        refused("one that is dead", ARGUMENT, y -> y.wed(DEAD, DEAD));
        refused("one that is wed", ARGUMENT, y -> y.wed(0, 0));
        says("IllegalStateException: one is dead, or has a SPOUSE.");
        refused("dead", STATE, y -> y.wed(DEAD, SINGLE));
        refused("with a dead one", STATE, y -> y.wed(SINGLE, DEAD));
        refused("wed", STATE, y -> y.wed(0, SINGLE));
        refused("with a wed one", STATE, y -> y.wed(SINGLE, 1));
        refused("again", STATE, y -> y.wed(0, 1));
    }

    private static EarCode ten() {
        return make(null, repeat(ONE + ";", 9) + ONE);
    }

    private static void babiesAndDays() {
        promise(15);
        says("A BABY: its number.");
        EarCode x = make(null, ONE);
        for (int i = 1; i < 10; i++) {
            is("baby " + i, x.baby(i - 1), i);
        }
        is("ten", x.count(1), 10);
        refused("citizen -1", INDEX, y -> y.baby(-1));
        refused("citizen 6", INDEX, y -> y.baby(CITIZENS));
        refused("the farthest", INDEX, y -> y.baby(MAX));
        is("of the last", lively().baby(CITIZENS - 1), CITIZENS);
        says("IllegalStateException: one is dead");
        refused("dead", STATE, y -> y.baby(DEAD));
        says("UnsupportedOperationException: there are 10.");
        fails("an 11th", UNSUPPORTED, () -> x.baby(9));
        is("nine acts yet", x.count(13), 9);
        is("ten yet", x.count(1), 10);
        EarCode t = ten();
        t.die(4);
        fails("an 11th though one is dead", UNSUPPORTED, () -> t.baby(0));
        fails("an 11th of a dead one", STATE, () -> t.baby(4));
        fails("an 11th of none", INDEX, () -> t.baby(10));
        is("one act", t.count(13), 1);
        promise(16);
        says("Set free: how many DAYS there were yet.");
        for (int days = 1; days <= 30; days++) {
            EarCode r = make("never 1", "citizen fear 0 does 11;" + ONE + " knows 0;term 30");
            r.days(days);
            is("behind " + days, r.release(0), 31 - days);
            is("free", r.count(6), 0);
        }
        refused("citizen -1", INDEX, y -> y.release(-1));
        refused("citizen 6", INDEX, y -> y.release(CITIZENS));
        says("IllegalStateException: one is dead, or free.");
        refused("dead", STATE, y -> y.release(DEAD));
        refused("free", STATE, y -> y.release(0));
        EarCode f = make("never 1", "citizen fear 0 does 11;" + ONE + " knows 0;term 1");
        f.days(2);
        fails("free again", STATE, () -> f.release(0));
        EarCode held = make("never 1", "citizen fear 0 does 11;" + ONE + " knows 0;term 30");
        held.days(1);
        held.die(0);
        fails("who died in it", STATE, () -> held.release(0));
        promise(17);
        says("So many DAYS more (1 to 50): how often somebody was TAKEN.");
        EarCode d = make("never 1", "citizen fear 0 does 11;citizen fear 0 does 11;" + ONE + " knows 0;term 1");
        is("1", d.days(1), 2);
        is("day 1", d.count(4), 1);
        is("50", d.days(50), 50);
        is("day 51", d.count(4), 51);
        is("none", d.days(1), 0);
        is("nobody", new EarCode().days(50), 0);
        says("IllegalArgumentException: they are none.");
        range("days", 1, 50, ARGUMENT, (y, n) -> y.days(n));
    }

    private static void sets() {
        promise(18);
        says("NOBODY, as bits of DEEDS.");
        is("0 and 7", make("never 0;never 7;never 3 if place>0", ONE + " knows 0 1 2").nobody(), 129);
        is("all", make("never 0;never 1;never 2;never 3;never 4;never 5;never 6;never 7", ONE + " knows 0 1 2 3 4 5 6 7").nobody(), 255);
        is("nobody alive", new EarCode().nobody(), 0);
        promise(19);
        says("RELIEF, as bits.");
        is("the last", make(repeat("never 0;", 11) + "always 0", ONE).relief(), 2048);
        is("none", new EarCode().relief(), 0);
        promise(20);
        says("Uses the TAPE up: READ (of each three bytes: the CITIZEN, the MATTER, 1 TAKEN or 0 not): what 0 how many CODES, 1 SURE, 2 POSSIBLE, as bits (0 each without CODES).");
        EarCode x = make("never 7;never 7 if place<7;never 0", repeat(ONE + ";", 9) + ONE);
        is("codes", readOf(x, 0, 9, 63, 1), 4);
        is("used up", x.end(1), false);
        is("sure", readOf(x, 1, 9, 63, 1), 1);
        is("possible", readOf(x, 2, 9, 63, 1), 7);
        is("0 at 0", readOf(x, 1, 0, 0, 1), 4);
        is("not", readOf(x, 2, 9, 62, 0), 4);
        for (int what = 0; what < 3; what++) {
            is("without codes", readOf(x, what, 0, 8, 1), 0);
        }
        for (int what = 0; what < 3; what++) {
            int w = what;
            unchanged("read " + what, y -> readOf(y, w, 0, 8, 1), y -> y.end(0));
        }
        says("IllegalArgumentException: the TAPE is not that (none may be told; a dead one is none)");
        is("none told", readOf(x, 0), 8);
        is("the last citizen, matter, 1", readOf(x, 0, 9, 63, 1), 4);
        is("the first citizen, matter, 0", readOf(x, 0, 0, 0, 0), 4);
        fails("citizen 10", ARGUMENT, () -> readOf(x, 0, 10, 0, 0));
        int[][] wrong = {{CITIZENS, 8, 1}, {255, 8, 1}, {0, 64, 1}, {0, 255, 1}, {0, 8, 2}, {0, 8, 255}, {0}, {0, 8}, {0, 8, 1, 0},
            {0, 8, 1, 0, 8}, {DEAD, 8, 1}, {DEAD, 8, 0}, {0, 8, 1, DEAD, 8, 1}, {0, 8, 1, 0, 64, 1}};
        for (int[] bytes : wrong) {
            for (int what = 0; what < 3; what++) {
                int w = what;
                refusedTape("wrong", ARGUMENT, y -> y.read(w), bytes);
            }
        }
        int[] full = new int[400];
        refusedTape("400 bytes are no rows", ARGUMENT, y -> y.read(0), full);
        fails("nobody", ARGUMENT, () -> readOf(new EarCode(), 0, 0, 0, 0));
        says("NoSuchElementException: another what.");
        for (int what : new int[] {-1, 3, MIN, MAX}) {
            refusedTape("what " + what, ELEMENT, y -> y.read(what), 0, 8, 1);
            refusedTape("what " + what + " of none", ELEMENT, y -> y.read(what));
            refusedTape("what " + what + ", and a wrong tape", ARGUMENT, y -> y.read(what), 0, 8, 2);
        }
        promise(21);
        says("Uses the TAPE up: NEXT; NONE.");
        EarCode n = make("never 7 if place>6", ONE);
        is("next", nextOf(n, 0), 63);
        is("none", nextOf(n, 0, 0, 63, 1), -1);
        is("used up", n.end(1), false);
        is("the last citizen", nextOf(x, 9), 0);
        unchanged("next", y -> nextOf(y, 0, 0, 8, 1), y -> y.end(0));
        says("IndexOutOfBoundsException: there is no such CITIZEN");
        for (int citizen : new int[] {-1, CITIZENS, MIN, MAX}) {
            refusedTape("citizen " + citizen, INDEX, y -> y.next(citizen), 0, 8, 1);
            refusedTape("citizen " + citizen + ", and a wrong tape", INDEX, y -> y.next(citizen), 0, 8);
        }
        fails("nobody", INDEX, () -> nextOf(new EarCode(), 0));
        says("IllegalArgumentException: the TAPE is not that");
        for (int[] bytes : wrong) {
            refusedTape("wrong", ARGUMENT, y -> y.next(0), bytes);
            refusedTape("wrong, and dead", ARGUMENT, y -> y.next(DEAD), bytes);
        }
        says("IllegalStateException: that one is dead.");
        refusedTape("dead", STATE, y -> y.next(DEAD), 0, 8, 1);
        refusedTape("dead, none told", STATE, y -> y.next(DEAD));
    }

    private static void knowersAndRisks() {
        promise(22);
        says("COVER, as bits.");
        is("the last", make("never 0", repeat(ONE + ";", 9) + ONE + " knows 0").cover(), 512);
        is("nobody", new EarCode().cover(), 0);
        promise(23);
        says("DIES, as bits.");
        is("the last", make(TWELVE, ONE + " knows 11").dies(0), 2048);
        refused("citizen -1", INDEX, y -> y.dies(-1));
        refused("citizen 6", INDEX, y -> y.dies(CITIZENS));
        says("IllegalStateException: one is dead.");
        refused("dead", STATE, y -> y.dies(DEAD));
        promise(24);
        says("HEIRS; NONE.");
        EarCode h = make(TWELVE, repeat(ONE + ";", 9) + ONE + " knows 0 1 2 3 4 5 6 7 8 9 10 11");
        is("for 1", h.heirs(1), 0);
        is("for 10", h.heirs(10), 108);
        h.die(0);
        is("for 10 of 9", h.heirs(10), -1);
        is("for 9 of 9", h.heirs(9), 96);
        says("IllegalArgumentException: K is none.");
        range("k", 1, 10, ARGUMENT, (y, n) -> y.heirs(n));
        fails("0 of nobody", ARGUMENT, () -> new EarCode().heirs(0));
        fails("11 of nobody", ARGUMENT, () -> new EarCode().heirs(11));
        promise(25);
        says("RISK.");
        is("all sixty", make("never 0", ONE + ";citizen fear 0 does 77 knows 0").risk(0, 60), 60);
        is("none of sixty", make("never 0", ONE).risk(0, 60), 0);
        refused("citizen -1", INDEX, y -> y.risk(-1, 1));
        refused("citizen 6", INDEX, y -> y.risk(CITIZENS, 1));
        says("IllegalArgumentException: N is none");
        range("n", 1, 60, ARGUMENT, (y, n) -> y.risk(0, n));
        refused("no citizen, no n", INDEX, y -> y.risk(CITIZENS, 0));
        says("IllegalStateException: one is dead.");
        refused("dead", STATE, y -> y.risk(DEAD, 1));
        refused("dead, no n", ARGUMENT, y -> y.risk(DEAD, 0));
        refused("dead, no n above", ARGUMENT, y -> y.risk(DEAD, 61));
        promise(26);
        says("SAFE: the PLACE; NONE.");
        EarCode s = make("never 7 if place<7;never 0", ONE + " knows 0 1");
        is("7 of deed 7", s.safe(0, 7), 7);
        is("none of deed 0", s.safe(0, 0), -1);
        is("0 of deed 1", s.safe(0, 1), 0);
        range("deed", 0, 7, INDEX, (y, n) -> y.safe(0, n));
        refused("citizen -1", INDEX, y -> y.safe(-1, 0));
        refused("citizen 6", INDEX, y -> y.safe(CITIZENS, 0));
        says("IllegalStateException: one is dead.");
        refused("dead", STATE, y -> y.safe(DEAD, 0));
        refused("dead, no deed", INDEX, y -> y.safe(DEAD, 8));
        refused("dead, no deed below", INDEX, y -> y.safe(DEAD, -1));
        promise(27);
        says("BETTER.");
        is("by 5", make("never 0", "citizen fear 0 does 00 01 02 03 04 10;citizen fear 0 does 77 knows 0").better(0, 1), 5);
        is("by 0", make(null, "citizen fear 0 does 00 01 02 03 04 10").better(0, 60), 0);
        refused("citizen -1", INDEX, y -> y.better(-1, 1));
        refused("citizen 6", INDEX, y -> y.better(CITIZENS, 1));
        says("IllegalArgumentException: N is none");
        range("n", 1, 60, ARGUMENT, (y, n) -> y.better(0, n));
        refused("no citizen, no n", INDEX, y -> y.better(CITIZENS, 61));
        says("IllegalStateException: one is dead.");
        refused("dead", STATE, y -> y.better(DEAD, 60));
        refused("dead, no n", ARGUMENT, y -> y.better(DEAD, 0));
        refused("dead, no n above", ARGUMENT, y -> y.better(DEAD, 61));
        promise(28);
        says("TELLING: 100 times the CITIZEN and the CLAUSE (less false), or by how much; NONE (0).");
        EarCode t = make(TWELVE, "citizen fear 0 does 77 knows 11;" + repeat("citizen fear 0 does 77;", 8) + ONE);
        is("9 of 11", t.telling(60, false), 911);
        is("by sixty", t.telling(60, true), 60);
        EarCode none = make("never 0", ONE + " knows 0");
        is("none", none.telling(1, false), -1);
        is("0", none.telling(1, true), 0);
        says("IllegalArgumentException: N is none.");
        range("n", 1, 60, ARGUMENT, (y, n) -> y.telling(n, false));
        range("n, less", 1, 60, ARGUMENT, (y, n) -> y.telling(n, true));
        fails("0 of nobody", ARGUMENT, () -> new EarCode().telling(0, true));
    }

    private static void fears() {
        promise(29);
        says("DEDUCED, as bits.");
        is("the last", make(repeat("never 0;", 11) + "never 7", ONE + ";" + ONE + " knows 11;seen 0 77").deduced(0), 2048);
        is("none", make("never 0", ONE).deduced(0), 0);
        refused("citizen -1", INDEX, y -> y.deduced(-1));
        refused("citizen 6", INDEX, y -> y.deduced(CITIZENS));
        says("IllegalStateException: one is dead.");
        refused("dead", STATE, y -> y.deduced(DEAD));
        promise(30);
        says("HUSH, as bits of PLACES.");
        is("at 0 and 7", make("never 7 if place<1 or place>6", ONE + " knows 0").hush(7), 129);
        range("deed", 0, 7, INDEX, (y, n) -> y.hush(n));
        fails("of nobody", INDEX, () -> new EarCode().hush(8));
        promise(31);
        says("USUAL; NONE.");
        is("7", make(null, "citizen fear 0 does 77").usual(7), 7);
        is("0", make(null, "citizen fear 0 does 00").usual(0), 0);
        is("none", make(null, "citizen fear 0 does 00").usual(7), -1);
        range("place", 0, 7, INDEX, (y, n) -> y.usual(n));
        promise(32);
        says("FEARED by all ALIVE (all), or by nobody ALIVE, as bits of a long (without anybody 0).");
        EarCode x = make(null, ONE + ";" + ONE + ";seen 0 77;seen 1 77;seen 0 00");
        is("by all", x.feared(true), 1L << 63);
        is("by nobody", x.feared(false), ~(1L << 63 | 1L));
        x.die(0);
        is("by 1", x.feared(true), 1L << 63);
        is("not by 1", x.feared(false), ~(1L << 63));
        x.die(1);
        is("without anybody", x.feared(true), 0);
        is("without anybody, by nobody", x.feared(false), 0);
        is("of an empty republic", new EarCode().feared(false), 0);
        promise(33);
        says("CUSTOM.");
        EarCode c = make(null, ONE + ";" + ONE + ";seen 0 77");
        is("0", c.custom(0), 1);
        is("30", c.custom(30), 2);
        unchanged("custom", y -> y.custom(30), y -> { });
        says("IllegalArgumentException: N is none.");
        range("n", 0, 30, ARGUMENT, (y, n) -> y.custom(n));
        promise(34);
        says("SETTLES; NONE.");
        is("1", c.settles(), 1);
        is("0", new EarCode().settles(), 0);
        unchanged("settles", y -> y.settles(), y -> { });
        promise(35);
        says("PROVOKED: the greatest worth (second false), or the second.");
        EarCode p = make("never 1", "citizen fear 0 does 11 22 knows 0;citizen fear 0 does 11;harm 1 99;harm 2 99");
        is("99", p.provoked(0, false), 99);
        is("-99", p.provoked(0, true), -99);
        is("-99 alone", p.provoked(1, false), -99);
        is("none behind it", p.provoked(1, true), 0);
        refused("citizen -1", INDEX, y -> y.provoked(-1, false));
        refused("citizen 6", INDEX, y -> y.provoked(CITIZENS, true));
        says("IllegalStateException: one is dead.");
        refused("dead", STATE, y -> y.provoked(DEAD, false));
        refused("dead, second", STATE, y -> y.provoked(DEAD, true));
    }

    private static void ahead() {
        promise(36);
        says("CROWD, as bits.");
        is("all ten at 0", ten().crowd(0, 60), 1023);
        is("none at 7", ten().crowd(7, 0), 0);
        range("place", 0, 7, INDEX, (y, n) -> y.crowd(n, 0));
        says("IllegalArgumentException: the DAYS are none.");
        range("days", 0, 60, ARGUMENT, (y, n) -> y.crowd(0, n));
        refused("no place, no days", INDEX, y -> y.crowd(8, 61));
        refused("no place, no days below", INDEX, y -> y.crowd(-1, -1));
        promise(37);
        says("WITNESSES.");
        is("all sixty", ten().witnesses(0, 9, 60), 60);
        is("none", make(null, ONE + ";citizen fear 0 does 77").witnesses(0, 1, 60), 0);
        refused("citizen -1", INDEX, y -> y.witnesses(-1, 1, 1));
        refused("citizen 6", INDEX, y -> y.witnesses(CITIZENS, 1, 1));
        refused("other -1", INDEX, y -> y.witnesses(1, -1, 1));
        refused("other 6", INDEX, y -> y.witnesses(1, CITIZENS, 1));
        is("the last", thrown(() -> lively().witnesses(CITIZENS - 1, DEAD, 1)) == null, true);
        says("IllegalArgumentException: both are one, or N is none (1 to 60).");
        refused("one", ARGUMENT, y -> y.witnesses(0, 0, 1));
        refused("one that is none", INDEX, y -> y.witnesses(CITIZENS, CITIZENS, 1));
        range("n", 1, 60, ARGUMENT, (y, n) -> y.witnesses(0, DEAD, n));
        refused("no other, no n", INDEX, y -> y.witnesses(0, CITIZENS, 0));
        refused("no citizen, no n", INDEX, y -> y.witnesses(-1, 0, 61));
        refused("one, no n", ARGUMENT, y -> y.witnesses(0, 0, 0));
        promise(38);
        says("TRIAL what 0 TAKEN, 1 HARM, 2 who, as bits, 3 SEEN in sum.");
        EarCode t = make("never 1", repeat("citizen fear 0 does 11;", 9) + ONE + " knows 0;harm 1 99");
        int[] want = {9, 891, 511, 9};
        for (int what = 0; what < 4; what++) {
            int w = what;
            is("what " + what, t.trial(1, what), want[what]);
            is("what of no day " + what, t.trial(0, what), 0);
            unchanged("trial", y -> y.trial(40, w), y -> { });
        }
        says("IllegalArgumentException: N is none");
        range("n", 0, 40, ARGUMENT, (y, n) -> y.trial(n, 0));
        says("NoSuchElementException: another what.");
        range("what", 0, 3, ELEMENT, (y, n) -> y.trial(0, n));
        refused("no n, no what", ARGUMENT, y -> y.trial(41, 4));
        refused("no n, no what below", ARGUMENT, y -> y.trial(-1, -1));
        promise(39);
        says("SPAN: the fewest (most false), or the most.");
        EarCode s = make("never 1", "citizen fear 0 does 11;" + ONE + " knows 0;watch " + (draw(1) + 1));
        is("the fewest", s.span(1, false), draw(1) == greatestDraw() ? 1 : 0);
        is("the most", s.span(1, true), 1);
        unchanged("span", y -> y.span(40, true), y -> { });
        says("IllegalArgumentException: N is none.");
        range("n", 0, 40, ARGUMENT, (y, n) -> y.span(n, false));
        range("n, most", 0, 40, ARGUMENT, (y, n) -> y.span(n, true));
        promise(40);
        says("FIRST; NONE.");
        is("1", t.first(), 1);
        is("none", ten().first(), -1);
        unchanged("first", y -> y.first(), y -> { });
    }

    private static int greatestDraw() {
        int most = 0;
        for (int seed = 1; seed <= 6; seed++) {
            most = Math.max(most, draw(seed));
        }
        return most;
    }

    private static void logs() {
        promise(41);
        says("LED (citizen NONE: of all), as bits.");
        EarCode x = make(repeat("never 0;", 11) + "never 1", "citizen fear 0 does 11;citizen fear 0 does 66 knows 11");
        x.days(1);
        is("of all", x.led(EarCode.NONE), 2048);
        is("of 0", x.led(0), 2048);
        is("of 1", x.led(1), 0);
        range("citizen", -1, CITIZENS - 1, INDEX, (y, n) -> y.led(n));
        is("of nobody", new EarCode().led(-1), 0);
        fails("0 of nobody", INDEX, () -> new EarCode().led(0));
        promise(42);
        says("WORST; NONE.");
        is("11", x.worst(), 11);
        is("none", new EarCode().worst(), -1);
        EarCode many = make("never 1;never 2", repeat("citizen fear 0 does 11 22;", 9) + ONE + " knows 0 1;term 1");
        many.days(1);
        is("0", many.worst(), 0);
        promise(43);
        says("THE LOG so many ago (0 the latest) what 0 DAY, 1 who, 2 the MATTER, 3 the CLAUSE; NONE without.");
        many.days(13);
        is("sixty rows", many.count(10), 60);
        is("the latest", many.log(0, 0) * 1000 + many.log(0, 1) * 100 + many.log(0, 2) + many.log(0, 3), 12809);
        is("the oldest: the fourth of day 0", many.log(59, 0) * 1000 + many.log(59, 1) * 100 + many.log(59, 2) + many.log(59, 3), 309);
        for (int ago : new int[] {-1, 60, 61, MIN, MAX}) {
            for (int what = 0; what < 4; what++) {
                is("ago " + ago, many.log(ago, what), -1);
            }
        }
        is("of an empty log", new EarCode().log(0, 3), -1);
        says("NoSuchElementException: another what.");
        range("what", 0, 3, ELEMENT, (y, n) -> y.log(0, n));
        range("what of none", 0, 3, ELEMENT, (y, n) -> y.log(-1, n));
        fails("of an empty log", ELEMENT, () -> new EarCode().log(0, 4));
        promise(44);
        says("SEED: what it was.");
        EarCode s = new EarCode();
        is("1 at first", s.seed(MAX), 1);
        is("the greatest", s.seed(MIN), MAX);
        is("the least", s.seed(0), MIN);
        is("0", s.seed(-1), 0);
        is("-1", s.seed(5), -1);
        is("no act", s.count(13), 0);
    }

    private static void goingBack() {
        promise(45);
        says("UNDONE: whether there was one.");
        is("none", new EarCode().undo(), false);
        EarCode x = ten();
        for (int i = 0; i < 11; i++) {
            x.days(1);
        }
        for (int i = 0; i < 10; i++) {
            is("one", x.undo(), true);
        }
        is("no eleventh", x.undo(), false);
        is("a day stays", x.count(4), 1);
        unchanged("undoing what there is not", y -> {
            for (int i = 0; i < ACTS + 5; i++) {
                y.undo();
            }
        }, y -> {
            for (int i = 0; i < y.count(13) + ACTS; i++) {
                y.undo();
            }
        });
        undoOfEach("tell", y -> y.tell(SINGLE, 0));
        undoOfEach("die", y -> y.die(0));
        undoOfEach("die of one taken", y -> y.die(HELD));
        undoOfEach("wed", y -> y.wed(SINGLE, HELD));
        undoOfEach("baby", y -> y.baby(0));
        undoOfEach("release", y -> y.release(HELD));
        undoOfEach("days", y -> y.days(50));
        promise(46);
        says("THE IMAGE is kept.");
        EarCode i = lively();
        i.image();
        is("acts stay", i.count(13), ACTS);
        i.days(1);
        is("back", i.back(), true);
        EarCode fresh = lively();
        is("all as it was", withoutActs(i).equals(withoutActs(fresh)), true);
        unchanged("an image of an image", y -> {
            y.back();
            y.image();
            y.days(1);
            y.back();
        }, y -> y.back());
        promise(47);
        says("One goes back to THE IMAGE: true");
        EarCode b = lively();
        is("back", b.back(), true);
        is("its day", b.count(4), 3);
        is("its living", b.count(2), CITIZENS);
        is("no acts", b.count(13), 0);
        is("again", b.back(), true);
        EarCode bare = new EarCode();
        bare.image();
        codeOf(bare, "never 1");
        is("back to no code", bare.back(), true);
        is("none", bare.count(0), -1);
        is("another may be told", codeOf(bare, "never 2;never 3"), 2);
        says("false, and nothing happens, if none was kept.");
        EarCode c = make("never 1", "citizen fear 0 does 11");
        EarCode d = make("never 1", "citizen fear 0 does 11");
        c.days(1);
        d.days(1);
        tape(c, LEFT);
        tape(d, LEFT);
        is("none", c.back(), false);
        same("nothing happens", c, d);
        is("the act is remembered", c.undo(), true);
        is("the tape is there", pictureOfTape(c).get(0), 0);
    }

    private static List<Long> withoutActs(EarCode x) {
        List<Long> all = picture(x);
        all.set(14, 0L);
        return all;
    }

    private static void undoOfEach(String what, Consumer<EarCode> act) {
        EarCode counted = lively();
        act.accept(counted);
        is(what + " is one act", counted.count(13), ACTS + 1);
        unchanged(what + " undone", y -> {
            act.accept(y);
            y.undo();
        }, y -> { });
    }

    private static void counts() {
        promise(48);
        says("0 CLAUSES (NONE without THE CODE), 1 CITIZENS, 2 those ALIVE, 3 texts of THE REPUBLIC, 4 DAY, 5 CLAUSES IN FORCE, as bits, 6 who is TAKEN, as bits, 7 how often somebody was TAKEN, 8 HARM in all, 9 how often one KEPT from something, 10 rows of THE LOG, 11 WATCH, 12 TERM, 13 acts that can be UNDONE.");
        is("without the code", new EarCode().count(0), -1);
        is("of an empty code", make("").count(0), 0);
        EarCode x = make(TWELVE, "citizen fear 0 does 00 11;" + repeat("citizen fear 0 does 11;", 7) + ONE + " knows 11;" + ONE + ";harm 0 99;watch 100;term 30", "", "");
        x.die(1);
        x.days(2);
        int[] want = {12, 10, 9, 3, 2, 2048, 513, 2, 198, 2, 2, 100, 30, 2};
        for (int what = 0; what < 14; what++) {
            is("what " + what, x.count(what), want[what]);
        }
        is("kept from a third time", x.days(1) * 10 + x.count(9), 3);
        says("NONE for another what.");
        for (int what : new int[] {-1, 14, MIN, MAX}) {
            is("what " + what, x.count(what), -1);
        }
    }

    /** Twelve clauses, ten citizens with six matters each who know all but one of them and have seen things. */
    private static EarCode full() {
        EarCode x = make(repeat("never 0;always 0;never 7;always 7 if feast;", 2) + "never 0;never 7 if place>6;never 7 if who>8;never 1");
        for (int c = 0; c < 10; c++) {
            republicOf(x, "citizen fear 100 does 77 00 77 00 77 70 knows 0 1 2 3 4 5 6 7 8 9 10" + (c == 9 ? " 11" : "") + ";seen " + c + " 77");
        }
        for (int c = 0; c < 10; c += 2) {
            x.wed(c, c + 1);
        }
        return x;
    }

    /** What is full in all it has answers each call, up to the last citizen, clause, matter, deed, place. */
    private static void fullRepublic() {
        EarCode x = full();
        is("citizens", x.count(1), 10);
        is("clauses", x.count(0), 12);
        is("in force", x.count(5), 4095);
        is("who knows the last", x.clause(11, 3), 768);
        is("contradicted", x.clause(1, 4), 1 | 16 | 256);
        is("relief", x.relief(), 2 | 8 | 32 | 128);
        is("nobody", x.nobody(), 131);
        is("cover", x.cover(), 256);
        is("dies with 9", x.dies(9), 0);
        is("heirs", x.heirs(10), 8);
        is("risk", x.risk(9, 60), 0);
        is("better", x.better(9, 60), 0);
        is("telling: nothing is less", x.telling(60, false) * 10 + x.telling(60, true), 110);
        is("safe", x.safe(9, 7), -1);
        is("deduced", x.deduced(9), 0);
        is("hush", x.hush(7), 255);
        is("usual at 7", x.usual(7), 7);
        is("usual at 0", x.usual(0), 0);
        is("feared", x.feared(true), Long.MIN_VALUE);
        is("by nobody", x.feared(false), Long.MAX_VALUE);
        is("custom", x.custom(30), 10);
        is("settles", x.settles(), 0);
        is("provoked", x.provoked(9, false) * 10 + x.provoked(9, true), -11);
        is("crowd", x.crowd(7, 60), 1023);
        is("witnesses", x.witnesses(8, 9, 60), 60);
        is("trial", x.trial(40, 0) + x.trial(40, 1) + x.trial(40, 2), 0);
        is("seen in it", x.trial(40, 3), 10);
        is("span", x.span(40, true), 0);
        is("first", x.first(), -1);
        is("days", x.days(50), 0);
        is("kept", x.count(9), 500);
        is("read", readOf(x, 0, 9, 63, 1), (1 << 8) - (1 << 4));
        is("next", nextOf(x, 9, 9, 63, 1), 8);
        is("led", x.led(9) + x.led(-1), 0);
        is("worst", x.worst(), -1);
        fails("a baby more", UNSUPPORTED, () -> x.baby(9));
        is("what dies with all but 9", dieAllBut(x, 9), 0);
        is("the widowed one", x.citizen(9, 4), -1);
        is("what dies with 9", x.die(9), 4095);
    }

    private static int dieAllBut(EarCode x, int left) {
        int gone = 0;
        for (int c = 0; c < 10; c++) {
            gone |= c == left ? 0 : x.die(c);
        }
        return gone;
    }

    private static void exceptions() {
        promise = 0;
        part("THE IMAGE itself). ", "## Promise 1:");
        says("Of several exceptions the one told first is thrown");
        refused("index ahead of element", INDEX, y -> y.clause(CLAUSES, 5));
        refused("index ahead of state", INDEX, y -> y.matter(64, DEAD, 9));
        refused("index ahead of argument", INDEX, y -> y.witnesses(CITIZENS, CITIZENS, 0));
        refused("argument ahead of state", ARGUMENT, y -> y.risk(DEAD, 61));
        refused("argument ahead of element", ARGUMENT, y -> y.trial(41, 4));
        refused("state ahead of element", STATE, y -> y.matter(0, DEAD, 4));
        EarCode ten = ten();
        ten.die(3);
        fails("state ahead of unsupported", STATE, () -> ten.baby(3));
        EarCode twelve = make(null, "", "", "", "", "", "", "", "", "", "", "", "");
        fails("argument ahead of unsupported", ARGUMENT, () -> republicOf(twelve, "?"));
        says("a call that throws changes nothing but the TAPE, where it is used up.");
        refusedTape("read", ARGUMENT, y -> y.read(0), 1);
        refusedTape("next", INDEX, y -> y.next(CITIZENS), 0, 8, 1);
        refused("an act", STATE, y -> y.die(DEAD));
        EarCode x = lively();
        thrown(() -> x.die(DEAD));
        is("the tape of a call that does not use it up", x.end(LEFT.length()), true);
        is("what it tells", x.republic(), 2);
        is("so many", x.count(11), 7);
        says("IndexOutOfBoundsException: there is no such CITIZEN, CLAUSE, MATTER, DEED, PLACE.");
        refused("citizen", INDEX, y -> y.seen(CITIZENS));
        refused("clause", INDEX, y -> y.tell(0, CLAUSES));
        refused("matter", INDEX, y -> y.matter(64, 0, 0));
        refused("deed", INDEX, y -> y.safe(0, 8));
        refused("place", INDEX, y -> y.crowd(8, 0));
        says("IllegalArgumentException: a number is none, or two are one.");
        refused("a number", ARGUMENT, y -> y.days(51));
        refused("two", ARGUMENT, y -> y.wed(SINGLE, SINGLE));
        says("IllegalStateException: one is dead, or it cannot be.");
        refused("dead", STATE, y -> y.baby(DEAD));
        refused("it cannot be", STATE, y -> y.release(0));
        says("Sets are bits; of none they count for nothing.");
        EarCode none = make("", "");
        is("of none", none.nobody() + none.relief() + none.cover() + none.hush(3) + none.led(-1) + none.crowd(3, 3) + none.count(5) + none.count(6), 0);
    }

    public static void main(String[] args) {
        fullRepublic();
        newObject();
        tapes();
        texts();
        faults();
        clausesAndCitizens();
        matters();
        acts();
        babiesAndDays();
        sets();
        knowersAndRisks();
        fears();
        ahead();
        logs();
        goingBack();
        counts();
        exceptions();
        end("each call answers and refuses as the document has it");
    }
}
