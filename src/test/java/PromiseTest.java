/** For each promise of the document: ordinary inputs, its edges, wrong inputs, with answers worked out by hand. */
public final class PromiseTest extends Check {
    private static void badCode(String text, int fault) {
        EarCode x = new EarCode();
        tape(x, text);
        fails("code " + text, ARGUMENT, x::code);
        is("fault of " + text, x.fault(), fault);
        is("clauses behind " + text, x.count(0), -1);
        is("the tape behind " + text, x.end(1), false);
    }

    private static void goodCode(String text, int clauses) {
        EarCode x = new EarCode();
        tape(x, text);
        is("code " + text, x.code(), clauses);
        is("fault of " + text, x.fault(), -1);
        is("count behind " + text, x.count(0), clauses);
    }

    private static void badRepublic(String text, int fault) {
        EarCode x = make("never 0;never 1", "citizen fear 5 does 00;citizen fear 5 does 00;citizen fear 5 does 00");
        x.die(1);
        x.wed(0, 2);
        tape(x, text);
        fails("republic " + text, ARGUMENT, x::republic);
        is("fault of " + text, x.fault(), fault);
        is("texts behind " + text, x.count(3), 1);
        is("citizens behind " + text, x.count(1), 3);
        is("watch behind " + text, x.count(11), 100);
        is("acts behind " + text, x.count(13), 2);
    }

    private static boolean holds(String condition, int matter, int citizen, int day) {
        EarCode x = make("never " + matter / 8 + " if " + condition + ";never 7",
                "citizen fear 0 does 00 knows 0 1;citizen fear 0 does 00;citizen fear 0 does 00 knows 1");
        for (int i = 0; i < day; i++) {
            x.days(1);
        }
        return x.matter(matter, citizen, 0) == 1;
    }

    private static void newObject() {
        promise = 1;
        EarCode x = new EarCode();
        int[] want = {-1, 0, 0, 0, 0, 0, 0, 0, 0, 0, 0, 100, 3, 0};
        for (int what = 0; what < want.length; what++) {
            is("count " + what, x.count(what), want[what]);
        }
        is("fault", x.fault(), -1);
        is("undo", x.undo(), false);
        is("back", x.back(), false);
        is("seed", x.seed(9), 1);
        is("days", x.days(50), 0);
        fails("citizen 0", INDEX, () -> x.citizen(0, 0));
    }

    private static void feedAndEnd() {
        promise = 2;
        EarCode x = new EarCode();
        for (int i = 1; i <= 20; i++) {
            is("feed " + i, x.feed(0x20202020, 0x20202020, 0x20202020, 0x20202020, 0x20202020), 20 * i);
        }
        is("feed beyond 400", x.feed(0, 0, 0, 0, 0), -1);
        promise = 3;
        is("end 401", x.end(401), false);
        is("end -1", x.end(-1), false);
        is("end 400", x.end(400), true);
        is("end 381", x.end(381), true);
        is("feed beyond 400 from 381", x.feed(0, 0, 0, 0, 0), -1);
        is("end 380", x.end(380), true);
        is("feed up to 400", x.feed(0x6e657665, 0x72203120, 0x20202020, 0x20202020, 0x20202020), 400);
        is("a text of 400", x.code(), 1);
        is("used up", x.end(1), false);
        is("nothing", x.end(0), true);
        promise = 2;
        EarCode y = new EarCode();
        is("the highest first", y.feed(0x6e657665, 0x72203520, 0x80ffffff, 0, 0), 20);
        fails("a wrong byte", ARGUMENT, y::code);
        is("where", y.fault(), 8);
    }

    private static void code() {
        promise = 4;
        goodCode("", 0);
        goodCode("    ", 0);
        goodCode("never 1", 1);
        goodCode(" always 007 if feast ", 1);
        goodCode("never1if place<2and(feast)or not(1+day>who+known+999)", 1);
        goodCode("never 0;always 0;never 0;never 0;never 0;never 0;never 0;never 0;never 0;never 0;never 0;never 7", 12);
        goodCode("never 1 if not not not not not not feast", 1);
        goodCode("never 1 if ((((((feast)))))) and not((not(not feast)))", 1);
        badCode(";", 0);
        badCode("never 1;;", 8);
        badCode("never 1 ; ", 10);
        badCode("  never", 7);
        badCode("never   ", 8);
        badCode("Never 1", 0);
        badCode("nevermore 1", 0);
        badCode("citizen 1", 0);
        badCode("never if", 6);
        badCode("never 0001", 6);
        badCode("never 8", 6);
        badCode("never 10", 6);
        badCode("never 1 if place <", 18);
        badCode("never 1 if place < ;", 19);
        badCode("never 1 if ;", 11);
        badCode("never 1 if not ;", 15);
        badCode(repeat("(", 400), 0);
        badCode(repeat("x1", 200), 0);
        badCode("never 1 if " + repeat("1+", 194), 399);
        badCode("never 1 1", 8);
        badCode("never 1 and feast", 8);
        badCode("never 1 if 1000 > place", 11);
        badCode("never 1 if 999 > feast", 17);
        badCode("never 1 if feast > 1", 17);
        badCode("never 1 if (place) > 1", 17);
        badCode("never 1 if place + > 1", 19);
        badCode("never 1 if place 1", 17);
        badCode("never 1 if place < 1 < 2", 21);
        badCode("never 1 if feast)", 16);
        badCode("never 1 if (feast;", 17);
        badCode("never 1 if iffeast", 11);
        badCode("never 1 if feast or", 19);
        badCode("never 1 if feast and or", 21);
        badCode("never 1 if not", 14);
        badCode("never 1 if (((((((feast)))))))", 17);
        badCode("never 1 if not (not (not (not feast)))", 26);
    }

    private static void moreCode() {
        promise = 4;
        badCode(repeat("never 1;", 12) + "never 1", 96);
        badCode(repeat("never 1;", 12), 96);
        badCode(repeat("never 1;", 12) + "  7", 98);
        EarCode x = make("never 1");
        tape(x, "never");
        fails("wrong text ahead of told", ARGUMENT, x::code);
        tape(x, "never 2");
        fails("told twice", STATE, x::code);
        is("fault of a right text", x.fault(), -1);
        is("the first stays", x.clause(0, 1), 1);
        EarCode y = make(null, "citizen fear 1 does 00");
        tape(y, "never 2");
        fails("behind a citizen", STATE, y::code);
        is("no code", y.count(0), -1);
        is("used up", y.end(1), false);
        EarCode z = make("");
        fails("an empty code was told", STATE, z::code);
    }

    private static void conditions() {
        promise = 4;
        is("place", holds("place > 3", 4, 0, 0), true);
        is("place edge", holds("place > 3", 3, 0, 0), false);
        is("place other side", holds("3 > place", 3, 0, 0), false);
        is("below", holds("place < 3", 10, 0, 0), true);
        is("who", holds("who > 0 and who < 2", 0, 1, 0), true);
        is("who not", holds("who > 0 and who < 2", 0, 2, 0), false);
        is("known", holds("known + known > 3", 0, 0, 0), true);
        is("known of one", holds("known + known > 3", 0, 2, 0), false);
        is("day", holds("day + place > 4 + 1", 3, 0, 3), true);
        is("day not", holds("day + place > 4 + 1", 3, 0, 2), false);
        is("feast", holds("feast", 0, 0, 7), true);
        is("feast not", holds("feast", 0, 0, 6), false);
        is("not feast", holds("not feast", 0, 0, 6), true);
        is("and binds more", holds("feast or feast and not feast", 0, 0, 0), true);
        is("and binds more, ahead", holds("feast and not feast or feast", 0, 0, 0), true);
        is("not binds most", holds("not feast or feast", 0, 0, 0), true);
        is("brackets", holds("(feast or feast) and not feast", 0, 0, 0), false);
        is("deep", holds("not(not(1 < 2 and not 2 < 1) or 1 > 1) and 1 < 2", 0, 0, 0), true);
    }

    private static void republic() {
        promise = 5;
        EarCode x = new EarCode();
        is("empty", x.republic(), 1);
        tape(x, "  ");
        is("blanks", x.republic(), 2);
        tape(x, "citizen fear 100does 07 70 11 11 11 77;watch 0;term 30;harm 7 99 ; seen 0 77;seen 00 00");
        is("all", x.republic(), 3);
        is("fear", x.citizen(0, 2), 100);
        is("habit", x.citizen(0, 5), 6);
        is("matter 07", x.habit(0, 0), 7);
        is("matter 70", x.habit(0, 1), 56);
        is("seen", x.seen(0), 1L << 63 | 1L);
        is("watch", x.count(11), 0);
        is("term", x.count(12), 30);
        is("harm", x.provoked(0, false), 99);
        for (int deed = 0; deed < 8; deed++) {
            is("harm at first", make(null, "citizen fear 0 does " + deed + "0").provoked(0, false), 1);
        }
        for (int i = 4; i <= 12; i++) {
            tape(x, "citizen fear 1 does 00");
            is("text " + i, x.republic(), i);
        }
        tape(x, "watch 100");
        fails("13th", UNSUPPORTED, x::republic);
        is("nothing came", x.count(11), 0);
        is("fault of a right text", x.fault(), -1);
        tape(x, "watch 1 1");
        fails("wrong ahead of 13th", ARGUMENT, x::republic);
        is("where", x.fault(), 8);
        tape(x, "citizen fear 1 does 00");
        fails("an 11th citizen", ARGUMENT, x::republic);
        is("where", x.fault(), 0);
        is("used up", x.end(1), false);
    }

    private static void weddingsInTexts() {
        promise = 5;
        EarCode x = make("never 0;never 1;never 2", "citizen fear 1 does 00 knows 0 0 2;citizen fear 1 does 00 knows 1;wed 1 0");
        is("pooled", x.citizen(0, 1), 7);
        is("pooled too", x.citizen(1, 1), 7);
        is("spouse", x.citizen(0, 4), 1);
        is("spouse too", x.citizen(1, 4), 0);
        EarCode y = make(null, repeat("citizen fear 1 does 00;", 9) + "citizen fear 1 does 00");
        is("ten", y.count(1), 10);
        EarCode z = make("", repeat("watch 1;", 13) + "watch 2");
        is("14 lines", z.count(11), 2);
        tape(z, repeat("watch 1;", 14) + " watch 2");
        fails("15 lines", ARGUMENT, z::republic);
        is("where", z.fault(), 113);
        is("nothing stays", z.count(11), 2);
    }

    private static void fault() {
        promise = 6;
        badRepublic("watch 1;", 8);
        badRepublic("watch 1;never 1", 8);
        badRepublic("watch 1,watch 1", 7);
        badRepublic("watch 101", 6);
        badRepublic("watch 0100", 6);
        badRepublic("watch", 5);
        badRepublic("watch x", 6);
        badRepublic("term 0", 5);
        badRepublic("term 31", 5);
        badRepublic("harm 8 1", 5);
        badRepublic("harm 1 100", 7);
        badRepublic("harm 1", 6);
        badRepublic("harm 1 1 1", 9);
        badRepublic("fear 1", 0);
        badRepublic("does 1", 0);
        badRepublic("knows 1", 0);
        badRepublic("citizen does 11", 8);
        badRepublic("citizen fear 101 does 11", 13);
        badRepublic("citizen fear 1 knows 1", 15);
        badRepublic("citizen fear 1 does knows 1", 20);
        badRepublic("citizen fear 1 does 1 1", 20);
        badRepublic("citizen fear 1 does 18", 20);
        badRepublic("citizen fear 1 does 81", 20);
        badRepublic("citizen fear 1 does 11 011", 23);
        badRepublic("citizen fear 1 does 11 11 11 11 11 11 11", 38);
        badRepublic("citizen fear 1 does 11 knows", 28);
        badRepublic("citizen fear 1 does 11 knows 2", 29);
        badRepublic("citizen fear 1 does 11 knows 1 2", 31);
        badRepublic("citizen fear 1 does 11 knows 1 knows 1", 31);
        badRepublic("citizen fear 1 does 11;watch 7;wed 3 3", 37);
        badRepublic("citizen fear 1 does 11;wed 3 2", 29);
        badRepublic("citizen fear 1 does 11;wed 0 3", 27);
        badRepublic("citizen fear 1 does 11;wed 3 1", 29);
        badRepublic("citizen fear 1 does 11;wed 3 4", 29);
        badRepublic("wed 1 0", 4);
        badRepublic("seen 1 11", 5);
        badRepublic("seen 3 11", 5);
        badRepublic("seen 0 1", 7);
        badRepublic("seen 0 11 11", 10);
        badRepublic("seen 0000 11", 5);
        EarCode x = make("", "");
        is("a right one", x.fault(), -1);
        tape(x, "?");
        fails("a wrong one", ARGUMENT, x::republic);
        is("first byte", x.fault(), 0);
        x.read(0);
        is("no text is read by read", x.fault(), 0);
        x.image();
        x.back();
        is("it stays when one goes back", x.fault(), 0);
        tape(x, "watch 3");
        x.republic();
        is("right again", x.fault(), -1);
    }

    private static void clauses() {
        promise = 7;
        EarCode x = make("never 3 if place < 2;always 3 if place > 0;always 2;never 3 if who > 0 and place > 6",
                "citizen fear 1 does 00 knows 0 2;citizen fear 1 does 00 knows 2");
        is("never", x.clause(0, 0), 0);
        is("always", x.clause(1, 0), 1);
        is("deed", x.clause(2, 1), 2);
        is("in force", x.clause(0, 2), 1);
        is("not in force", x.clause(1, 2), 0);
        is("who", x.clause(2, 3), 3);
        is("nobody", x.clause(1, 3), 0);
        is("contradicts 0", x.clause(0, 4), 2);
        is("contradicts 1", x.clause(1, 4), 9);
        is("contradicts 2", x.clause(2, 4), 0);
        x.die(1);
        is("of the living alone", x.clause(1, 4), 1);
        is("who is alive", x.clause(2, 3), 1);
        x.die(0);
        is("nobody is alive", x.clause(0, 4), 0);
        fails("clause -1", INDEX, () -> x.clause(-1, 9));
        fails("clause 4", INDEX, () -> x.clause(4, 0));
        fails("what 5", ELEMENT, () -> x.clause(0, 5));
        fails("what -1", ELEMENT, () -> x.clause(0, -1));
    }

    private static void citizens() {
        promise = 8;
        EarCode x = make("never 0;never 1;never 2",
                "citizen fear 7 does 12 34 knows 1;citizen fear 8 does 56 knows 2;seen 0 12;seen 0 77;seen 0 77;wed 0 1");
        int[] want = {1, 6, 7, 0, 1, 2, 10, 6, 2};
        for (int what = 0; what < want.length; what++) {
            is("what " + what, x.citizen(0, what), want[what]);
        }
        x.tell(1, 0);
        is("pooled", x.citizen(0, 7), 7);
        is("known", x.citizen(0, 1), 6);
        x.days(1);
        is("goes on", x.citizen(0, 6), 28);
        x.days(1);
        is("a ring", x.citizen(0, 6), 10);
        x.die(1);
        is("widowed", x.citizen(0, 4), -1);
        is("dead", x.citizen(1, 0), 0);
        is("the dead one has none", x.citizen(1, 4), -1);
        is("what the dead one knew", x.citizen(1, 1), 7);
        fails("citizen 2", INDEX, () -> x.citizen(2, 99));
        fails("citizen -1", INDEX, () -> x.citizen(-1, 0));
        fails("what 9", ELEMENT, () -> x.citizen(0, 9));
        fails("what -1", ELEMENT, () -> x.citizen(0, -1));
        promise = 9;
        is("seen", x.seen(0), 1L << 63 | 1L << 10);
        is("seen by none", x.seen(1), 0);
        fails("seen 2", INDEX, () -> x.seen(2));
        fails("seen -1", INDEX, () -> x.seen(-1));
        promise = 10;
        is("habit 0", x.habit(0, 0), 10);
        is("habit 1", x.habit(0, 1), 28);
        is("habit 2", x.habit(0, 2), -1);
        is("habit -1", x.habit(0, -1), -1);
        is("habit far", x.habit(1, Integer.MAX_VALUE), -1);
        fails("habit of 2", INDEX, () -> x.habit(2, 0));
    }

    private static void matters() {
        promise = 11;
        EarCode x = make("never 1 if who > 0;never 1 if place < 3;always 1;always 1 if known > 0;never 1",
                "citizen fear 1 does 00;citizen fear 1 does 00 knows 0 2;citizen fear 1 does 00 knows 1 3;seen 0 10");
        is("forbidden to 0", x.matter(8, 0, 0), 2);
        is("forbidden to 1", x.matter(8, 1, 0), 3);
        is("at 3", x.matter(11, 1, 0), 1);
        is("demanded of 0", x.matter(8, 0, 1), 4);
        is("demanded of 1", x.matter(8, 1, 1), 12);
        is("0 may", x.matter(8, 0, 2), 1);
        is("1 may not", x.matter(8, 1, 2), 0);
        is("0 has seen it", x.matter(8, 0, 3), 0);
        is("0 dares another", x.matter(9, 0, 3), 1);
        is("1 does not dare", x.matter(9, 1, 3), 0);
        is("another deed", x.matter(63, 1, 0), 0);
        x.die(2);
        is("clause 1 died", x.matter(8, 1, 0), 1);
        fails("matter 64", INDEX, () -> x.matter(64, 0, 0));
        fails("matter -1", INDEX, () -> x.matter(-1, 2, 7));
        fails("citizen 3", INDEX, () -> x.matter(0, 3, 0));
        fails("dead", STATE, () -> x.matter(0, 2, 9));
        fails("what 4", ELEMENT, () -> x.matter(0, 0, 4));
        fails("what -1", ELEMENT, () -> x.matter(0, 0, -1));
    }

    private static void acts() {
        EarCode x = make("never 0;never 1;never 2;never 3",
                "citizen fear 1 does 00;citizen fear 2 does 11 22 knows 1;citizen fear 3 does 33 knows 1 2;seen 1 11");
        promise = 12;
        is("told", x.tell(0, 0), 1);
        is("told more", x.tell(1, 3), 2);
        is("known", x.citizen(1, 1), 10);
        fails("knows it", STATE, () -> x.tell(1, 3));
        fails("no citizen", INDEX, () -> x.tell(3, 0));
        fails("no clause", INDEX, () -> x.tell(0, 4));
        fails("clause -1", INDEX, () -> x.tell(0, -1));
        promise = 15;
        x.days(1);
        is("a baby", x.baby(1), 3);
        int[] want = {1, 0, 2, 0, -1, 2, 9, 0, 0};
        for (int what = 0; what < want.length; what++) {
            is("the baby's " + what, x.citizen(3, what), want[what]);
        }
        fails("no parent", INDEX, () -> x.baby(4));
        promise = 14;
        fails("one alone", ARGUMENT, () -> x.wed(2, 2));
        fails("none alone", INDEX, () -> x.wed(4, 4));
        fails("no other", INDEX, () -> x.wed(2, -1));
        is("wed", x.wed(2, 0), 7);
        is("both know", x.citizen(0, 1), 7);
        fails("has a spouse", STATE, () -> x.wed(1, 2));
        fails("has a spouse too", STATE, () -> x.wed(0, 1));
        promise = 13;
        is("what dies", x.die(2), 0);
        is("what dies with 1", x.die(1), 8);
        fails("dead", STATE, () -> x.die(1));
        fails("none", INDEX, () -> x.die(9));
        is("in force", x.count(5), 7);
        promise = 12;
        fails("the dead hear nothing", STATE, () -> x.tell(1, 0));
        promise = 14;
        fails("the dead wed not", STATE, () -> x.wed(0, 1));
        is("the widowed may", x.wed(0, 3), 7);
        promise = 15;
        fails("the dead bear not", STATE, () -> x.baby(1));
        for (int i = 4; i < 10; i++) {
            is("baby " + i, x.baby(0), i);
        }
        fails("an 11th", UNSUPPORTED, () -> x.baby(0));
        fails("an 11th of a dead one", STATE, () -> x.baby(1));
    }

    private static void days() {
        promise = 17;
        // 0 is taken at place 1 on DAY 0; 1 sees it, being there; 2 is elsewhere.
        EarCode x = make("never 1", "citizen fear 0 does 11 22;citizen fear 100 does 31 11;citizen fear 0 does 32 31 knows 0;harm 1 9;term 2");
        is("a day", x.days(1), 1);
        is("taken", x.citizen(0, 3), 2);
        is("seen by 0", x.seen(0), 1L << 9);
        is("seen by 1", x.seen(1), 1L << 9);
        is("seen by 2", x.seen(2), 0);
        is("harm", x.count(8), 9);
        is("in log", x.log(0, 2), 9);
        // DAY 1: 1 fears 11, which it has seen, with all its fear; 0 is held.
        is("another", x.days(1), 0);
        is("kept", x.count(9), 1);
        is("taken yet", x.citizen(0, 3), 1);
        is("0 goes on nonetheless", x.citizen(0, 6), 9);
        is("day", x.count(4), 2);
        is("free again at the end", x.days(1), 0);
        is("free", x.citizen(0, 3), 0);
        is("taken once", x.count(7), 1);
        fails("0 days", ARGUMENT, () -> x.days(0));
        fails("51 days", ARGUMENT, () -> x.days(51));
        is("50 days", x.days(50) >= 0, true);
        is("day 53", x.count(4), 53);
        promise = 16;
        EarCode y = make("never 1", "citizen fear 0 does 11;citizen fear 0 does 32 knows 0");
        fails("free", STATE, () -> y.release(0));
        y.days(1);
        is("released", y.release(0), 3);
        is("free", y.citizen(0, 3), 0);
        fails("free again", STATE, () -> y.release(0));
        fails("none", INDEX, () -> y.release(2));
        y.days(1);
        y.die(0);
        is("the dead are not taken", y.count(6), 0);
        fails("dead", STATE, () -> y.release(0));
    }

    private static int drawsBelow(int seed, int n, int[] out) {
        for (int i = 0; i < n; i++) {
            seed = 1103515245 * seed + 12345;
            out[i] = (seed >>> 16 & 32767) % 100;
        }
        return seed;
    }

    private static void draws() {
        promise = 17;
        // Fear is drawn by numbers first, then the watch, each only where it is asked.
        int[] draw = new int[4];
        int last = drawsBelow(1, 4, draw);
        EarCode x = make("never 1", "citizen fear " + draw[0] + " does 11;citizen fear " + (draw[1] + 1)
                + " does 21;citizen fear 0 does 11;citizen fear 0 does 77 knows 0;seen 0 11;seen 1 21;watch " + (draw[2] + 1));
        int taken = x.days(1);
        // 0 does it, as its draw is not below its fear; 1 keeps; 2 has not seen it.
        is("kept", x.count(9), 1);
        is("harm", x.count(8), 2);
        is("taken", taken, 1 + (draw[3] <= draw[2] ? 1 : 0));
        is("the seed behind four draws", x.seed(1), last);
        promise = 44;
        EarCode y = make("never 1", "citizen fear 0 does 11;citizen fear 0 does 77 knows 0;watch 0");
        is("seed", y.seed(-5), 1);
        y.days(1);
        is("drawn once", y.seed(0), 1103515245 * -5 + 12345);
        is("what it was", y.seed(Integer.MIN_VALUE), 0);
        is("nobody is taken", y.count(7), 0);
        is("but harm is done", y.count(8), 1);
        is("not an act", y.count(13), 1);
    }

    private static void sets() {
        promise = 18;
        EarCode x = make("never 0;never 1 if place < 4;never 1 if place > 2;never 2 if who < 1;never 3;always 0",
                "citizen fear 0 does 00 knows 0 1 2 3;citizen fear 0 does 00");
        is("nobody", x.nobody(), 3);
        x.die(1);
        is("nobody left", x.nobody(), 7);
        x.die(0);
        is("without anybody", x.nobody(), 0);
        promise = 19;
        // 0, 1 and 2 (never 0) against 3 (always 0); 4 (never 1) against 5 (always 1).
        EarCode y = make("never 0;never 0 if feast;never 0 if place < 1;always 0;never 1;always 1;always 2",
                "citizen fear 0 does 00");
        is("relief", y.relief(), 8 | 16);
        y.days(1);
        is("relief without a feast", y.relief(), 8 | 16);
        EarCode z = make("always 0;never 0;never 1 if who > 0;always 1", "citizen fear 0 does 00");
        is("the least", z.relief(), 1);
        z.baby(0);
        is("the least of both", z.relief(), 5);
        z.die(0);
        z.die(1);
        is("without anybody", z.relief(), 0);
        promise = 22;
        EarCode c = make("never 0;never 0;never 0;never 0",
                "citizen fear 0 does 00 knows 0 1;citizen fear 0 does 00 knows 2;citizen fear 0 does 00 knows 1 2;citizen fear 0 does 00 knows 0");
        is("cover", c.cover(), 3);
        c.tell(2, 0);
        is("cover by one", c.cover(), 4);
        c.die(2);
        is("cover by two again", c.cover(), 3);
        promise = 23;
        is("dies with 0", c.dies(0), 2);
        is("dies with 1", c.dies(1), 4);
        is("dies with 3", c.dies(3), 0);
        fails("dead", STATE, () -> c.dies(2));
        fails("none", INDEX, () -> c.dies(4));
        promise = 24;
        is("heirs 1", c.heirs(1), 0);
        is("heirs 2", c.heirs(2), 2);
        is("heirs 3", c.heirs(3), 5);
        is("heirs 4", c.heirs(4), -1);
        is("heirs 10", c.heirs(10), -1);
        fails("heirs 0", ARGUMENT, () -> c.heirs(0));
        fails("heirs 11", ARGUMENT, () -> c.heirs(11));
        is("no cover", make("never 0", "citizen fear 0 does 00").cover(), 0);
    }

    private static void reading() {
        promise = 20;
        EarCode x = make("never 1;never 1 if place > 3;always 1;never 2 if known < 1;never 1 if who > 0",
                "citizen fear 0 does 00;citizen fear 0 does 00 knows 0;citizen fear 0 does 00");
        x.die(2);
        is("nothing watched", readOf(x, 0), 16);
        is("nothing sure", readOf(x, 1), 0);
        is("all possible", readOf(x, 2), 27);
        is("two of them may", readOf(x, 0, 1, 8, 1), 12);
        is("none is sure", readOf(x, 1, 1, 8, 1), 0);
        is("0 did it too", readOf(x, 1, 1, 8, 1, 0, 8, 0), 16);
        is("0 did it too, possible", readOf(x, 2, 1, 8, 1, 0, 8, 0), 26);
        is("who knows nothing", readOf(x, 1, 0, 16, 1), 8);
        is("who knows something", readOf(x, 0, 1, 16, 1), 0);
        is("sure of no codes", readOf(x, 1, 1, 16, 1), 0);
        is("possible of no codes", readOf(x, 2, 1, 16, 1), 0);
        is("both", readOf(x, 0, 0, 8, 1, 0, 8, 0), 0);
        fails("dead", ARGUMENT, () -> readOf(x, 0, 2, 8, 1));
        fails("none", ARGUMENT, () -> readOf(x, 9, 3, 8, 1));
        fails("matter", ARGUMENT, () -> readOf(x, 0, 0, 64, 1));
        fails("neither", ARGUMENT, () -> readOf(x, 0, 0, 8, 2));
        fails("too short", ARGUMENT, () -> readOf(x, 0, 0, 8, 1, 0));
        fails("what 3", ELEMENT, () -> readOf(x, 3, 0, 8, 1));
        is("used up", x.end(1), false);
        fails("what -1", ELEMENT, () -> readOf(x, -1));
        promise = 21;
        is("next", nextOf(x, 0), 8);
        // Left are 0 or 4 for sure: 12 codes; matter 8 of 0 asks for clause 0: 8 against 4;
        // matter 16 of 0 asks for clause 3: 6 against 6.
        is("next behind one", nextOf(x, 0, 1, 8, 1), 16);
        is("next of 1", nextOf(x, 1, 0, 8, 0), 8);
        is("one code", nextOf(x, 0, 0, 16, 0, 1, 12, 0, 1, 8, 0, 0, 12, 0), -1);
        is("no code", nextOf(x, 0, 1, 16, 1), -1);
        fails("no citizen", INDEX, () -> nextOf(x, 3, 9, 9, 9));
        is("used up", x.end(1), false);
        fails("wrong tape", ARGUMENT, () -> nextOf(x, 2, 9, 9, 9));
        fails("dead", STATE, () -> nextOf(x, 2));
        is("nothing splits", nextOf(make("never 1 if who > 0", "citizen fear 0 does 00;citizen fear 0 does 00"), 0), 0);
    }

    private static void risks() {
        promise = 25;
        // 0 does 1 at 0, 1, 2; clause 0 forbids it below 2, 1 (known to 0) at 1, 2 on feasts.
        EarCode x = make("never 1 if place < 2;never 1 if place > 0 and place < 2;never 1 if feast;never 5",
                "citizen fear 0 does 10 11 12 knows 1;citizen fear 0 does 12 10 12 knows 0 2;citizen fear 0 does 00");
        is("one day", x.risk(0, 1), 1);
        is("two days", x.risk(0, 2), 1);
        is("six days", x.risk(0, 6), 2);
        is("eight days", x.risk(0, 8), 3);
        is("nine days, a feast the eighth", x.risk(0, 9), 3);
        is("who knows", x.risk(1, 60), 0);
        EarCode later = make("never 1 if day > 2", "citizen fear 0 does 11;citizen fear 0 does 11 knows 0");
        is("from day 3 on", later.risk(0, 5), 2);
        later.days(2);
        is("from day 3 on, on day 2", later.risk(0, 5), 4);
        fails("0 days", ARGUMENT, () -> x.risk(0, 0));
        fails("61 days", ARGUMENT, () -> x.risk(0, 61));
        fails("none, ahead", INDEX, () -> x.risk(3, 0));
        promise = 26;
        is("safe", x.safe(0, 2), 0);
        is("not on a feast", x.safe(0, 1), -1);
        x.days(1);
        is("the first place", x.safe(0, 1), 2);
        fails("deed 8", INDEX, () -> x.safe(0, 8));
        fails("deed -1", INDEX, () -> x.safe(0, -1));
        fails("citizen 3", INDEX, () -> x.safe(3, 0));
        x.undo();
        promise = 27;
        is("better now", x.better(0, 1), 1);
        is("better in two", x.better(0, 2), 1);
        is("no better in three", x.better(0, 3), 0);
        is("all the same", x.better(1, 60), 0);
        fails("0 days", ARGUMENT, () -> x.better(0, 0));
        fails("61 days", ARGUMENT, () -> x.better(0, 61));
        fails("none", INDEX, () -> x.better(-1, 61));
        promise = 28;
        is("told whom", x.telling(8, false), 0);
        is("by how much", x.telling(8, true), 3);
        is("told of one day", x.telling(1, false), 0);
        fails("0 days", ARGUMENT, () -> x.telling(0, true));
        fails("61 days", ARGUMENT, () -> x.telling(61, false));
        EarCode y = make("never 0 if known > 0;never 7", "citizen fear 0 does 00;citizen fear 0 does 77 knows 0 1");
        is("none helps", y.telling(5, false), 0);
        is("that one helps nothing", y.telling(5, true), 0);
        EarCode z = make("never 0 if known > 0;never 7", "citizen fear 0 does 00 knows 0;citizen fear 0 does 00 knows 1");
        z.die(0);
        is("no pair", z.telling(5, false), -1);
        is("by nothing", z.telling(5, true), 0);
        EarCode w = make("never 7;never 0 if known > 0", "citizen fear 0 does 00;citizen fear 0 does 33 knows 0 1");
        w.tell(0, 1);
        is("nothing", w.telling(3, true), 0);
        EarCode v = make("never 7;never 0 if known > 0;never 7", "citizen fear 0 does 00;citizen fear 0 does 33 knows 0 1");
        v.tell(0, 0);
        is("now at risk", v.risk(0, 3), 3);
        is("told", v.telling(3, false), 1);
        v.undo();
        is("the only pairs", v.telling(3, false), 1);
        EarCode u = make("never 7;never 0 if known > 0", "citizen fear 0 does 00;citizen fear 0 does 33 knows 0 1");
        is("the least of risk 0", u.telling(3, false), 1);
        promise = 25;
        x.die(0);
        fails("dead", STATE, () -> x.risk(0, 1));
        fails("dead, but no number ahead", ARGUMENT, () -> x.risk(0, 61));
        promise = 26;
        fails("dead", STATE, () -> x.safe(0, 0));
        promise = 27;
        fails("dead", STATE, () -> x.better(0, 1));
    }

    private static void tellingBelowNothing() {
        promise = 28;
        // Whoever is told 0 has known 1 then, and does what 1 forbids, unknown.
        EarCode x = make("never 7;never 0 if known > 0 and who < 1",
                "citizen fear 0 does 00;citizen fear 0 does 33 knows 0;citizen fear 0 does 33 knows 0 1");
        x.tell(1, 1);
        is("told 0 or 1", x.telling(4, false), 1);
        is("nothing less", x.telling(4, true), 0);
        EarCode y = make("never 7;never 0 if known > 1", "citizen fear 0 does 00 knows 1;citizen fear 0 does 11 knows 0 1");
        y.die(0);
        is("none", y.telling(4, false), -1);
        EarCode z = make("never 6;never 7;never 0 if known > 0 and known < 2",
                "citizen fear 0 does 00;citizen fear 0 does 33 knows 0 2");
        z.tell(1, 1);
        is("the knowing one", z.telling(2, false), 2);
        EarCode w = make("never 7;never 0 if known > 0 and known < 2;never 0 if who > 5",
                "citizen fear 0 does 00;citizen fear 0 does 33 knows 0 1 2");
        w.tell(0, 1);
        is("no risk is left by 1", w.telling(2, true), 0);
        // All that can be told (0) brings risk: clause 1 is in force by 1, who is told all.
        EarCode v = make("never 7;never 0 if known > 1", "citizen fear 0 does 00 knows 1;citizen fear 0 does 77 knows 1;citizen fear 0 does 33 knows 0 1");
        is("less by 4", v.telling(4, true), 4);
        is("of 1", v.telling(4, false), 100);
    }

    private static void fears() {
        promise = 29;
        EarCode x = make("never 1 if place < 2;never 1;never 1 if who > 0;never 2;never 1",
                "citizen fear 0 does 10 knows 1;citizen fear 0 does 11 12 21 knows 0 3;citizen fear 0 does 11 knows 2;seen 0 10;seen 0 33");
        is("deduced", x.deduced(0), 1);
        is("nothing seen", x.deduced(1), 0);
        fails("none", INDEX, () -> x.deduced(3));
        promise = 30;
        is("hush 2", x.hush(2), 0);
        is("hush 1 with all", x.hush(1), 3);
        x.die(0);
        is("hush 1", x.hush(1), 3);
        promise = 29;
        fails("dead", STATE, () -> x.deduced(0));
        promise = 30;
        x.die(1);
        is("hush by 2 alone", x.hush(1), 255);
        x.die(2);
        is("hush without anybody", x.hush(1), 0);
        fails("deed 8", INDEX, () -> x.hush(8));
        fails("deed -1", INDEX, () -> x.hush(-1));
        promise = 31;
        x.undo();
        x.undo();
        is("usual at 1", x.usual(1), 1);
        is("usual at 0", x.usual(0), -1);
        is("usual at 2", x.usual(2), 1);
        x.undo();
        is("usual at 0 with 0", x.usual(0), 1);
        fails("place 8", INDEX, () -> x.usual(8));
        fails("place -1", INDEX, () -> x.usual(-1));
        is("the least of several", make("", "citizen fear 0 does 51 21 51 21").usual(1), 2);
        is("the most", make("", "citizen fear 0 does 51 21 51").usual(1), 5);
        promise = 32;
        EarCode y = make("", "citizen fear 0 does 00;citizen fear 0 does 00;citizen fear 0 does 00;seen 0 00;seen 0 77;seen 1 00;seen 2 01");
        is("by all", y.feared(true), 0);
        is("by nobody", y.feared(false), ~(1L << 63 | 3L));
        y.die(2);
        is("by both", y.feared(true), 1);
        is("by neither", y.feared(false), ~(1L << 63 | 1L));
        y.undo();
        promise = 33;
        // 00: two of three: the third sees both of the others; 77, 01: one is half of two.
        is("at first", y.custom(0), 4);
        is("a round", y.custom(1), 5);
        is("thirty", y.custom(30), 5);
        is("nothing stays", y.custom(0), 4);
        fails("-1", ARGUMENT, () -> y.custom(-1));
        fails("31", ARGUMENT, () -> y.custom(31));
        promise = 34;
        is("settles", y.settles(), 1);
        y.die(1);
        is("one of two others is all of them", y.custom(1), 7);
        y.die(2);
        is("one alone", y.settles(), 0);
        is("one alone sees no more", y.custom(5), 4);
    }

    private static void lives() {
        promise = 35;
        EarCode x = make("never 1;never 2 if who < 1",
                "citizen fear 0 does 10 20 30 30;citizen fear 0 does 20 20 10 knows 0 1;citizen fear 0 does 10;citizen fear 0 does 30;harm 1 5;harm 2 7;harm 3 0");
        is("the greatest", x.provoked(0, false), 0);
        is("the second, the same again", x.provoked(0, true), 0);
        is("the greatest of 1", x.provoked(1, false), 7);
        is("the second of 1", x.provoked(1, true), 7);
        is("below 0", x.provoked(2, false), -5);
        is("with one matter", x.provoked(2, true), 0);
        fails("none", INDEX, () -> x.provoked(4, true));
        promise = 36;
        EarCode y = make("", "citizen fear 0 does 10 21;citizen fear 0 does 30 31 32;citizen fear 0 does 00");
        y.die(2);
        is("now", y.crowd(0, 0), 3);
        is("tomorrow", y.crowd(1, 1), 3);
        is("two days on", y.crowd(2, 2), 2);
        is("sixty", y.crowd(0, 60), 3);
        y.days(1);
        is("a day later", y.crowd(1, 0), 3);
        fails("place 8", INDEX, () -> y.crowd(8, 99));
        fails("-1 days", ARGUMENT, () -> y.crowd(0, -1));
        fails("61 days", ARGUMENT, () -> y.crowd(0, 61));
        promise = 37;
        y.undo();
        is("a day", y.witnesses(0, 1, 1), 1);
        is("six", y.witnesses(0, 1, 6), 2);
        is("with the dead", y.witnesses(2, 1, 6), 2);
        fails("both", ARGUMENT, () -> y.witnesses(1, 1, 1));
        fails("0 days", ARGUMENT, () -> y.witnesses(0, 1, 0));
        fails("61 days", ARGUMENT, () -> y.witnesses(0, 1, 61));
        fails("none", INDEX, () -> y.witnesses(3, 3, 0));
        fails("no other", INDEX, () -> y.witnesses(0, 3, 0));
        promise = 35;
        x.die(0);
        fails("dead", STATE, () -> x.provoked(0, false));
    }

    private static void trials() {
        promise = 38;
        EarCode x = make("never 1;never 2 if day > 2",
                "citizen fear 0 does 11;citizen fear 50 does 21 31;citizen fear 0 does 71 knows 0 1;harm 1 4;watch 60");
        x.seed(77);
        int[] got = new int[4];
        for (int what = 0; what < 4; what++) {
            got[what] = x.trial(20, what);
        }
        is("nothing stays", x.count(4), 0);
        is("the seed stays", x.seed(77), 77);
        is("taken", x.days(20), got[0]);
        is("harm", x.count(8), got[1]);
        is("who", x.count(6), got[2]);
        is("seen", x.citizen(0, 8) + x.citizen(1, 8) + x.citizen(2, 8), got[3]);
        got[0] = x.trial(9, 0);
        got[1] = x.trial(9, 1);
        int harmBefore = x.count(8);
        is("taken in nine more", x.days(9), got[0]);
        is("harm in nine more", x.count(8) - harmBefore, got[1]);
        is("of no day behind days", x.trial(0, 0) + x.trial(0, 1), 0);
        is("a span of no day behind days", x.span(0, true), 0);
        x.undo();
        x.undo();
        is("of no day", x.trial(0, 0), 0);
        fails("-1", ARGUMENT, () -> x.trial(-1, 9));
        fails("41", ARGUMENT, () -> x.trial(41, 0));
        fails("what 4", ELEMENT, () -> x.trial(0, 4));
        fails("what -1", ELEMENT, () -> x.trial(40, -1));
        promise = 39;
        int least = 999;
        int most = -1;
        for (int seed = 1; seed <= 6; seed++) {
            x.seed(seed);
            int taken = x.trial(10, 0);
            least = Math.min(least, taken);
            most = Math.max(most, taken);
        }
        x.seed(5);
        is("the fewest", x.span(10, false), least);
        is("the most", x.span(10, true), most);
        is("they differ", least < most, true);
        is("of no day", x.span(0, true), 0);
        is("the seed stays", x.seed(5), 5);
        fails("-1", ARGUMENT, () -> x.span(-1, true));
        fails("41", ARGUMENT, () -> x.span(41, true));
        promise = 40;
        EarCode y = make("never 1 if day > 38;never 2 if day > 39",
                "citizen fear 0 does 11;citizen fear 0 does 22;citizen fear 0 does 33 knows 0");
        is("the fortieth", y.first(), 40);
        y.days(2);
        is("two days on", y.first(), 38);
        y.undo();
        y.die(2);
        is("none", y.first(), -1);
        y.undo();
        y.die(0);
        y.tell(2, 1);
        is("none within 40", y.first(), -1);
    }

    private static void logs() {
        EarCode x = make("never 1 if who > 0;never 1;never 2",
                "citizen fear 0 does 11 22;citizen fear 0 does 11;citizen fear 0 does 33 knows 0 1 2;term 1");
        promise = 42;
        is("worst of none", x.worst(), -1);
        promise = 41;
        is("led to none", x.led(-1), 0);
        x.days(1);
        promise = 43;
        is("rows", x.count(10), 2);
        is("latest day", x.log(0, 0), 0);
        is("latest who", x.log(0, 1), 1);
        is("latest matter", x.log(0, 2), 9);
        is("latest clause, the least", x.log(0, 3), 0);
        is("ahead of it who", x.log(1, 1), 0);
        is("ahead of it clause", x.log(1, 3), 1);
        is("none", x.log(2, 0), -1);
        is("none -1", x.log(-1, 0), -1);
        fails("what 4", ELEMENT, () -> x.log(0, 4));
        fails("what -1, of none", ELEMENT, () -> x.log(99, -1));
        promise = 42;
        is("the least of two", x.worst(), 0);
        promise = 41;
        is("led", x.led(-1), 3);
        is("led of 0", x.led(0), 2);
        is("led of 1", x.led(1), 1);
        is("led of 2", x.led(2), 0);
        fails("3", INDEX, () -> x.led(3));
        fails("-2", INDEX, () -> x.led(-2));
        promise = 43;
        // A DAY is held, then free: 1 is taken every second DAY, 0 on those too, always at 11.
        is("fifty more", x.days(50), 50);
        is("fifty more again", x.days(50), 50);
        is("sixty rows", x.count(10), 60);
        is("latest", x.log(0, 0), 100);
        is("the oldest", x.log(59, 0), 42);
        is("beyond", x.log(60, 0), -1);
        promise = 42;
        is("as many of both", x.worst(), 0);
        x.die(1);
        x.days(2);
        is("one more of 1, and one less", x.worst(), 0);
        x.days(2);
        is("another of 1, and one less of 0", x.worst(), 1);
    }

    private static void undoing() {
        promise = 45;
        EarCode x = make("never 1;never 2", "citizen fear 0 does 11;citizen fear 0 does 22 knows 0");
        is("nothing yet", x.undo(), false);
        x.seed(42);
        x.days(3);
        x.tell(0, 0);
        x.seed(43);
        is("acts", x.count(13), 2);
        tape(x, "  ");
        is("undone", x.undo(), true);
        is("the tape stays", x.end(2), true);
        is("what was told", x.citizen(0, 1), 0);
        is("days stay", x.count(4), 3);
        is("undone again", x.undo(), true);
        is("day", x.count(4), 0);
        is("taken", x.count(7), 0);
        is("the log", x.count(10), 0);
        is("seen", x.seen(0), 0);
        is("the seed ahead of it", x.seed(1), 42);
        is("none left", x.undo(), false);
        for (int i = 0; i < 11; i++) {
            x.days(1);
        }
        is("ten", x.count(13), 10);
        for (int i = 0; i < 10; i++) {
            is("undo " + i, x.undo(), true);
        }
        is("the eleventh", x.undo(), false);
        is("a day is left", x.count(4), 1);
        x.baby(0);
        x.wed(0, 1);
        x.die(1);
        is("three", x.count(13), 3);
        fails("a wrong act", STATE, () -> x.die(1));
        tape(x, "bad");
        fails("a wrong text", ARGUMENT, x::republic);
        is("three yet", x.count(13), 3);
        x.undo();
        is("alive and wed", x.citizen(0, 4), 1);
        x.undo();
        is("alone", x.citizen(0, 4), -1);
        is("what one knew", x.citizen(0, 1), 0);
        x.undo();
        is("the baby", x.count(1), 2);
        x.days(1);
        tape(x, "watch 5");
        x.republic();
        is("a text", x.count(13), 0);
        is("nothing", x.undo(), false);
        x.days(1);
        x.release(x.count(6) == 1 ? 0 : 1);
        is("release is an act", x.count(13), 2);
    }

    private static void images() {
        promise = 46;
        EarCode x = new EarCode();
        x.image();
        tape(x, "never 1 if day < 9");
        x.code();
        tape(x, "citizen fear 0 does 11;citizen fear 0 does 22 knows 0;term 9;watch 50;harm 1 8");
        x.republic();
        x.days(4);
        tape(x, "?");
        fails("wrong", ARGUMENT, x::republic);
        tape(x, "always 2;never 3");
        promise = 47;
        is("back", x.back(), true);
        is("no code", x.count(0), -1);
        is("nobody", x.count(1), 0);
        is("no texts", x.count(3), 0);
        is("term", x.count(12), 3);
        is("watch", x.count(11), 100);
        is("day", x.count(4), 0);
        is("acts", x.count(13), 0);
        is("fault stays", x.fault(), 0);
        is("the tape stays", x.code(), 2);
        is("another code", x.clause(0, 0), 1);
        tape(x, "citizen fear 0 does 31;citizen fear 0 does 21 knows 1 0");
        x.republic();
        x.days(1);
        x.image();
        x.days(1);
        x.die(0);
        is("back to the newer one", x.back(), true);
        is("day", x.count(4), 1);
        is("alive", x.count(2), 2);
        is("taken", x.count(6), 1);
        is("the log", x.log(0, 2), 25);
        is("the code", x.clause(1, 1), 3);
        is("acts are forgotten", x.undo(), false);
        x.die(1);
        is("back once more", x.back(), true);
        is("alive again", x.count(2), 2);
        promise = 46;
        x.days(1);
        x.image();
        is("an image is no act", x.count(13), 1);
    }

    private static void counts() {
        promise = 48;
        EarCode x = make("never 1;never 2;never 3",
                "citizen fear 0 does 11;citizen fear 0 does 22 knows 0 1;citizen fear 0 does 33 knows 2;watch 99;term 7;harm 1 6", "");
        x.die(2);
        x.seed(3);
        int taken = x.days(1);
        int[] want = {3, 3, 2, 2, 1, 3, taken, taken, 6, 1, taken, 99, 7, 2};
        for (int what = 0; what < want.length; what++) {
            is("count " + what, x.count(what), want[what]);
        }
        is("count -1", x.count(-1), -1);
        is("count 14", x.count(14), -1);
    }

    public static void main(String[] args) {
        newObject();
        feedAndEnd();
        code();
        moreCode();
        conditions();
        republic();
        weddingsInTexts();
        fault();
        clauses();
        citizens();
        matters();
        acts();
        days();
        draws();
        sets();
        reading();
        risks();
        tellingBelowNothing();
        fears();
        lives();
        trials();
        logs();
        undoing();
        images();
        counts();
        is("NONE", EarCode.NONE, -1);
        end("all promises hold");
    }
}
