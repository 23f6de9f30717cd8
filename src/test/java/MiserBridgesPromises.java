import java.util.Arrays;
import java.util.function.LongSupplier;

/** Each promise of the document by itself: ordinary calls, the edges it names, wrong calls. */
public final class MiserBridgesPromises {
    private static final int LEAST = Integer.MIN_VALUE;
    private static final int MOST = Integer.MAX_VALUE;
    private static int wrong = 0;
    private static int asked = 0;

    private static void due(String what, long want, long got) {
        asked++;
        if (got != want || Asked.thrown != null) {
            wrong++;
            String answer = Asked.thrown == null ? " answered " + got : " threw " + Asked.thrown;
            System.out.println(what + ": " + Asked.last + answer + ", due is " + want);
        }
    }

    /** The class itself, which also tells its last call, for what a test that fails prints. */
    private static final class Asked {
        private static String last = "";
        /** What the last call threw; null: it answered. */
        private static String thrown = null;
        private final MiserBridges fort = new MiserBridges();

        private static long ask(LongSupplier call, String name, Object... arguments) {
            last = name + Arrays.toString(arguments).replace('[', '(').replace(']', ')');
            thrown = null;
            try {
                return call.getAsLong();
            } catch (RuntimeException | Error e) {
                wrong++;
                thrown = e.toString();
                System.out.println(last + " threw " + thrown);
                return LEAST;
            }
        }

        int bridge(int a, int b, int kind, boolean down) {
            return (int) ask(() -> fort.bridge(a, b, kind, down), "bridge", a, b, kind, down);
        }

        int chain(int a, int b, int rust) {
            return (int) ask(() -> fort.chain(a, b, rust), "chain", a, b, rust);
        }

        int load(int bridge, int pounds) {
            return (int) ask(() -> fort.load(bridge, pounds), "load", bridge, pounds);
        }

        int one(int pounds, int room) {
            return (int) ask(() -> fort.one(pounds, room), "one", pounds, room);
        }

        int weight(int bridge) {
            return (int) ask(() -> fort.weight(bridge), "weight", bridge);
        }

        int where(int person) {
            return (int) ask(() -> fort.where(person), "where", person);
        }

        int lying() {
            return (int) ask(() -> fort.lying(), "lying");
        }

        int type(long v, int n) {
            return (int) ask(() -> fort.type(v, n), "type", v, n);
        }

        int clear() {
            return (int) ask(() -> fort.clear(), "clear");
        }

        int read() {
            return (int) ask(() -> fort.read(), "read");
        }

        int step(int person, int place) {
            return (int) ask(() -> fort.step(person, place), "step", person, place);
        }

        int undo() {
            return (int) ask(() -> fort.undo(), "undo");
        }

        int way(int some, int room, int i) {
            return (int) ask(() -> fort.way(some, room, i), "way", some, room, i);
        }

        int reach(int what) {
            return (int) ask(() -> fort.reach(what), "reach", what);
        }

        int can(int lying) {
            return (int) ask(() -> fort.can(lying), "can", lying);
        }

        int closed(int room) {
            return (int) ask(() -> fort.closed(room), "closed", room);
        }

        int child(int person) {
            return (int) ask(() -> fort.child(person), "child", person);
        }

        int cut(int some, int room) {
            return (int) ask(() -> fort.cut(some, room), "cut", some, room);
        }

        int tie(int some, int room) {
            return (int) ask(() -> fort.tie(some, room), "tie", some, room);
        }

        int stone(int some, int room, int v) {
            return (int) ask(() -> fort.stone(some, room, v), "stone", some, room, v);
        }

        int keep(int person, int room, int v) {
            return (int) ask(() -> fort.keep(person, room, v), "keep", person, room, v);
        }

        int wet(int person, int n, int place, int bridges) {
            return (int) ask(() -> fort.wet(person, n, place, bridges), "wet", person, n, place, bridges);
        }

        int image(int i) {
            return (int) ask(() -> fort.image(i), "image", i);
        }

        int from(int i) {
            return (int) ask(() -> fort.from(i), "from", i);
        }

        int status(int what) {
            return (int) ask(() -> fort.status(what), "status", what);
        }

        int count(int what) {
            return (int) ask(() -> fort.count(what), "count", what);
        }

        long digest() {
            return ask(() -> fort.digest(), "digest");
        }
    }

    /** A fort read from a text; the text is empty again behind it. */
    private static Asked fort(String text) {
        Asked x = new Asked();
        int items = 0;
        for (int i = 0; i < text.length(); i++) {
            items += text.charAt(i) == ';' ? 1 : 0;
        }
        due("fort " + text, items, readOf(x, text));
        return x;
    }

    private static int readOf(Asked x, String text) {
        x.clear();
        typed(x, text);
        int answer = x.read();
        x.clear();
        return answer;
    }

    private static void typed(Asked x, String text) {
        for (int i = 0; i < text.length(); i++) {
            x.type(text.charAt(i), 1);
        }
    }

    private static void refusals(String what, Asked x, int bad, int no, int full) {
        due(what + ": status(0)", bad, x.status(0));
        due(what + ": status(1)", no, x.status(1));
        due(what + ": status(2)", full, x.status(2));
    }

    private static void promise1() {
        Asked x = new Asked();
        for (int what = 0; what < 5; what++) {
            due("new: count(" + what + ")", 0, x.count(what));
        }
        due("new: lying", 0, x.lying());
        due("new: reach(0)", 1, x.reach(0));
        due("new: from(0)", MiserBridges.NO, x.from(0));
        due("new: from(1)", MiserBridges.NO, x.from(1));
        refusals("new", x, 0, 2, 0);
    }

    private static void promise2() {
        Asked x = new Asked();
        int[][] bad = {
            {-1, 1, 0}, {5, 1, 0}, {1, -1, 0}, {1, 5, 0}, {1, 1, 0}, {0, 1, -1}, {0, 1, 6},
            {LEAST, 0, 0}, {0, MOST, 0}, {0, 1, MOST}
        };
        for (int[] b : bad) {
            due("bridge " + b[0] + " " + b[1] + " " + b[2], -2, x.bridge(b[0], b[1], b[2], true));
        }
        for (int kind = 0; kind < 5; kind++) {
            due("bridge " + kind, kind, x.bridge(kind, (kind + 1) % 5, kind + 1, kind % 2 == 0));
        }
        due("bridges: lying", 0b10101, x.lying());
        due("a sixth one", -4, x.bridge(0, 1, 0, true));
        due("a sixth one, BAD first", -2, x.bridge(0, 0, 0, true));
        due("bridges: count", 5, x.count(0));
        refusals("bridge", x, bad.length + 1, 0, 1);
        Asked like = new Asked();
        due("bridge", 0, like.bridge(0, 1, 0, false));
        due("a bridge between the same rooms", 1, like.bridge(1, 0, 0, true));
    }

    private static void promise3() {
        Asked x = fort("down 0 1 0;down 1 2 0;down 2 3 0;down 3 4 0;down 4 0 0;");
        int[][] bad = {
            {-1, 0, 0}, {5, 0, 0}, {0, -1, 0}, {0, 5, 0}, {2, 2, 0}, {0, 1, -1}, {0, 1, 10},
            {MOST, 0, 0}, {0, LEAST, 0}
        };
        for (int[] b : bad) {
            due("chain " + b[0] + " " + b[1] + " " + b[2], -2, x.chain(b[0], b[1], b[2]));
        }
        due("chain 4 0 9", 0, x.chain(4, 0, 9));
        due("one is tied", -3, x.chain(0, 1, 0));
        due("other is tied", -3, x.chain(1, 4, 0));
        due("tied, BAD first", -2, x.chain(1, 4, 10));
        due("chain 1 2 0", 1, x.chain(1, 2, 0));
        due("NO ahead of FULL", -3, x.chain(3, 4, 0));
        due("chains: count", 2, x.count(1));
        refusals("chain", x, bad.length + 1, 3, 0);
        Asked one = fort("down 0 1 0;");
        due("a bridge that is not there", -2, one.chain(0, 1, 0));
    }

    private static void promise4() {
        Asked x = fort("down 0 1 0;bridge 0 1 0;chain 0 1 0;one 1 0;");
        due("load 1 20", 0, x.load(1, 20));
        due("nothing tips without a step", 1, x.lying());
        due("load 1 0", 20, x.load(1, 0));
        due("load 1 21", -2, x.load(1, 21));
        due("load 1 -1", -2, x.load(1, -1));
        due("load 2 1", -2, x.load(2, 1));
        due("load -1 1", -2, x.load(-1, 1));
        due("load 1 5", 0, x.load(1, 5));
        due("step on 0", 2, x.step(0, 5));
        due("load leaves steps", 5, x.load(1, 7));
        due("load: undo", 1, x.undo());
        due("BALLAST is not undone", 7, x.load(1, 0));
        refusals("load", x, 4, 0, 0);
    }

    private static void promise5() {
        Asked x = new Asked();
        due("one 0 0", -2, x.one(0, 0));
        due("one 10 0", -2, x.one(10, 0));
        due("one 1 -1", -2, x.one(1, -1));
        due("one 1 5", -2, x.one(1, 5));
        due("one 1 4", 0, x.one(1, 4));
        due("one 9 0", 1, x.one(9, 0));
        due("one 5 0", 2, x.one(5, 0));
        due("a fourth", -4, x.one(5, 0));
        due("a fourth, BAD first", -2, x.one(10, 0));
        due("people: count", 3, x.count(2));
        refusals("one", x, 5, 0, 1);
    }

    private static void promise6() {
        int[] loads7 = {7, 3, 14, 7, 3, 15};
        int[] loads1 = {1, 0, 2, 1, 0, 3};
        for (int kind = 0; kind < 6; kind++) {
            Asked x = fort("down 0 1 " + kind + ";one 3 0;one 2 1;");
            due("nothing on kind " + kind, 0, x.weight(0));
            x.step(0, 5);
            x.step(1, 5);
            x.load(0, 2);
            due("weight 7 on kind " + kind, loads7[kind], x.weight(0));
            x.step(0, 0);
            x.step(1, 0);
            x.load(0, 1);
            due("weight 1 on kind " + kind, loads1[kind], x.weight(0));
            due("weight -1", -2, x.weight(-1));
            due("weight 1", -2, x.weight(1));
            refusals("weight", x, 2, 0, 0);
        }
    }

    private static void promise7() {
        Asked x = fort("down 0 1 0;down 1 2 0;one 3 2;one 2 1;");
        due("where 0", 2, x.where(0));
        x.step(1, 6);
        due("where 1", 6, x.where(1));
        due("where -1", -2, x.where(-1));
        due("where 2", -2, x.where(2));
        refusals("where", x, 2, 0, 0);
    }

    private static void promise8() {
        Asked x = fort("bridge 0 1 0;down 1 2 0;bridge 0 1 0;bridge 0 1 0;down 0 4 0;");
        due("lying", 0b10010, x.lying());
        x.bridge(0, 0, 0, true);
        due("lying", 0b10010, x.lying());
    }

    private static void promise9() {
        Asked x = new Asked();
        due("type of 0", -2, x.type(59, 0));
        due("type of 9", -2, x.type(59, 9));
        due("type of -1", -2, x.type(59, -1));
        due("type 3", 3, x.type(0x7f6f6e65L, 3));
        due("type 6", 9, x.type(0x7f7f203720343bL, 6));
        due("the highest comes first", -10 - 3, x.read());
        due("clear", 9, x.clear());
        due("type 3", 3, x.type(0x7f6f6e65L, 3));
        due("type 5", 8, x.type(0x203720343bL, 5));
        due("read of what was typed", 1, x.read());
        due("where he is", 4, x.where(0));
        for (int i = 0; i < 24; i++) {
            due("type 8", 16 + 8 * i, x.type(0x2020202020202020L, 8));
        }
        due("a byte more", -4, x.type(32, 1));
        due("BAD first", -2, x.type(32, 9));
        due("count 4", 200, x.count(4));
        x.clear();
        for (int i = 0; i < 24; i++) {
            x.type(0x2020202020202020L, 8);
        }
        due("type 1", 193, x.type(32, 1));
        due("no room for all", -4, x.type(0, 8));
        due("room for all", 200, x.type(0, 7));
        refusals("type", x, 4, 0, 2);
    }

    private static void promise10() {
        Asked x = new Asked();
        due("clear", 0, x.clear());
        x.type(0, 7);
        due("clear", 7, x.clear());
        due("count 4", 0, x.count(4));
    }

    private static void readDue(String text, int want) {
        Asked x = new Asked();
        x.bridge(3, 4, 0, true);
        x.one(7, 3);
        x.step(0, 5);
        long before = x.digest();
        due("read " + text, want, readOf(x, text));
        if (want < 0) {
            due("nothing changes by " + text, before, x.digest());
        } else {
            due("none may be undone behind " + text, 0, x.count(3));
        }
        refusals("read " + text, x, 0, 0, 0);
    }

    private static void promise11() {
        readDue("", 0);
        readDue("   ", 0);
        readDue("one 5 0;", 1);
        readDue("  one   5   0  ;  ", 1);
        readDue("one5 0;one 05 00;", 2);
        readDue("bridge 0 1 0;down 1 2 5;chain 0 1 9;one 9 4;load 1 20;", 5);
        // the first TOKEN that can not stand there
        readDue(";", -10);
        readDue("5;", -10);
        readDue("one 5 0;;", -10 - 8);
        readDue("one ;", -10 - 4);
        readDue("one 5;", -10 - 5);
        readDue("one 5 0 0;", -10 - 8);
        readDue("one one 0;", -10 - 4);
        readDue("one 5 0 one", -10 - 8);
        readDue("  ones 5 0;", -10 - 2);
        readDue("on 5 0;", -10);
        readDue("xne 5 0;", -10);
        readDue("onx 5 0;", -10);
        readDue("One 5 0;", -10);
        readDue("oNe 5 0;", -10);
        readDue("one 5,0;", -10 - 5);
        readDue("one -5 0;", -10 - 4);
        readDue("one 100 0;", -10 - 4);
        readDue("one 1000 0;", -10 - 4);
        readDue("one 5 000;", -10 - 6);
        readDue("one 5 0 123;", -10 - 8);
        readDue("one 5 0\t;", -10 - 7);
        readDue("one 5 0" + (char) 255 + ";", -10 - 7);
        // it ends too early
        readDue("one", -10 - 3);
        readDue("one 5", -10 - 5);
        readDue("one 5 0", -10 - 7);
        readDue("one 5 0  ", -10 - 9);
        readDue("one 5 0;down", -10 - 12);
        // the first ITEM that is refused; a FAULT anywhere comes first
        readDue("one 10 0;", -1000);
        readDue("one 5 5;", -1000);
        readDue("one 1 1;one 1 1;one 1 1;one 1 1;one 0 0;", -1003);
        readDue("load 0 1;bridge 0 1 0;", -1000);
        readDue("bridge 0 1 0;load 0 21;", -1001);
        readDue("bridge 0 1 6;", -1000);
        readDue("bridge 0 1 0;bridge 1 2 0;chain 0 1 10;", -1002);
        readDue("bridge 0 1 0;bridge 1 2 0;chain 0 1 9;chain 1 0 0;", -1003);
        readDue("one 10 0;one", -10 - 12);
        readDue("one 10 0;gate;", -10 - 9);
        // the FORT is told anew by these alone, IMAGES and STATUS stay
        Asked x = fort("down 0 1 0;down 1 2 0;chain 0 1 3;one 4 0;load 1 6;");
        x.image(0);
        x.weight(9);
        x.step(0, 5);
        due("read anew", 2, readOf(x, "bridge 2 3 0;one 5 4;"));
        due("bridges anew", 1, x.count(0));
        due("chains anew", 0, x.count(1));
        due("people anew", 1, x.count(2));
        due("lying anew", 0, x.lying());
        due("ballast anew", 0, x.load(0, 0));
        due("where anew", 4, x.where(0));
        due("undo anew", -3, x.undo());
        due("the image stays", 1, x.from(0));
        due("bridges of the image", 2, x.count(0));
        refusals("read", x, 1, 1, 0);
        x.type(';', 1);
        x.read();
        due("THE TEXT stays", 1, x.count(4));
        bytesThatWere();
    }

    /** What an earlier, longer text had behind the end of this one is not read. */
    private static void bytesThatWere() {
        Asked x = new Asked();
        typed(x, "ones 5 0123;      ");
        due("a word at the end", -10 - 3, readOf(x, "one"));
        typed(x, "one 5 0123;        ");
        due("a number at the end", -10 - 8, readOf(x, "one 5 01"));
        typed(x, "one 5 0;         ");
        due("blanks at the end", -10 - 9, readOf(x, "one 5 0  "));
        typed(x, "one 5 0;one 5 0;");
        due("an item at the end", 1, readOf(x, "one 5 0;"));
    }

    private static void promise12() {
        Asked x = fort("down 0 1 0;bridge 1 2 0;chain 0 1 2;one 3 0;one 5 2;");
        due("step -1 0", -2, x.step(-1, 0));
        due("step 2 0", -2, x.step(2, 0));
        due("step 0 -1", -2, x.step(0, -1));
        due("step 0 7, no BRIDGE", -2, x.step(0, 7));
        due("step 0 10", -2, x.step(0, 10));
        due("room to room", -3, x.step(0, 1));
        due("to where he is", -3, x.step(0, 0));
        due("on one that is UP", -3, x.step(1, 6));
        due("on one of another room", -3, x.step(1, 5));
        due("on one that is DOWN", 1, x.step(0, 5));
        due("bridge to bridge", -3, x.step(0, 6));
        due("to no room of it", -3, x.step(0, 2));
        due("on it again", -3, x.step(0, 5));
        x.load(1, 2);
        due("2 more is not more than RUST", 1, x.step(0, 0));
        due("so many steps", 2, x.count(3));
        refusals("step", x, 5, 7, 0);
        rust();
        latchedAndJammed();
        waiting();
    }

    private static void rust() {
        Asked x = fort("down 0 1 0;bridge 1 2 0;chain 0 1 2;one 3 0;load 1 5;");
        due("5 - 3 is RUST", 1, x.step(0, 5));
        x.load(1, 6);
        due("it tips at a step alone", 1, x.lying());
        due("6 - 0 is more than RUST", 2, x.step(0, 1));
        x.load(1, 0);
        due("nothing tips it back", 2, x.step(0, 6));
        x.load(0, 6);
        due("the CHAIN tips to its first", 1, x.step(0, 2));
    }

    private static void latchedAndJammed() {
        // LATCHED never goes UP, so the heavy one does not come DOWN either
        Asked x = fort("down 0 1 3;bridge 1 2 0;chain 0 1 0;one 1 0;load 1 9;");
        due("latched", 1, x.step(0, 5));
        // LATCHED is UP already: the heavy one comes DOWN
        x = fort("bridge 0 1 3;bridge 1 2 0;down 0 3 0;chain 0 1 0;one 1 0;load 1 9;");
        due("latched, UP already", 0b110, x.step(0, 7));
        // LATCHED may come DOWN
        x = fort("bridge 0 1 3;down 1 2 0;down 0 3 0;chain 0 1 0;one 1 0;load 0 9;");
        due("latched comes DOWN", 0b101, x.step(0, 7));
        // JAMMED never comes DOWN, so the light one does not go UP either
        x = fort("down 0 1 0;bridge 1 2 4;chain 0 1 0;one 1 0;load 1 9;");
        due("jammed", 1, x.step(0, 5));
        // JAMMED is DOWN already: the light one goes UP
        x = fort("down 0 1 0;down 1 2 4;chain 0 1 0;one 1 0;load 1 9;");
        due("jammed, DOWN already", 2, x.step(0, 5));
        // JAMMED may go UP
        x = fort("down 0 1 0;down 1 2 4;chain 0 1 0;one 1 0;load 0 9;");
        due("jammed goes UP", 1, x.step(0, 5));
        // both CHAINS tip behind one step
        x = fort("down 0 1 0;bridge 1 2 0;down 2 3 0;bridge 3 4 0;down 0 4 0;"
            + "chain 0 1 0;chain 3 2 0;one 1 0;load 1 2;load 3 1;");
        due("two chains", 0b11010, x.step(0, 9));
    }

    private static void waiting() {
        Asked x = fort("down 0 1 0;bridge 1 2 0;down 0 3 0;chain 0 1 0;one 1 0;one 1 0;load 1 3;");
        due("he goes up with it", 0b110, x.step(0, 5));
        due("he waits", -3, x.step(0, 0));
        due("he waits", -3, x.step(0, 1));
        due("he weighs", 1, x.weight(0));
        due("no way for him", -1, x.way(1, 0, -1));
        x.load(1, 0);
        due("the other one's step tips", 0b101, x.step(1, 7));
        due("he goes on", 0b101, x.step(0, 1));
    }

    private static void promise13() {
        Asked x = fort("down 0 1 0;bridge 1 2 0;down 0 3 0;chain 0 1 0;one 1 0;load 1 3;");
        due("none", -3, x.undo());
        due("step", 0b110, x.step(0, 5));
        due("undo", 0b101, x.undo());
        due("where", 0, x.where(0));
        due("none", -3, x.undo());
        x.load(1, 0);
        for (int i = 0; i < 20; i++) {
            due("step " + i, 0b101, x.step(0, i % 2 == 0 ? 7 : i % 4 == 1 ? 3 : 0));
            due("may be undone", Math.min(i + 1, 16), x.count(3));
        }
        for (int i = 19; i >= 4; i--) {
            due("undo " + i, 0b101, x.undo());
            due("where behind undo " + i, i % 2 == 1 ? 7 : i % 4 == 0 ? 0 : 3, x.where(0));
        }
        due("16 at most", -3, x.undo());
        refusals("undo", x, 0, 3, 0);
        theOldestGoes();
        String[] calls = {"bridge", "chain", "one"};
        for (int i = 0; i < 3; i++) {
            x = fort("down 0 1 0;down 1 2 0;one 1 0;");
            x.step(0, 5);
            x.bridge(0, 0, 0, true);
            x.chain(0, 0, 0);
            x.one(0, 0);
            due("what is refused leaves steps", 1, x.count(3));
            int told = i == 0 ? x.bridge(0, 1, 0, true) : i == 1 ? x.chain(0, 1, 0) : x.one(1, 1);
            due(calls[i] + " leaves none", told >= 0 ? 0 : -99, x.count(3));
            due(calls[i] + ": undo", -3, x.undo());
        }
    }

    private static void theOldestGoes() {
        Asked x = fort("down 0 1 0;down 3 4 0;one 1 0;one 1 3;");
        x.step(1, 6);
        for (int i = 0; i < 16; i++) {
            x.step(0, i % 2 == 0 ? 5 : 1);
        }
        x.image(0);
        x.step(0, 5);
        x.step(1, 4);
        x.from(0);
        for (int i = 0; i < 16; i++) {
            due("undo of an image", 3, x.undo());
        }
        due("the later ones are undone", 0, x.where(0));
        due("the oldest is not", 6, x.where(1));
        due("none is left", -3, x.undo());
    }

    private static void promise14() {
        Asked x = fort("down 0 1 0;down 1 2 0;down 0 2 0;one 1 0;one 2 1;");
        due("way of none", 0, x.way(0, 4, -1));
        due("way of one who is there", 0, x.way(1, 0, -1));
        due("not so many", -5, x.way(1, 0, 0));
        due("way", 2, x.way(1, 2, -1));
        due("way: step 0", 7, x.way(1, 2, 0));
        due("way: step 1", 2, x.way(1, 2, 1));
        due("way: step 2", -5, x.way(1, 2, 2));
        due("way: step MOST", -5, x.way(1, 2, MOST));
        int[] both = {7, 2, 16, 12};
        due("way of both", 4, x.way(3, 2, -1));
        for (int i = 0; i < 4; i++) {
            due("way of both, step " + i, both[i], x.way(3, 2, i));
        }
        due("no way", -1, x.way(1, 4, -1));
        due("no way: step 9", -1, x.way(1, 4, 9));
        due("way of 4", -10, x.way(4, 0, -1));
        due("way of -1", -10, x.way(-1, 0, -1));
        due("way to 5", -10, x.way(1, 5, -1));
        due("way to -1", -10, x.way(1, -1, -1));
        due("way, step -2", -10, x.way(1, 1, -2));
        refusals("way", x, 5, 0, 0);
        // the lesser of two BRIDGES like each other is first
        x = fort("down 1 0 0;down 0 1 0;one 1 0;");
        due("the first row", 5, x.way(1, 1, 0));
        // the STEP of another one tips it sooner
        x = fort("down 0 1 0;bridge 0 2 0;chain 0 1 1;down 0 3 0;one 5 0;one 5 0;load 0 2;load 1 4;");
        long before = x.digest();
        due("a way by another one's step", 3, x.way(1, 2, -1));
        int[] row = {17, 6, 2};
        for (int i = 0; i < 3; i++) {
            due("its step " + i, row[i], x.way(1, 2, i));
        }
        due("a look ahead changes nothing", before, x.digest());
    }

    private static void promise15() {
        // one on a line of two BRIDGES without a CHAIN: 3 rooms, 2 bridges
        Asked x = fort("down 0 1 0;down 1 2 0;bridge 0 4 0;one 1 0;");
        due("reach 0", 5, x.reach(0));
        due("reach 1", 1, x.reach(1));
        due("reach 2", 0b011, x.reach(2));
        due("reach 3", 0b100, x.reach(3));
        due("reach -1", -2, x.reach(-1));
        due("reach 4", -2, x.reach(4));
        refusals("reach", x, 2, 0, 0);
        // in room 0; on 5 with 1 UP; he tips nothing back behind that: rooms 0, 1 and on 5
        x = fort("down 0 1 0;down 0 2 0;chain 0 1 0;one 1 0;");
        due("reach 0 of a chain", 7, x.reach(0));
        due("reach 1 of a chain", 3, x.reach(1));
        due("reach 2 of a chain", 0, x.reach(2));
        due("reach 3 of a chain", 0, x.reach(3));
    }

    private static void promise16() {
        Asked x = fort("down 0 1 0;down 0 2 0;chain 0 1 0;one 1 0;");
        due("can 0", 0, x.can(0));
        due("can 1", 1, x.can(1));
        due("can 2", 1, x.can(2));
        due("can 3", 1, x.can(3));
        due("can 4", -2, x.can(4));
        due("can -1", -2, x.can(-1));
        due("can LEAST", -2, x.can(LEAST));
        due("can MOST", -2, x.can(MOST));
        refusals("can", x, 4, 0, 0);
        x = fort("down 0 1 0;down 0 1 0;down 0 1 0;down 0 1 0;down 0 1 0;");
        due("can 31", 1, x.can(31));
        due("can 30", 0, x.can(30));
        due("can 32", -2, x.can(32));
    }

    private static void promise17() {
        Asked x = fort("down 0 1 0;down 0 2 0;chain 0 1 0;one 1 0;");
        due("closed 0", 0, x.closed(0));
        due("closed 1", 1, x.closed(1));
        due("closed 2", 1, x.closed(2));
        due("closed 3, no BRIDGE", 1, x.closed(3));
        due("closed -1", -2, x.closed(-1));
        due("closed 5", -2, x.closed(5));
        refusals("closed", x, 2, 0, 0);
    }

    private static void promise18() {
        // 2 pounds tip it, 1 pound does not
        Asked x = fort("down 0 1 0;down 0 2 0;chain 0 1 1;one 2 0;one 1 0;");
        due("child of the heavy one", 2, x.child(0));
        due("child of the light one", 0, x.child(1));
        due("child -1", -2, x.child(-1));
        due("child 2", -2, x.child(2));
        due("he is there still", 2, x.count(2));
        refusals("child", x, 2, 0, 0);
        // the heavy one on it holds it against the stone on the other: without him it goes UP
        x = fort("down 0 1 0;bridge 0 2 0;down 0 3 0;chain 0 1 0;one 9 0;one 1 0;");
        x.step(0, 5);
        x.load(1, 5);
        due("child, lyings that were none before do not count", 0, x.child(1));
        due("nothing tips as he goes", 1, x.can(0b101));
        // the others keep their own pounds and places
        x = fort("down 0 1 0;down 0 1 0;down 3 4 0;chain 0 1 4;one 1 3;one 2 3;one 5 0;");
        due("child of one who tips nothing", 0, x.child(0));
        due("child of one who tips nothing", 0, x.child(1));
        due("child of the one who tips", 2, x.child(2));
    }

    private static void promise19() {
        Asked x = fort("down 0 1 0;down 1 2 0;chain 0 1 0;down 0 3 0;one 5 0;");
        due("on it the next one is UP, and nothing brings it DOWN", -1, x.way(1, 2, -1));
        due("cut", 0, x.cut(1, 2));
        due("no shorter", -1, x.cut(1, 3));
        due("none to where none leads", -1, x.cut(1, 4));
        due("of none", -1, x.cut(0, 2));
        due("cut 2 0", -2, x.cut(2, 0));
        due("cut -1 0", -2, x.cut(-1, 0));
        due("cut 1 5", -2, x.cut(1, 5));
        due("cut 1 -1", -2, x.cut(1, -1));
        due("the chain is there still", 1, x.count(1));
        refusals("cut", x, 4, 0, 0);
        // both chains are in the way, one of them only makes it longer
        x = fort("down 0 1 0;down 1 2 0;down 0 3 0;down 3 2 0;chain 2 3 0;chain 0 1 0;one 5 0;");
        due("no way by either", -1, x.way(1, 2, -1));
        due("of like ones the least", 0, x.cut(1, 2));
        // without the first it is 6 steps over 3 and 4, without the second 4 over 1
        x = fort("down 0 1 0;down 1 2 0;down 0 3 0;down 3 4 0;down 4 2 0;chain 2 3 0;chain 0 1 0;one 5 0;");
        due("the shortest, not the first", 1, x.cut(1, 2));
        // the RUST of the chain that stays is its own: 5 are not more than 5
        x = fort("down 2 4 0;bridge 3 4 0;down 0 1 0;down 1 2 0;chain 0 1 0;chain 2 3 5;one 5 0;load 1 9;");
        due("a way over rust", 4, x.way(1, 2, -1));
        due("the first lifts the last bridge", -1, x.way(1, 4, -1));
        due("the second keeps its rust", 0, x.cut(1, 4));
    }

    private static void promise20() {
        Asked x = fort("down 0 1 0;bridge 1 2 0;bridge 0 3 0;one 5 0;load 1 9;load 2 6;");
        due("no way", -1, x.way(1, 2, -1));
        due("tie brings 1 DOWN", 12, x.tie(1, 2));
        due("with 2 DOWN he hangs on 0", -1, x.tie(1, 3));
        due("none is shorter", -1, x.tie(1, 1));
        due("none leads there", -1, x.tie(1, 4));
        due("tie 2 0", -2, x.tie(2, 0));
        due("tie -1 0", -2, x.tie(-1, 0));
        due("tie 1 5", -2, x.tie(1, 5));
        due("no chain was told", 0, x.count(1));
        refusals("tie", x, 3, 0, 0);
        x.chain(1, 2, 9);
        due("they are tied already", -1, x.tie(1, 2));
        // both would do: the first, lesser ahead of other
        x = fort("down 0 1 0;down 0 2 0;bridge 0 3 0;one 1 0;load 2 9;");
        due("the first pair", 2, x.tie(1, 3));
        due("chain", 0, x.chain(0, 1, 0));
        due("only one is left", -1, x.tie(1, 3));
    }

    private static void promise21() {
        Asked x = fort("down 0 1 0;bridge 0 3 0;down 0 2 0;chain 0 1 4;one 5 0;");
        due("no way", -1, x.way(1, 3, -1));
        due("stone of 4", -1, x.stone(1, 3, 4));
        due("stone of 5", 1, x.stone(1, 3, 5));
        due("shorter is none", -1, x.stone(1, 2, 9));
        due("stone of 0", -2, x.stone(1, 3, 0));
        due("stone of 10", -2, x.stone(1, 3, 10));
        due("stone to 5", -2, x.stone(1, 5, 5));
        due("stone to -1", -2, x.stone(1, -1, 5));
        due("stone for 2", -2, x.stone(2, 3, 5));
        due("stone for -1", -2, x.stone(-1, 3, 5));
        refusals("stone", x, 6, 0, 0);
        due("the ballast is as it was", 0, x.load(1, 20));
        x.load(0, 20);
        due("more than may be told", 1, x.stone(1, 3, 9));
        // there is a way of 6 steps, and one of 4 if 0 comes DOWN as he steps on 1
        x = fort("bridge 1 2 0;down 0 1 0;down 3 4 3;down 0 3 0;down 4 2 0;chain 0 2 0;one 5 0;");
        due("the long way", 6, x.way(1, 2, -1));
        due("latched, no stone helps", -1, x.stone(1, 2, 9));
        x = fort("bridge 1 2 0;down 0 1 0;down 3 4 0;down 0 3 0;down 4 2 0;chain 0 2 0;one 5 0;");
        due("the long way", 6, x.way(1, 2, -1));
        due("a shorter way by a stone", 0, x.stone(1, 2, 9));
        // either stone would do: the least
        x = fort("down 0 1 0;bridge 0 3 0;down 0 2 0;bridge 0 3 0;chain 0 1 0;chain 2 3 0;one 5 0;");
        due("the least", 1, x.stone(1, 3, 9));
    }

    private static void promise22() {
        Asked x = fort("down 0 1 0;bridge 2 3 0;chain 0 1 3;one 5 0;one 9 1;");
        due("he is there", -1, x.keep(0, 0, 9));
        due("he never gets there", 0, x.keep(0, 4, 9));
        due("too light", -1, x.keep(0, 1, 8));
        due("9 - 5 is more than RUST", 0b10, x.keep(0, 1, 9));
        due("keep of -1", -2, x.keep(-1, 1, 9));
        due("keep of 2", -2, x.keep(2, 1, 9));
        due("keep from 5", -2, x.keep(0, 5, 9));
        due("keep from -1", -2, x.keep(0, -1, 9));
        due("keep by 0", -2, x.keep(0, 1, 0));
        due("keep by 10", -2, x.keep(0, 1, 10));
        refusals("keep", x, 6, 0, 0);
        due("the ballast is as it was", 0, x.load(1, 0));
        // two ways in need two stones
        x = fort("down 0 1 0;bridge 2 3 0;down 0 1 0;bridge 2 3 0;chain 0 1 0;chain 2 3 0;one 5 0;");
        due("both ways", 0b1010, x.keep(0, 1, 9));
        x = fort("down 0 1 0;bridge 2 3 0;chain 0 1 3;one 1 4;one 5 0;");
        due("of another than the first", 0b10, x.keep(1, 1, 9));
        due("his pounds, not the first one's", -1, x.keep(1, 1, 8));
        due("by 1", -1, x.keep(1, 1, 1));
    }

    private static void promise23() {
        Asked x = fort("down 0 1 0;down 0 1 0;down 1 2 0;one 5 0;one 9 1;");
        due("no step", 1, x.wet(0, 0, 0, 0));
        due("no step, told another place", 0, x.wet(0, 0, 1, 0));
        due("no step, told a bridge", 0, x.wet(0, 0, 0, 1));
        due("one step", 1, x.wet(0, 1, 5, 1));
        due("one step, the other one", 1, x.wet(0, 1, 6, 2));
        due("not just these", 0, x.wet(0, 1, 5, 3));
        due("over one and back", 1, x.wet(0, 2, 0, 1));
        due("over both", 2 * (1 + 1), x.wet(0, 4, 0, 3));
        due("over the first to 2", 1, x.wet(0, 4, 2, 5));
        due("6 steps over the first alone", 4, x.wet(0, 6, 0, 1));
        due("of the other one", 1, x.wet(1, 2, 2, 4));
        int[][] bad = {
            {-1, 0, 0, 0}, {2, 0, 0, 0}, {0, -1, 0, 0}, {0, 7, 0, 0}, {0, 0, -1, 0}, {0, 0, 8, 0},
            {0, 0, 0, -1}, {0, 0, 0, 8}, {0, 0, 0, LEAST}, {0, MOST, 0, 0}
        };
        for (int[] b : bad) {
            due("wet " + b[0] + " " + b[1] + " " + b[2] + " " + b[3], -2,
                x.wet(b[0], b[1], b[2], b[3]));
        }
        refusals("wet", x, bad.length, 0, 0);
        x.step(0, 5);
        due("where he is now", 1, x.wet(0, 0, 5, 1));
        due("where he is now counts", 0, x.wet(0, 1, 0, 0));
        // the others are not there: the one on BRIDGE 1 does not hold it
        x = fort("down 0 1 0;down 1 2 0;chain 0 1 0;one 5 0;one 9 1;");
        x.step(1, 6);
        due("his way is shut by himself", 0, x.wet(0, 4, 2, 3));
    }

    private static void promises24And25() {
        Asked x = fort("down 0 1 0;bridge 1 2 0;down 0 3 0;chain 0 1 0;one 1 0;load 1 3;");
        x.step(0, 5);
        x.type(';', 1);
        long then = x.digest();
        due("image 0", 1, x.image(0));
        due("image -1", -2, x.image(-1));
        due("image 2", -2, x.image(2));
        due("from -1", -2, x.from(-1));
        due("from 2", -2, x.from(2));
        due("from 1, none was kept", -3, x.from(1));
        x.undo();
        x.step(0, 7);
        x.step(0, 3);
        x.load(0, 4);
        x.bridge(0, 4, 1, true);
        x.chain(2, 3, 7);
        x.one(8, 4);
        due("image 1", 1, x.image(1));
        long later = x.digest();
        due("from 0", 1, x.from(0));
        due("all as then", then, x.digest());
        due("undo of then", 0b101, x.undo());
        due("from 1", 1, x.from(1));
        due("all as later", later, x.digest());
        due("where later", 3, x.where(0));
        due("image 1 over", 1, x.from(0) * x.image(1) * x.from(1));
        due("all as then", then, x.digest());
        x.clear();
        x.type(0, 3);
        x.from(0);
        due("THE TEXT is not kept", 3, x.count(4));
        refusals("images", x, 4, 1, 0);
    }

    private static void promise26() {
        Asked x = new Asked();
        due("status 3", -1, x.status(3));
        due("status -1", -1, x.status(-1));
        due("these count", 2, x.status(0));
        x.way(1, 0, 0);
        x.way(0, 0, 0);
        x.way(0, 0, -1);
        due("way's BAD counts", 3, x.status(0));
        readOf(x, "gate");
        readOf(x, "one 0 0;");
        refusals("status", x, 3, 0, 0);
    }

    private static void promise27() {
        Asked x = fort("down 0 1 0;down 1 2 0;down 0 2 0;chain 0 1 9;one 1 0;one 2 0;");
        x.type(0, 5);
        x.step(0, 5);
        int[] counts = {3, 1, 2, 1, 5};
        for (int what = 0; what < 5; what++) {
            due("count " + what, counts[what], x.count(what));
        }
        due("count -1", -2, x.count(-1));
        due("count 5", -2, x.count(5));
        refusals("count", x, 2, 0, 0);
    }

    private static void promise28() {
        Asked x = fort("down 3 1 5;bridge 1 2 4;chain 1 0 9;one 7 3;one 2 1;load 1 13;");
        x.step(0, 5);
        x.type(0, 4);
        int[] parts = {2, 1, 2, 1, 4, 3, 1, 5, 0, 1, 2, 4, 13, 1, 1, 0, 9, 7, 5, 2, 1};
        long h = 773;
        for (int part : parts) {
            h = 31 * h + part;
        }
        due("digest", h, x.digest());
        due("digest changes nothing", h, x.digest());
        h = 773;
        for (int i = 0; i < 6; i++) {
            h = 31 * h;
        }
        due("digest of a new one", h, new Asked().digest());
    }

    public static void main(String[] args) {
        promise1();
        promise2();
        promise3();
        promise4();
        promise5();
        promise6();
        promise7();
        promise8();
        promise9();
        promise10();
        promise11();
        promise12();
        promise13();
        promise14();
        promise15();
        promise16();
        promise17();
        promise18();
        promise19();
        promise20();
        promise21();
        promise22();
        promise23();
        promises24And25();
        promise26();
        promise27();
        promise28();
        System.out.println(asked + " answers, " + wrong + " not as due");
        if (wrong != 0) {
            System.exit(1);
        }
    }
}
