import java.io.IOException;
import java.lang.reflect.InvocationTargetException;
import java.lang.reflect.Method;
import java.lang.reflect.Modifier;
import java.nio.file.Files;
import java.nio.file.Path;
import java.util.ArrayList;
import java.util.HashMap;
import java.util.List;
import java.util.Map;
import java.util.Set;
import java.util.regex.Matcher;
import java.util.regex.Pattern;

/**
 * The sentences of the document that name an edge, each with a run of calls of its own.
 *
 * A line of a run is a call and the answer that is due: "load(0, 20) = 0". BAD, NO and FULL are
 * the answer and the reason; "-10 BAD" is another answer that counts as BAD. {0..4} in a call
 * stands for four calls: with -1, 5, the least and the greatest int. "fort one 5 0;" tells items by
 * their calls, "text ..." types what stands between its bars: |one 5 0;|.
 *
 * Behind every line STATUS is looked at; and a call that asks, or is refused, must leave an object
 * that goes on as one does on which it was never called.
 */
public final class MiserBridgesEdges {
    private static final int MOST_CALLS = 512;
    private static final Map<String, Method> FACE = new HashMap<>();
    private static final List<String> REASONS = List.of("BAD", "NO", "FULL");
    private static final Map<String, Long> NAMES = Map.of("MIN", (long) Integer.MIN_VALUE,
        "MAX", (long) Integer.MAX_VALUE, "LMIN", Long.MIN_VALUE, "LMAX", Long.MAX_VALUE,
        "NONE", -1L, "BAD", -2L, "NO", -3L, "FULL", -4L);
    private static final Set<String> ASKING = Set.of("weight", "where", "lying", "way", "reach",
        "can", "closed", "child", "cut", "tie", "stone", "keep", "wet", "status", "count", "digest");
    private static final Pattern CALL = Pattern.compile("(\\w+)\\((.*)\\)");
    private static final Pattern OUTSIDE = Pattern.compile("\\{(-?\\d+)\\.\\.(-?\\d+)\\}");

    private static int asked = 0;
    private static int wrong = 0;

    private static void due(String run, String call, long got, long want) {
        asked++;
        if (got != want) {
            wrong++;
            System.out.println(run + ": " + call + " answered " + got + ", due is " + want);
        }
    }

    /** A call threw instead. */
    private static final class NoAnswer extends RuntimeException {
        private static final long serialVersionUID = 1;

        NoAnswer(String what, Exception cause) {
            super(what, cause);
        }
    }

    // ---- a call, told as a text

    private static final class Call {
        final String text;
        final Method method;
        final Object[] arguments;

        Call(String text) {
            Matcher m = CALL.matcher(text);
            if (!m.matches() || !FACE.containsKey(m.group(1))) {
                throw new IllegalArgumentException(text);
            }
            this.text = text;
            method = FACE.get(m.group(1));
            String[] told = m.group(2).isEmpty() ? new String[0] : m.group(2).split(", *");
            Class<?>[] types = method.getParameterTypes();
            if (told.length != types.length) {
                throw new IllegalArgumentException(text);
            }
            arguments = new Object[told.length];
            for (int i = 0; i < told.length; i++) {
                arguments[i] = argument(told[i], types[i]);
            }
        }

        private static Object argument(String told, Class<?> type) {
            if (type == boolean.class) {
                return told.equals("true");
            }
            long v = number(told);
            return type == int.class ? (Object) (int) v : (Object) v;
        }

        long on(MiserBridges x) {
            try {
                return ((Number) method.invoke(x, arguments)).longValue();
            } catch (IllegalAccessException | InvocationTargetException e) {
                throw new NoAnswer(text + " threw " + e.getCause(), e);
            }
        }
    }

    private static long number(String told) {
        if (NAMES.containsKey(told)) {
            return NAMES.get(told);
        }
        return told.startsWith("0b") ? Long.parseLong(told.substring(2), 2) : Long.decode(told);
    }

    private static long ask(MiserBridges x, String call) {
        return new Call(call).on(x);
    }

    // ---- a line of a run

    private static final class Line {
        final Call call;
        /** Null: anything that is no refusal. */
        final Long answer;
        /** BAD 0, NO 1, FULL 2; none -1. */
        final int reason;
        final String dueTold;

        Line(String call, String dueTold) {
            this.call = new Call(call);
            this.dueTold = dueTold == null ? "no refusal" : dueTold;
            String[] parts = dueTold == null ? new String[0] : dueTold.split(" ");
            answer = parts.length == 0 ? null : (Long) number(parts[0]);
            reason = parts.length == 0 ? -1 : REASONS.indexOf(parts[parts.length - 1]);
        }

        boolean changes(long got) {
            boolean refused = reason >= 0 || got < 0;
            return !refused && !ASKING.contains(call.method.getName());
        }
    }

    private static List<Line> linesOf(String script) {
        List<Line> lines = new ArrayList<>();
        for (String told : script.split("\n")) {
            String line = told.strip();
            if (line.startsWith("fort ")) {
                for (String item : line.substring(5).split(";")) {
                    lines.add(new Line(callOfItem(item.strip().split(" ")), null));
                }
            } else if (line.startsWith("text |")) {
                typed(line.substring(6, line.lastIndexOf('|')), lines);
            } else if (!line.isEmpty()) {
                int at = line.lastIndexOf(" = ");
                outside(line.substring(0, at), line.substring(at + 3), lines);
            }
        }
        return lines;
    }

    private static String callOfItem(String[] item) {
        String numbers = String.join(", ", List.of(item).subList(1, item.length));
        switch (item[0]) {
            case "bridge": return "bridge(" + numbers + ", false)";
            case "down": return "bridge(" + numbers + ", true)";
            default: return item[0] + "(" + numbers + ")";
        }
    }

    private static void typed(String text, List<Line> lines) {
        for (int at = 0; at < text.length(); at += 8) {
            long v = 0;
            int end = Math.min(at + 8, text.length());
            for (int i = at; i < end; i++) {
                v = v << 8 | text.charAt(i);
            }
            lines.add(new Line("type(" + v + ", " + (end - at) + ")", null));
        }
    }

    /** One less and one more than what is told, and the least and the greatest int. */
    private static void outside(String call, String dueTold, List<Line> lines) {
        Matcher m = OUTSIDE.matcher(call);
        if (!m.find()) {
            lines.add(new Line(call, dueTold));
            return;
        }
        long less = Long.parseLong(m.group(1)) - 1;
        long more = Long.parseLong(m.group(2)) + 1;
        for (String v : List.of("" + less, "" + more, "MIN", "MAX")) {
            outside(call.substring(0, m.start()) + v + call.substring(m.end()), dueTold, lines);
        }
    }

    // ---- a run

    private static void told(String title, String script) {
        Line[] last = new Line[1];
        try {
            runOf(title, script, last);
        } catch (NoAnswer e) {
            wrong++;
            System.out.println(title + ": " + e.getMessage() + ", at or behind " + last[0].call.text
                + ", due is " + last[0].dueTold);
        }
    }

    /** Keeps the line that it is at in last, for what is printed where a call threw. */
    private static void runOf(String title, String script, Line[] last) {
        MiserBridges x = new MiserBridges();
        List<Call> kept = new ArrayList<>();
        List<String> without = null;
        int[] refused = new int[3];
        int calls = 0;
        for (Line line : linesOf(script)) {
            last[0] = line;
            long got = line.call.on(x);
            due(title, line.call.text, got, line.answer == null ? Math.max(got, 0) : line.answer);
            if (line.reason >= 0) {
                refused[line.reason]++;
            }
            for (int r = 0; r < 3; r++) {
                due(title, "status(" + r + ") behind " + line.call.text, x.status(r), refused[r]);
            }
            calls += 4;
            if (line.changes(got)) {
                kept.add(line.call);
                without = null;
            } else {
                without = without == null ? seen(replayed(kept)) : without;
                MiserBridges y = replayed(kept);
                line.call.on(y);
                alike(title + ", behind " + line.call.text, seen(y), without);
            }
        }
        List<String> all = seen(x);
        due(title, "so many calls, and more than an object has", Math.max(calls + all.size(), MOST_CALLS),
            MOST_CALLS);
        alike(title + ", behind all", all, seen(replayed(kept)));
    }

    private static MiserBridges replayed(List<Call> calls) {
        MiserBridges x = new MiserBridges();
        for (Call call : calls) {
            call.on(x);
        }
        return x;
    }

    /** All that an object shows but STATUS; it is used up by this. */
    private static List<String> seen(MiserBridges x) {
        List<String> seen = new ArrayList<>();
        for (int what = 0; what < 5; what++) {
            see(x, "count(" + what + ")", seen);
            see(x, "weight(" + what + ")", seen);
        }
        see(x, "lying()", seen);
        for (int what = 0; what < 4; what++) {
            see(x, "where(" + what + ")", seen);
            see(x, "reach(" + what + ")", seen);
        }
        seePast(x, seen);
        for (int image = 0; image < 2; image++) {
            if (see(x, "from(" + image + ")", seen) == 1) {
                seePast(x, seen);
            }
        }
        see(x, "read()", seen);
        see(x, "digest()", seen);
        see(x, "clear()", seen);
        return seen;
    }

    private static void seePast(MiserBridges x, List<String> seen) {
        do {
            see(x, "digest()", seen);
        } while (see(x, "undo()", seen) >= 0);
    }

    private static long see(MiserBridges x, String call, List<String> seen) {
        long answer = ask(x, call);
        seen.add(call + " = " + answer);
        return answer;
    }

    private static void alike(String title, List<String> got, List<String> want) {
        asked++;
        for (int i = 0; i < Math.max(got.size(), want.size()); i++) {
            String a = i < got.size() ? got.get(i) : "nothing";
            String b = i < want.size() ? want.get(i) : "nothing";
            if (!a.equals(b)) {
                wrong++;
                System.out.println(title + ": " + a + ", due is " + b);
                return;
            }
        }
    }

    // ---- promise 1, and what is refused in which order

    private static void newObject() {
        told("1: nobody, no BRIDGES", """
            count(0) = 0
            count(1) = 0
            count(2) = 0
            count(3) = 0
            count(4) = 0
            lying() = 0
            status(0) = 0
            status(1) = 0
            status(2) = 0
            digest() = 686040345413
            clear() = 0
            undo() = NO
            from(0) = NO
            from(1) = NO
            """);
        told("1: nothing told yet, a fort and steps", """
            chain(0, 1, 0) = BAD
            load(0, 0) = BAD
            weight(0) = BAD
            where(0) = BAD
            step(0, 0) = BAD
            step(0, 5) = BAD
            way(0, 0, NONE) = 0
            way(0, 4, 0) = -5
            way(1, 0, NONE) = -10 BAD
            read() = 0
            """);
        told("1: nothing told yet, how bridges can lie, chains, stones", """
            reach(0) = 1
            reach(1) = 1
            reach(2) = 0
            reach(3) = 0
            can(0) = 1
            can(1) = BAD
            closed(0) = 1
            closed(4) = 1
            child(0) = BAD
            cut(0, 0) = NONE
            cut(1, 0) = BAD
            tie(0, 0) = NONE
            tie(1, 0) = BAD
            stone(0, 0, 1) = NONE
            stone(1, 0, 1) = BAD
            keep(0, 0, 1) = BAD
            wet(0, 0, 0, 0) = BAD
            """);
        told("1: an IMAGE of nothing", """
            image(0) = 1
            fort down 0 1 0;one 1 0;
            step(0, 5) = 1
            from(0) = 1
            count(0) = 0
            count(2) = 0
            undo() = NO
            """);
    }

    private static final String FULL_FORT = "fort down 0 1 0;down 1 2 0;down 2 3 0;down 3 4 0;"
        + "down 4 0 0;chain 0 1 9;chain 2 3 9;one 1 0;one 2 1;one 3 2;\n";

    private static void firstReason() {
        told("BAD ahead of NO ahead of FULL, a full fort", FULL_FORT + """
            step(0, 5) = 31
            bridge(0, 1, 0, true) = FULL
            bridge(0, 0, 0, true) = BAD
            bridge(5, 1, 6, false) = BAD
            chain(4, 0, 0) = NO
            chain(4, 4, 0) = BAD
            chain(0, 1, 10) = BAD
            one(1, 0) = FULL
            one(0, 0) = BAD
            one(1, 5) = BAD
            step(0, 2) = NO
            step(0, 10) = BAD
            step(3, 2) = BAD
            from(0) = NO
            from(2) = BAD
            """);
        told("BAD ahead of FULL, a full TEXT", """
            text |%s|
            type(59, 1) = FULL
            type(59, 0) = BAD
            type(59, 9) = BAD
            """.formatted(" ".repeat(200)));
        told("more than one number is not as told: one refusal", FULL_FORT + """
            bridge(-1, 5, 9, true) = BAD
            chain(-1, -1, -1) = BAD
            load(9, 99) = BAD
            one(0, 9) = BAD
            step(-1, -1) = BAD
            way(-1, -1, -2) = -10 BAD
            cut(-1, -1) = BAD
            tie(8, 5) = BAD
            stone(8, 5, 10) = BAD
            keep(3, 5, 0) = BAD
            wet(-1, 7, 10, 32) = BAD
            status(0) = 11
            """);
    }

    // ---- promises 2 to 8

    private static void bridges() {
        told("2: a ROOM is 0 .. 4, a KIND 0 .. 5", """
            bridge({0..4}, 1, 0, true) = BAD
            bridge(1, {0..4}, 0, true) = BAD
            bridge(0, 1, {0..5}, true) = BAD
            bridge({0..4}, {0..4}, 0, false) = BAD
            count(0) = 0
            """);
        told("2: two unlike ROOMS", """
            bridge(0, 0, 0, true) = BAD
            bridge(1, 1, 1, false) = BAD
            bridge(2, 2, 2, true) = BAD
            bridge(3, 3, 3, false) = BAD
            bridge(4, 4, 5, true) = BAD
            count(0) = 0
            """);
        told("2: BRIDGES 0 .. 4, as they come, then FULL", """
            bridge(0, 4, 0, true) = 0
            bridge(0, 5, 0, true) = BAD
            bridge(4, 0, 5, false) = 1
            bridge(0, 4, 0, true) = 2
            bridge(1, 2, 4, true) = 3
            one(1, 0) = 0
            step(0, 5) = 13
            bridge(3, 3, 0, true) = BAD
            count(3) = 1
            bridge(3, 2, 3, false) = 4
            count(3) = 0
            step(0, 4) = 13
            bridge(0, 1, 0, true) = FULL
            bridge(4, 3, 5, false) = FULL
            count(0) = 5
            count(3) = 1
            lying() = 13
            """);
        for (int a = 0; a < 5; a++) {
            for (int b = 0; b < 5; b++) {
                if (a != b) {
                    told("2: any two unlike ROOMS", """
                        bridge(%d, %d, %d, true) = 0
                        closed(%d) = 0
                        closed(%d) = 0
                        reach(2) = 1
                        """.formatted(a, b, (a + b) % 6, a, b));
                }
            }
        }
        for (int kind = 0; kind < 6; kind++) {
            told("2: any KIND is DOWN or UP at first", """
                bridge(0, 1, %d, true) = 0
                bridge(0, 1, %d, false) = 1
                lying() = 1
                """.formatted(kind, kind));
        }
    }

    private static void chains() {
        String five = "fort down 0 1 0;down 1 2 0;down 2 3 0;down 3 4 0;down 4 0 0;\n";
        told("3: BRIDGES that are there, RUST 0 .. 9", five + """
            chain({0..4}, 0, 0) = BAD
            chain(0, {0..4}, 0) = BAD
            chain(0, 1, {0..9}) = BAD
            count(1) = 0
            """);
        told("3: a BRIDGE that is not there yet", """
            chain(0, 1, 0) = BAD
            bridge(0, 1, 0, true) = 0
            chain(0, 1, 0) = BAD
            chain(1, 0, 0) = BAD
            chain(0, 0, 0) = BAD
            bridge(0, 1, 0, true) = 1
            chain(0, 2, 0) = BAD
            chain(1, 0, 0) = 0
            """);
        told("3: BRIDGES alike", five + """
            chain(0, 0, 0) = BAD
            chain(1, 1, 9) = BAD
            chain(4, 4, 0) = BAD
            """);
        told("3: neither tied already; CHAINS 0 .. 1, as they come", five + """
            chain(0, 4, 9) = 0
            chain(0, 1, 0) = NO
            chain(1, 0, 0) = NO
            chain(4, 2, 0) = NO
            chain(2, 4, 0) = NO
            chain(0, 4, 9) = NO
            chain(4, 0, 9) = NO
            chain(0, 0, 0) = BAD
            chain(4, 5, 0) = BAD
            chain(0, 1, 10) = BAD
            chain(0, 1, -1) = BAD
            chain(3, 1, 0) = 1
            count(1) = 2
            """);
        told("3: two CHAINS leave one BRIDGE, so NO comes ahead of FULL", five + """
            chain(0, 4, 9) = 0
            chain(3, 1, 0) = 1
            chain(2, 0, 0) = NO
            chain(1, 2, 0) = NO
            chain(2, 3, 9) = NO
            chain(4, 2, 0) = NO
            chain(2, 2, 0) = BAD
            chain(2, 5, 0) = BAD
            count(1) = 2
            """);
        told("3: a CHAIN that is told tips nothing, one that is refused leaves the STEPS", five + """
            fort load 0 9;one 1 2;
            step(0, 7) = 31
            chain(0, 0, 0) = BAD
            count(3) = 1
            chain(0, 1, 0) = 0
            lying() = 31
            count(3) = 0
            step(0, 2) = 29
            chain(1, 2, 0) = NO
            count(3) = 1
            """);
    }

    private static void loads() {
        told("4: BALLAST 0 .. 20, 0 at first; what it was", """
            fort down 0 1 0;
            load(0, 0) = 0
            load(0, 20) = 0
            load(0, {0..20}) = BAD
            load(0, 1) = 20
            load(0, {0..20}) = BAD
            load(0, 0) = 1
            load({0..0}, 5) = BAD
            load({0..0}, 21) = BAD
            load(0, 0) = 0
            """);
        told("4: of any BRIDGE that is there", FULL_FORT + """
            load(4, 20) = 0
            load(0, 1) = 0
            load({0..4}, 0) = BAD
            load({0..4}, 20) = BAD
            load(4, 19) = 20
            load(0, 2) = 1
            load(1, 0) = 0
            """);
        told("4: BALLAST leaves the STEPS, and tips nothing", """
            fort down 0 1 0;bridge 0 2 0;chain 0 1 0;one 1 0;
            step(0, 5) = 1
            load(1, 20) = 0
            lying() = 1
            count(3) = 1
            load(1, 21) = BAD
            count(3) = 1
            undo() = 1
            lying() = 1
            load(1, 20) = 20
            """);
        told("4: a BRIDGE comes without BALLAST where another one was", """
            fort down 0 1 0;load 0 20;
            read() = 0
            fort down 0 1 0;
            weight(0) = 0
            load(0, 3) = 0
            """);
    }

    private static void people() {
        told("5: POUNDS 1 .. 9, a ROOM 0 .. 4", """
            one({1..9}, 0) = BAD
            one(1, {0..4}) = BAD
            one({1..9}, {0..4}) = BAD
            count(2) = 0
            one(-9, 0) = BAD
            """);
        told("5: PEOPLE 0 .. 2, as they come, then FULL", """
            one(1, 4) = 0
            one(10, 4) = BAD
            one(9, 0) = 1
            where(1) = 0
            fort down 0 1 0;
            step(1, 5) = 1
            one(9, 5) = BAD
            count(3) = 1
            one(5, 2) = 2
            count(3) = 0
            where(0) = 4
            where(1) = 5
            where(2) = 2
            step(1, 1) = 1
            one(1, 0) = FULL
            one(9, 4) = FULL
            one(0, 0) = BAD
            one(10, 5) = BAD
            count(2) = 3
            count(3) = 1
            """);
        for (int pounds = 1; pounds < 10; pounds++) {
            told("5: any POUNDS, any ROOM", """
                fort down 0 1 0;down 1 2 0;down 2 3 0;down 3 4 0;down 4 0 0;
                one(%d, %d) = 0
                where(0) = %d
                step(0, %d) = 31
                weight(%d) = %d
                """.formatted(pounds, pounds % 5, pounds % 5, 5 + pounds % 5, pounds % 5, pounds));
        }
    }

    private static void weights() {
        int[] half = {0, 0, 1, 1, 2, 2, 3, 3, 4, 4, 5, 5, 6, 6, 7, 7, 8, 8, 9, 9, 10};
        for (int n = 0; n < half.length; n++) {
            int[] loads = {n, half[n], n + n, n, half[n], n == 0 ? 0 : n + n + 1};
            for (int kind = 0; kind < 6; kind++) {
                told("6: KIND " + kind + ", BALLAST " + n, """
                    fort bridge 0 1 %d;load 0 %d;
                    weight(0) = %d
                    """.formatted(kind, n, loads[kind]));
            }
        }
        int[] one = {1, 0, 2, 1, 0, 3};
        int[] most = {47, 23, 94, 47, 23, 95};
        for (int kind = 0; kind < 6; kind++) {
            told("6: the least and the greatest on KIND " + kind, """
                fort down 0 1 %d;one 1 0;
                weight(0) = 0
                step(0, 5) = 1
                weight(0) = %d
                read() = 0
                fort down 0 1 %d;load 0 20;one 9 0;one 9 1;one 9 0;
                step(0, 5) = 1
                step(1, 5) = 1
                step(2, 5) = 1
                weight(0) = %d
                """.formatted(kind, one[kind], kind, most[kind]));
        }
        told("6: the sum is halved, not each", """
            fort down 0 1 1;load 0 1;one 1 0;one 1 0;one 1 0;
            step(0, 5) = 1
            weight(0) = 1
            step(1, 5) = 1
            weight(0) = 1
            step(2, 5) = 1
            weight(0) = 2
            """);
        told("6: of a BRIDGE that is there", """
            weight({0..-1}) = BAD
            fort down 0 1 0;
            weight({0..0}) = BAD
            weight(0) = 0
            fort down 0 1 0;down 0 1 0;down 0 1 0;down 0 1 0;load 4 7;
            weight({0..4}) = BAD
            weight(4) = 7
            """);
        told("6: who is on one that is UP has his weight on it", """
            fort down 0 1 2;bridge 0 1 0;chain 0 1 0;load 1 9;one 4 0;
            step(0, 5) = 0b10
            weight(0) = 8
            """);
    }

    private static void wheres() {
        told("7: PLACES 0 to 4 the ROOMS, 5 and b BRIDGE b", """
            fort down 0 4 0;down 0 4 0;down 0 4 0;down 0 4 0;down 0 4 0;one 1 0;one 1 4;
            where(0) = 0
            where(1) = 4
            step(0, 5) = 31
            where(0) = 5
            step(1, 9) = 31
            where(1) = 9
            step(0, 4) = 31
            where(0) = 4
            """);
        told("7: of a PERSON who is there", """
            where({0..-1}) = BAD
            fort one 1 3;
            where({0..0}) = BAD
            where(0) = 3
            fort one 1 2;one 1 1;
            where({0..2}) = BAD
            where(2) = 1
            """);
    }

    private static void lyings() {
        told("8: the least and the greatest LYING", """
            lying() = 0
            fort bridge 0 1 0;bridge 0 1 0;bridge 0 1 0;bridge 0 1 0;bridge 0 1 0;
            lying() = 0
            read() = 0
            fort down 0 1 0;down 0 1 0;down 0 1 0;down 0 1 0;down 0 1 0;
            lying() = 31
            bridge(0, 1, 0, true) = FULL
            lying() = 31
            """);
        told("8: bit b is BRIDGE b", """
            fort bridge 0 1 0;bridge 0 1 0;bridge 0 1 0;bridge 0 1 0;down 0 1 0;
            lying() = 16
            read() = 0
            lying() = 0
            fort down 0 1 0;bridge 0 1 0;
            lying() = 1
            bridge(0, 0, 0, true) = BAD
            bridge(0, 1, 6, true) = BAD
            lying() = 1
            """);
    }

    // ---- promises 9 and 10

    /** Calls that type a text, so many bytes a call, under bytes that are not to come. */
    private static String typeLines(String text, int atOnce) {
        StringBuilder lines = new StringBuilder();
        for (int at = 0; at < text.length(); at += atOnce) {
            long v = -1;
            int end = Math.min(at + atOnce, text.length());
            for (int i = at; i < end; i++) {
                v = v << 8 | text.charAt(i);
            }
            lines.append("type(" + v + ", " + (end - at) + ") = " + end + "\n");
        }
        return lines.toString();
    }

    private static void types() {
        told("9: n is 1 .. 8", """
            type(59, {1..8}) = BAD
            type(LMIN, {1..8}) = BAD
            type(LMAX, {1..8}) = BAD
            count(4) = 0
            """);
        for (int n = 1; n <= 8; n++) {
            told("9: the lowest " + n + " bytes, the highest of them first",
                typeLines("down 3 4 1;one 9 4;", n) + """
                    read() = 2
                    where(0) = 4
                    step(0, 5) = 1
                    weight(0) = 4
                    step(0, 3) = 1
                    """);
            int room = 200 - n;
            told("9: " + n + " bytes come to a TEXT that has room for them", """
                text |%s|
                type(%d, %d) = 200
                type(59, 1) = FULL
                count(4) = 200
                """.formatted(" ".repeat(room), 0x2020202020202020L, n));
            told("9: " + n + " bytes, one more than there is room for", """
                text |%s;|
                type(0, %d) = FULL
                type(LMIN, %d) = FULL
                count(4) = %d
                read() = %d
                """.formatted(" ".repeat(room), n, n, room + 1, -10 - room));
        }
        told("9: the least and the greatest long", """
            type(LMIN, 1) = 1
            type(LMAX, 8) = 9
            type(LMIN, 8) = 17
            type(-1, 8) = 25
            type(0, 1) = 26
            read() = -10
            clear() = 26
            text |one 9 4|
            type(-9223372036854775749, 1) = 8
            read() = 1
            type(LMAX, 1) = 9
            read() = -18
            """);
        told("9: as many as can be, and one more", """
            text |%s|
            type(59, 1) = FULL
            type(59, 8) = FULL
            type(59, {1..8}) = BAD
            count(4) = 200
            clear() = 200
            type(59, 1) = 1
            """.formatted(" ".repeat(200)));
    }

    private static void clears() {
        told("10: THE TEXT is empty: how many it had", """
            clear() = 0
            clear() = 0
            type(59, 1) = 1
            read() = -10
            clear() = 1
            count(4) = 0
            read() = 0
            clear() = 0
            text |%s|
            clear() = 200
            count(4) = 0
            type(59, 8) = 8
            """.formatted(" ".repeat(200)));
        told("10: nothing but THE TEXT changes", FULL_FORT + """
            step(0, 5) = 31
            type(59, 5) = 5
            clear() = 5
            count(3) = 1
            count(0) = 5
            where(0) = 5
            """);
    }

    // ---- promise 11

    /** A TEXT that is read where a fort, a STEP and an IMAGE are. */
    private static void reads(String title, String text, int answer) {
        String script = """
            fort down 3 4 0;one 7 3;load 0 2;
            image(1) = 1
            step(0, 5) = 1
            where(5) = BAD
            from(0) = NO
            """ + typeLines(text, 8) + "read() = " + answer + "\n";
        String then = answer < 0 ? """
            count(3) = 1
            where(0) = 5
            weight(0) = 9
            """ : """
            count(3) = 0
            undo() = NO
            from(1) = 1
            where(0) = 3
            weight(0) = 2
            """;
        told("11: " + title + " |" + text + "|", script + then + "count(4) = " + text.length() + "\n");
    }

    private static void itemsAndFaults() {
        reads("an empty one has no FAULT", "", 0);
        reads("blanks alone", " ", 0);
        reads("blanks alone", " ".repeat(200), 0);
        reads("the least FAULT", ";", -10);
        reads("the greatest place of a byte", " ".repeat(199) + ";", -10 - 199);
        reads("a TOKEN that ends with THE TEXT", " ".repeat(198) + "on", -10 - 198);
        reads("it ends too early, its length", " ".repeat(197) + "one", -10 - 200);
        reads("it ends too early, blanks behind", "one 5 0" + " ".repeat(193), -10 - 200);
        reads("as many as can be", "down 0 1 0;" + "load 0 0;".repeat(21), 22);
        reads("the last ITEM of 22", "down 0 1 0;" + "load 0 0;".repeat(20) + "load 1 0;", -1021);
        reads("the last byte of 200", "down 0 1 0;" + "load 0 0;".repeat(20) + "load 0 0 ", -10 - 200);
        reads("no ; where it must be", "down 0 1 0;" + "load 0 0;".repeat(20) + "load 0 0a", -10 - 199);
        reads("blanks between", "  one   5   0  ;  one 5 0 ; ", 2);
        reads("no blanks between unlike TOKENS", "one5 0;one5 0;", 2);
        reads("; alone is no ITEM", "one 5 0;;", -10 - 8);
        reads("; is wanting", "one 5 0 one 5 0;", -10 - 8);
        reads("a number too many", "one 5 0 0;", -10 - 8);
        reads("a number too few", "one 5;", -10 - 5);
        reads("a number too few", "chain 0 1;", -10 - 9);
        reads("a number first", "5 one 0;", -10);
        reads("a word for a number", "one one 0;", -10 - 4);
        reads("a word for ;", "one 5 0 down", -10 - 8);
        reads("the first of two", "one 5 ; one 1000 0;", -10 - 6);
        reads("a byte that begins none, ahead of a word that is none", "one -5 on;", -10 - 4);
    }

    private static void eachByte() {
        for (int c = 0; c < 256; c++) {
            boolean letter = c >= 'a' && c <= 'z';
            boolean figure = c >= '0' && c <= '9';
            reads("byte " + c + " first", (char) c + " one 5 0;", c == 32 ? 1 : -10);
            int behind = c == 32 || figure && c < '5' ? 1 : figure ? -1000 : c == ';' ? -10 - 9 : -10 - 7;
            reads("byte " + c + " behind a number", "one 5 0" + (char) c + " ;", behind);
            int inWord = letter ? -10 : c == 32 ? -10 - 4 : figure ? -10 - 4 : -10 - 3;
            reads("byte " + c + " behind a word", "one" + (char) c + ";", inWord);
        }
    }

    private static void eachWord() {
        String two = "down 0 1 0;down 1 2 0;";
        String[] items = {"bridge 0 1 0;", "down 4 3 5;", "chain 1 0 9;", "one 9 4;", "load 1 20;"};
        for (String item : items) {
            int word = item.indexOf(' ');
            reads("each ITEM", two + item, 3);
            for (int end = 0; end < item.length(); end++) {
                int due = end == 0 ? 2 : end < word ? -10 - two.length() : -10 - two.length() - end;
                reads("cut behind " + end, two + item.substring(0, end), due);
            }
            for (int i = 0; i < word; i++) {
                String start = two + item.substring(0, i);
                String rest = item.substring(i + 1);
                char c = item.charAt(i);
                reads("a word that is none", start + (char) (c - 1) + rest, -10 - two.length());
                reads("a word that is none", start + (char) (c + 1) + rest, -10 - two.length());
                reads("a letter is wanting", start + rest, -10 - two.length());
                reads("a capital", start + (char) (c - 32) + rest, -10 - two.length());
            }
            String longer = item.substring(0, word) + "s" + item.substring(word);
            reads("a letter too many", two + longer, -10 - two.length());
            reads("a letter too many", two + "z" + item, -10 - two.length());
        }
        reads("two words are one", "onedown 0 1 0;", -10);
        reads("two words are not one", "do wn 0 1 0;", -10);
    }

    private static void eachNumber() {
        reads("one figure and two", "one 5 0;one 05 00;", 2);
        reads("two figures, the greatest", "one 99 0;", -1000);
        reads("two figures, the greatest", "bridge 0 1 99;", -1000);
        reads("a third figure's number", "one 100 0;", -10 - 4);
        reads("a third figure's number", "one 005 0;", -10 - 4);
        reads("a third figure's number", "one 5 000;", -10 - 6);
        reads("a third figure's number", "one 5  0000000000000;", -10 - 7);
        reads("a third figure's number", "one 5 0 999;", -10 - 8);
        reads("a third figure's number", "bridge 0 1 000;", -10 - 11);
        reads("a third figure's number, at the end", "one 5 000", -10 - 6);
        reads("a third figure's number, first", "100 5 0;", -10);
        reads("two numbers of two figures", "one 05 04;", 1);
        reads("a blank parts two numbers", "one 1 2 3;", -10 - 8);
    }

    private static void refusedItems() {
        String five = "down 0 1 0;".repeat(5);
        String two = "down 0 1 0;".repeat(2);
        reads("ROOM 4, KIND 5", "bridge 0 4 0;down 4 0 5;", 2);
        reads("ROOM 5", "bridge 5 1 0;", -1000);
        reads("ROOM 5", "bridge 0 5 0;", -1000);
        reads("ROOM 5", "down 5 1 0;", -1000);
        reads("ROOMS alike", "down 1 1 0;", -1000);
        reads("KIND 6", "bridge 0 1 6;", -1000);
        reads("KIND 6", "down 0 1 6;", -1000);
        reads("BRIDGE 4", five, 5);
        reads("a sixth BRIDGE", five + "down 0 1 0;", -1005);
        reads("a CHAIN of BRIDGES that come later", "chain 0 1 0;" + two, -1000);
        reads("a CHAIN of one BRIDGE", "down 0 1 0;chain 0 1 0;down 0 1 0;", -1001);
        reads("BRIDGES alike", two + "chain 1 1 0;", -1002);
        reads("RUST 9", two + "chain 1 0 9;", 3);
        reads("RUST 10", two + "chain 1 0 10;", -1002);
        reads("tied already", two + "chain 1 0 9;chain 0 1 9;", -1003);
        reads("two CHAINS", five + "chain 1 0 9;chain 2 4 0;", 7);
        reads("a third CHAIN", five + "chain 1 0 9;chain 2 4 0;chain 3 0 0;", -1007);
        reads("POUNDS 1, 9", "one 1 0;one 9 4;", 2);
        reads("POUNDS 0", "one 0 0;", -1000);
        reads("POUNDS 10", "one 10 0;", -1000);
        reads("ROOM 5", "one 1 5;", -1000);
        reads("three", "one 1 1;one 1 1;one 1 1;", 3);
        reads("a fourth", "one 1 1;one 1 1;one 1 1;one 1 1;", -1003);
        reads("BALLAST 0, 20", "down 0 1 0;load 0 20;load 0 0;", 3);
        reads("BALLAST 21", "down 0 1 0;load 0 21;", -1001);
        reads("BALLAST of no BRIDGE", "down 0 1 0;load 1 20;", -1001);
        reads("BALLAST of the fort that was", "load 0 1;down 0 1 0;", -1000);
        reads("the first ITEM that is refused", "one 0 0;one 1 0;load 0 0;", -1000);
        reads("the first ITEM that is refused", "one 1 0;one 1 5;load 0 0;", -1001);
        reads("a FAULT behind it comes first", "one 0 0;one 0 0", -10 - 15);
        reads("a FAULT behind it comes first", "one 0 0;;", -10 - 8);
    }

    private static void toldAnew() {
        told("11: a FORT is told anew by these alone", FULL_FORT + """
            fort load 2 9;
            step(0, 5) = 31
            text |down 4 0 1;bridge 0 4 2;one 7 4;load 1 3;|
            read() = 4
            count(0) = 2
            count(1) = 0
            count(2) = 1
            count(3) = 0
            count(4) = 41
            lying() = 1
            where(0) = 4
            where(1) = BAD
            weight(0) = 0
            weight(1) = 6
            weight(2) = BAD
            chain(0, 1, 0) = 0
            step(0, 5) = 2
            read() = 4
            count(1) = 0
            count(3) = 0
            where(0) = 4
            """);
        told("11: a fort that is full is no hindrance", FULL_FORT + """
            text |down 0 1 0;down 0 1 0;down 0 1 0;down 0 1 0;down 0 1 0;|
            text |chain 0 1 0;chain 2 3 0;one 1 0;one 1 0;one 1 0;|
            read() = 10
            count(0) = 5
            count(1) = 2
            count(2) = 3
            """);
        told("11: an empty TEXT tells a fort of nothing", FULL_FORT + """
            step(0, 5) = 31
            reach(1) = 1
            read() = 0
            count(0) = 0
            count(1) = 0
            count(2) = 0
            count(3) = 0
            lying() = 0
            """);
        told("11: what is told tips nothing", """
            text |down 0 1 0;bridge 0 2 0;chain 0 1 0;load 1 20;one 1 0;|
            read() = 5
            lying() = 1
            step(0, 5) = 2
            """);
        told("11: of a longer TEXT that was nothing is read", """
            text |one 5 0123;one 5 0;|
            read() = -16
            clear() = 19
            text |one 5 0|
            read() = -17
            text |1;|
            read() = 1
            where(0) = 1
            clear() = 9
            text |on|
            read() = -10
            type(101, 1) = 3
            read() = -13
            """);
    }

    // ---- promises 12 and 13

    private static void steps() {
        told("12: a PERSON who is there, a PLACE that is there", """
            step({0..-1}, 0) = BAD
            fort one 1 0;
            step({0..0}, 4) = BAD
            step(0, {0..4}) = BAD
            step(0, 0) = NO
            step(0, 4) = NO
            fort down 0 1 0;
            step(0, {0..5}) = BAD
            step(0, 5) = 1
            step(0, {0..5}) = BAD
            step({0..0}, {0..5}) = BAD
            where(0) = 5
            """);
        told("12: the greatest PERSON, the greatest PLACE", FULL_FORT + """
            step({0..2}, 5) = BAD
            step(2, {0..9}) = BAD
            step(2, 8) = NO
            step(2, 7) = 31
            step(2, 3) = 31
            step(2, 8) = 31
            step(2, 4) = 31
            step(2, 9) = 31
            step(2, 0) = 31
            where(2) = 0
            """);
        told("12: from a ROOM on a BRIDGE of this ROOM that is DOWN", """
            fort down 1 2 0;bridge 1 2 0;down 3 4 0;one 1 1;
            step(0, 6) = NO
            step(0, 7) = NO
            step(0, 0) = NO
            step(0, 1) = NO
            step(0, 2) = NO
            step(0, 5) = 0b101
            """);
        told("12: from a BRIDGE that is DOWN to one of its ROOMS", """
            fort down 1 2 0;down 1 2 0;down 3 4 0;one 1 1;
            step(0, 5) = 7
            step(0, 5) = NO
            step(0, 6) = NO
            step(0, 7) = NO
            step(0, 0) = NO
            step(0, 3) = NO
            step(0, 4) = NO
            step(0, 2) = 7
            step(0, 6) = 7
            step(0, 1) = 7
            """);
        told("12: who is on one that is UP waits", """
            fort down 0 1 0;bridge 0 1 0;down 0 2 0;chain 0 1 0;load 1 9;one 4 0;one 1 0;
            step(0, 5) = 0b110
            step(0, 0) = NO
            step(0, 1) = NO
            step(0, 5) = NO
            step(0, 6) = NO
            step(0, 8) = BAD
            step(1, 5) = NO
            way(1, 0, NONE) = NONE
            load(1, 0) = 9
            step(0, 0) = NO
            lying() = 0b110
            step(1, 7) = 0b101
            step(0, 1) = 0b101
            """);
        told("12: CHAINS tip at each STEP alone, behind it", """
            fort down 0 1 0;bridge 0 1 0;chain 0 1 0;load 1 3;one 5 0;
            step(0, 5) = 1
            step(0, 6) = NO
            lying() = 1
            step(0, 1) = 2
            undo() = 1
            lying() = 1
            image(0) = 1
            load(1, 9) = 3
            step(0, 2) = NO
            step(0, 7) = BAD
            lying() = 1
            from(0) = 1
            lying() = 1
            weight(1) = 3
            """);
    }

    private static void tipping() {
        for (int rust = 0; rust < 10; rust++) {
            for (int heavy = 0; heavy < 2; heavy++) {
                told("12: by more than RUST " + rust, """
                    fort down 0 1 0;down 0 1 0;down 0 2 0;chain %d %d %d;one 1 0;load 0 3;load 1 3;
                    step(0, 7) = 7
                    load(%d, %d) = 3
                    step(0, 0) = 7
                    load(%d, %d) = %d
                    step(0, 7) = %d
                    load(0, 3) = %d
                    load(1, 3) = %d
                    step(0, 0) = %d
                    """.formatted(rust % 2, 1 - rust % 2, rust, heavy, 3 + rust,
                    heavy, 4 + rust, 3 + rust, 0b100 | 1 << heavy,
                    heavy == 0 ? 4 + rust : 3, heavy == 1 ? 4 + rust : 3, 0b100 | 1 << heavy));
            }
        }
        int[] loadOf2 = {2, 1, 4, 2, 1, 5};
        for (int kind = 0; kind < 6; kind++) {
            told("12: by the LOAD of KIND " + kind, """
                fort down 0 1 %d;down 0 1 0;down 0 2 0;chain 0 1 %d;one 1 0;load 0 2;
                step(0, 7) = 7
                read() = 0
                fort down 0 1 %d;down 0 1 0;down 0 2 0;chain 0 1 %d;one 1 0;load 0 2;
                step(0, 7) = 0b101
                """.formatted(kind, loadOf2[kind], kind, loadOf2[kind] - 1));
        }
        told("12: half of 1 pound is no LOAD, GREASED has none of 0", """
            fort down 0 1 1;down 0 1 5;down 0 2 0;chain 0 1 0;one 1 0;load 0 1;
            step(0, 7) = 7
            load(0, 2) = 1
            step(0, 0) = 0b101
            """);
        told("12: each CHAIN by itself, at any STEP", """
            fort down 0 1 0;bridge 0 1 0;bridge 0 1 0;down 0 1 0;down 0 1 0;
            fort chain 1 0 4;chain 3 2 1;one 1 0;load 1 5;load 2 1;
            step(0, 9) = 0b11010
            load(2, 2) = 1
            step(0, 0) = 0b10110
            """);
    }

    /** The heavy one comes DOWN, the light one goes UP, if each is so already or may. */
    private static void kindsThatMay() {
        for (int heavy = 0; heavy < 12; heavy++) {
            for (int light = 0; light < 12; light++) {
                boolean heavyDown = heavy % 2 == 1;
                boolean lightDown = light % 2 == 1;
                boolean jammed = heavy / 2 == 4 && !heavyDown;
                boolean latched = light / 2 == 3 && lightDown;
                int before = 0b100 | (heavyDown ? 1 : 0) | (lightDown ? 2 : 0);
                told("12: both are so already or may", """
                    bridge(0, 1, %d, %b) = 0
                    bridge(0, 1, %d, %b) = 1
                    fort down 0 2 0;chain %d %d 9;one 1 0;load 0 20;
                    lying() = %d
                    step(0, 7) = %d
                    """.formatted(heavy / 2, heavyDown, light / 2, lightDown, heavy % 2, 1 - heavy % 2,
                    before, jammed || latched ? before : 0b101));
            }
        }
    }

    /** Over BRIDGE 0 and back, so many STEPS. */
    private static String walk(int steps) {
        StringBuilder lines = new StringBuilder();
        for (int i = 0; i < steps; i++) {
            lines.append("step(0, " + placeBehind(i) + ") = 1\n");
            lines.append("count(3) = " + Math.min(i + 1, 16) + "\n");
        }
        return lines.toString();
    }

    private static int placeBehind(int step) {
        return step < 0 ? 0 : step % 2 == 0 ? 5 : step % 4 == 1 ? 1 : 0;
    }

    /** As far back as a walk of so many STEPS may be undone. */
    private static String walkBack(int steps) {
        StringBuilder lines = new StringBuilder();
        for (int i = steps - 1; i >= Math.max(0, steps - 16); i--) {
            lines.append("undo() = 1\nwhere(0) = " + placeBehind(i - 1) + "\n");
        }
        return lines.toString();
    }

    private static void undos() {
        told("13: none may be", """
            undo() = NO
            fort down 0 1 0;one 1 0;
            undo() = NO
            step(0, 5) = 1
            undo() = 1
            undo() = NO
            step(0, 1) = NO
            undo() = NO
            """);
        String start = "fort down 0 1 0;one 1 0;\n";
        told("13: 15 STEPS", start + walk(15) + walkBack(15) + "where(0) = 0\nundo() = NO\n");
        told("13: 16 STEPS", start + walk(16) + walkBack(16) + "where(0) = 0\nundo() = NO\n");
        told("13: 17 STEPS, 16 at most", start + walk(17) + walkBack(17)
            + "where(0) = 5\nundo() = NO\n");
        told("13: 19 STEPS, 16 at most", start + walk(19) + walkBack(19)
            + "where(0) = 5\nundo() = NO\n");
        told("13: room for a STEP behind an UNDO", start + walk(16) + """
            undo() = 1
            step(0, 1) = 1
            count(3) = 16
            undo() = 1
            where(0) = 5
            count(3) = 15
            """);
        told("13: as ahead of the last STEP", """
            fort down 0 1 0;bridge 0 1 0;down 0 2 0;chain 0 1 0;load 1 3;one 1 0;one 5 2;
            step(1, 7) = 0b110
            undo() = 0b101
            where(1) = 2
            step(0, 5) = 0b110
            undo() = 0b101
            where(0) = 0
            count(3) = 0
            """);
        told("13: BALLAST is not undone", """
            fort down 0 1 0;bridge 0 1 0;chain 0 1 0;one 1 0;
            step(0, 5) = 1
            load(1, 20) = 0
            step(0, 1) = 2
            load(0, 7) = 0
            undo() = 1
            weight(0) = 8
            weight(1) = 20
            undo() = 1
            weight(0) = 7
            load(1, 0) = 20
            """);
    }

    private static void whatLeavesNone() {
        String two = "fort down 0 1 0;down 0 1 0;one 1 0;\nstep(0, 5) = 3\n";
        told("13: a BRIDGE told leaves none", two + """
            bridge(0, 0, 0, true) = BAD
            count(3) = 1
            bridge(0, 1, 0, false) = 2
            count(3) = 0
            undo() = NO
            """);
        told("13: a CHAIN told leaves none", two + """
            chain(0, 2, 0) = BAD
            count(3) = 1
            chain(0, 1, 9) = 0
            count(3) = 0
            undo() = NO
            step(0, 1) = 3
            chain(0, 1, 9) = NO
            count(3) = 1
            """);
        told("13: a PERSON told leaves none", two + """
            one(0, 0) = BAD
            count(3) = 1
            one(1, 0) = 1
            count(3) = 0
            undo() = NO
            """);
        told("13: what is FULL leaves them", FULL_FORT + """
            step(0, 5) = 31
            bridge(0, 1, 0, true) = FULL
            one(1, 0) = FULL
            count(3) = 1
            undo() = 31
            """);
        told("13: BALLAST, THE TEXT, an IMAGE, what is asked leave them", two + """
            load(0, 20) = 0
            type(59, 1) = 1
            read() = -10
            clear() = 1
            image(0) = 1
            way(1, 1, NONE) = 1
            count(3) = 1
            undo() = 3
            """);
    }

    // ---- promise 14

    private static void ways() {
        told("14: some, a ROOM 0 .. 4, i from NONE on", """
            fort down 0 1 0;one 1 0;
            way({0..1}, 0, NONE) = -10 BAD
            way(1, {0..4}, NONE) = -10 BAD
            way({0..1}, {0..4}, 0) = -10 BAD
            way(1, 1, -2) = -10 BAD
            way(1, 1, MIN) = -10 BAD
            way(1, 4, -2) = -10 BAD
            way(1, 0, MIN) = -10 BAD
            """);
        told("14: some of nobody", """
            way({0..0}, 0, NONE) = -10 BAD
            way(0, 0, NONE) = 0
            way(0, 4, NONE) = 0
            way(0, 0, 0) = -5
            way(0, 4, MAX) = -5
            way(0, 0, -2) = -10 BAD
            """);
        told("14: how many, the i-th STEP, not so many", """
            fort down 0 1 0;one 1 0;
            way(1, 1, NONE) = 2
            way(1, 1, 0) = 5
            way(1, 1, 1) = 1
            way(1, 1, 2) = -5
            way(1, 1, MAX) = -5
            way(0, 1, NONE) = 0
            """);
        told("14: all of some are there now", """
            fort down 0 1 0;one 1 0;one 1 0;one 1 4;
            way(3, 0, NONE) = 0
            way(3, 0, 0) = -5
            way(3, 0, MAX) = -5
            way(4, 4, NONE) = 0
            way({0..7}, 0, NONE) = -10 BAD
            """);
        told("14: none, whichever i", """
            fort down 0 1 0;one 1 0;one 1 4;
            way(1, 4, NONE) = NONE
            way(1, 4, 0) = NONE
            way(1, 4, MAX) = NONE
            way(3, 0, NONE) = NONE
            way(2, 0, 1) = NONE
            """);
        told("14: the greatest some, a long way, 10 times the PERSON and the PLACE", """
            fort down 0 1 0;down 1 2 0;down 2 3 0;down 3 4 0;one 1 0;one 1 0;one 1 0;
            way(7, 4, NONE) = 24
            way(7, 4, 0) = 5
            way(7, 4, 7) = 4
            way(7, 4, 8) = 15
            way(7, 4, 15) = 14
            way(7, 4, 16) = 25
            way(7, 4, 23) = 24
            way(7, 4, 24) = -5
            """);
        told("14: the first such row", """
            fort down 1 0 0;down 0 1 0;down 1 2 0;down 0 3 0;down 3 2 0;one 1 0;one 1 2;
            way(1, 2, NONE) = 4
            way(1, 2, 0) = 5
            way(1, 2, 1) = 1
            way(1, 2, 2) = 7
            way(1, 2, 3) = 2
            way(3, 0, NONE) = 4
            way(3, 0, 0) = 17
            way(3, 0, 1) = 11
            way(3, 0, 2) = 15
            way(3, 0, 3) = 10
            way(3, 1, NONE) = 4
            way(3, 1, 0) = 5
            way(3, 1, 1) = 1
            way(3, 1, 2) = 17
            way(3, 1, 3) = 11
            """);
        told("14: all may STEP, from how all is now", """
            fort down 0 1 0;bridge 0 2 0;chain 0 1 1;down 0 3 0;one 5 0;one 5 0;load 0 2;load 1 4;
            way(1, 2, NONE) = 3
            way(1, 2, 0) = 17
            way(1, 2, 1) = 6
            way(1, 2, 2) = 2
            step(1, 7) = 0b110
            way(1, 2, NONE) = 2
            way(1, 1, NONE) = NONE
            """);
    }

    // ---- promises 15 to 18

    /** Two CHAINS that one who steps on any of their BRIDGES tips, and a BRIDGE that stays. */
    private static final String NINE = "fort down 0 1 0;down 0 1 0;down 0 1 0;down 0 1 0;down 0 1 0;"
        + "chain 0 1 0;chain 3 2 0;one 1 0;\n";

    private static void reaches() {
        told("15: what is 0 .. 3", """
            reach({0..3}) = BAD
            fort down 0 1 0;one 1 0;
            reach({0..3}) = BAD
            """);
        told("15: nobody, this one alone", """
            fort down 0 1 0;bridge 0 1 0;down 0 1 0;chain 0 1 0;load 1 9;
            reach(0) = 1
            reach(1) = 1
            reach(2) = 0b101
            reach(3) = 0b010
            """);
        told("15: one who can go nowhere", """
            fort bridge 0 1 0;bridge 0 1 0;bridge 0 1 0;bridge 0 1 0;bridge 0 1 0;
            fort one 1 0;one 9 1;one 9 2;
            reach(0) = 1
            reach(1) = 1
            reach(2) = 0
            reach(3) = 31
            """);
        told("15: three who can go everywhere", """
            fort down 0 1 0;down 1 2 0;down 2 3 0;down 3 4 0;down 4 0 0;one 1 0;one 9 1;one 9 2;
            reach(0) = 1000
            reach(1) = 1
            reach(2) = 31
            reach(3) = 0
            """);
        told("15: as many LYINGS as can be", NINE + """
            reach(0) = 39
            reach(1) = 9
            reach(2) = 16
            reach(3) = 0
            step(0, 5) = 0b11101
            reach(0) = 14
            reach(1) = 3
            reach(2) = 0b10001
            reach(3) = 0b00010
            """);
        told("15: very many ways all can be", """
            fort down 3 1 0;down 2 4 1;down 0 2 0;down 2 1 0;down 3 0 1;
            fort chain 3 4 8;chain 0 2 7;one 7 0;one 5 3;one 7 1;
            reach(0) = 6374
            reach(1) = 9
            reach(2) = 2
            reach(3) = 0
            """);
        told("15: behind any STEPS, this one too", """
            fort down 0 1 0;bridge 2 3 0;chain 0 1 0;load 1 1;one 1 0;
            reach(0) = 4
            reach(1) = 2
            reach(2) = 0
            reach(3) = 0
            step(0, 5) = 1
            reach(0) = 3
            """);
    }

    private static void cans() {
        told("16: no BRIDGE", """
            can({0..0}) = BAD
            can(0) = 1
            can(32) = BAD
            """);
        told("16: one BRIDGE", """
            fort down 0 1 0;
            can({0..1}) = BAD
            can(0) = 0
            can(1) = 1
            """);
        told("16: all BRIDGES, the LYINGS that are and are not", NINE + """
            can({0..31}) = BAD
            can(0) = 0
            can(31) = 1
            can(0b11101) = 1
            can(0b11010) = 1
            can(0b10110) = 1
            can(0b10101) = 1
            can(0b11100) = 0
            can(0b01111) = 0
            can(0b10000) = 0
            """);
        told("16: all BRIDGES UP", """
            fort bridge 0 1 0;bridge 0 1 0;bridge 0 1 0;bridge 0 1 0;bridge 0 1 0;one 1 0;
            can(0) = 1
            can(1) = 0
            can(31) = 0
            """);
    }

    private static void closes() {
        told("17: a ROOM 0 .. 4", """
            closed({0..4}) = BAD
            fort down 0 4 0;
            closed({0..4}) = BAD
            closed(0) = 0
            closed(4) = 0
            """);
        told("17: a ROOM without BRIDGES", """
            closed(0) = 1
            closed(4) = 1
            fort down 0 1 0;
            closed(2) = 1
            closed(4) = 1
            """);
        told("17: all of them in one LYING, this one too", """
            fort down 0 1 0;down 0 2 0;chain 0 1 0;one 1 0;
            closed(0) = 0
            closed(1) = 1
            closed(2) = 1
            read() = 0
            fort bridge 3 4 0;
            closed(3) = 1
            closed(4) = 1
            """);
        told("17: some of them are not all", NINE + """
            closed(0) = 0
            closed(1) = 0
            """);
    }

    private static void children() {
        told("18: a PERSON who is there", """
            child({0..-1}) = BAD
            fort one 1 0;
            child({0..0}) = BAD
            child(0) = 0
            fort one 1 0;one 1 0;
            child({0..2}) = BAD
            child(2) = 0
            """);
        told("18: this LYING alone can be without him", NINE + """
            child(0) = 8
            one(1, 2) = 1
            child(0) = 8
            child(1) = 0
            one(1, 1) = 2
            child(0) = 0
            child(2) = 0
            """);
        told("18: by one's weight", """
            fort down 0 1 0;down 0 2 0;chain 0 1 4;one 4 0;one 5 0;one 1 0;
            child(0) = 0
            child(1) = 0
            child(2) = 0
            read() = 0
            fort down 0 1 0;down 0 2 0;chain 0 1 5;one 4 0;one 5 0;
            child(0) = 2
            child(1) = 2
            """);
        told("18: the others keep their POUNDS and their PLACES", """
            fort down 0 1 0;down 0 1 0;down 3 4 0;chain 0 1 4;one 1 3;one 2 3;one 5 0;
            child(0) = 0
            child(1) = 0
            child(2) = 2
            """);
        told("18: in no place: who stands on it weighs no more, and nothing tips as he goes", """
            fort down 0 1 0;bridge 0 2 0;down 0 3 0;chain 0 1 0;one 9 0;one 1 0;
            step(0, 5) = 0b101
            load(1, 5) = 0
            reach(1) = 2
            child(0) = 0
            child(1) = 0
            can(0b101) = 1
            """);
    }

    // ---- promises 19 to 23

    private static void cuts() {
        told("19: some, a ROOM 0 .. 4", """
            cut({0..0}, 0) = BAD
            cut(0, {0..4}) = BAD
            fort down 0 1 0;down 0 1 0;chain 0 1 0;one 1 0;
            cut({0..1}, 1) = BAD
            cut(1, {0..4}) = BAD
            fort one 1 0;one 1 0;
            cut({0..7}, 1) = BAD
            cut(7, 4) = NONE
            """);
        told("19: no CHAIN", """
            fort down 0 1 0;bridge 1 2 0;one 1 0;
            cut(1, 2) = NONE
            cut(0, 2) = NONE
            """);
        told("19: where there is none, any is shorter", """
            fort down 0 1 0;down 1 2 0;chain 0 1 0;one 5 0;
            way(1, 2, NONE) = NONE
            cut(1, 2) = 0
            cut(1, 1) = NONE
            cut(1, 0) = NONE
            cut(1, 4) = NONE
            cut(0, 2) = NONE
            count(1) = 1
            """);
        told("19: one STEP shorter would do, as short does not", """
            fort down 0 1 0;down 1 2 0;down 0 3 0;down 3 2 0;chain 0 1 0;one 5 0;
            way(1, 2, NONE) = 4
            cut(1, 2) = NONE
            """);
        told("19: the CHAIN that stays keeps its RUST", """
            fort down 2 4 0;bridge 3 4 0;down 0 1 0;down 1 2 0;chain 0 1 0;chain 2 3 5;one 5 0;load 1 9;
            way(1, 2, NONE) = 4
            way(1, 4, NONE) = NONE
            cut(1, 4) = 0
            """);
        told("19: the greatest CHAIN, of like ones the least", """
            fort down 0 1 0;down 1 2 0;down 0 3 0;down 3 4 0;down 4 2 0;
            fort chain 2 3 0;chain 0 1 0;one 5 0;
            cut(1, 2) = 1
            cut(1, 4) = 0
            read() = 0
            fort down 0 1 0;down 1 2 0;down 0 3 0;down 3 2 0;chain 2 3 0;chain 0 1 0;one 5 0;
            way(1, 2, NONE) = NONE
            cut(1, 2) = 0
            """);
    }

    private static void ties() {
        told("20: some, a ROOM 0 .. 4", """
            tie({0..0}, 0) = BAD
            tie(0, {0..4}) = BAD
            fort down 0 1 0;down 0 1 0;one 1 0;
            tie({0..1}, 1) = BAD
            tie(1, {0..4}) = BAD
            fort one 1 0;one 1 0;
            tie({0..7}, 1) = BAD
            tie(7, 4) = NONE
            """);
        told("20: fewer than two BRIDGES", """
            fort one 1 0;
            tie(1, 1) = NONE
            fort bridge 0 1 0;
            tie(1, 1) = NONE
            """);
        told("20: the least pair, the first of like ones", """
            fort down 0 1 0;bridge 0 3 0;down 0 2 0;load 1 9;one 1 0;
            tie(1, 3) = 1
            tie(1, 1) = NONE
            tie(1, 0) = NONE
            tie(1, 4) = NONE
            tie(0, 3) = NONE
            count(1) = 0
            """);
        told("20: the greatest pair, RUST 0", """
            fort down 0 1 3;down 0 1 3;down 0 1 3;down 0 1 0;bridge 0 3 0;load 4 1;one 1 0;
            tie(1, 3) = 34
            load(4, 0) = 1
            tie(1, 3) = NONE
            """);
        told("20: neither tied", """
            fort down 0 1 0;down 0 1 0;down 0 2 0;bridge 0 3 0;bridge 0 4 0;load 3 9;one 1 0;
            tie(1, 3) = 3
            chain(0, 4, 9) = 0
            tie(1, 3) = 13
            chain(2, 3, 9) = 1
            tie(1, 3) = NONE
            count(1) = 2
            """);
        told("20: one STEP shorter", """
            fort down 0 1 3;down 1 2 3;bridge 0 2 0;down 3 4 0;one 1 0;one 1 3;load 2 5;
            way(1, 2, NONE) = 4
            tie(1, 2) = 23
            tie(3, 2) = NONE
            """);
        told("20: the shortest, not the first", """
            fort bridge 0 1 0;down 1 3 3;bridge 0 3 0;down 0 2 0;down 0 4 3;load 0 9;load 2 9;one 1 0;
            tie(1, 3) = 23
            tie(1, 1) = 3
            """);
        told("20: as short is not shorter", """
            fort down 0 3 0;bridge 0 3 0;load 1 9;one 1 0;
            way(1, 3, NONE) = 2
            tie(1, 3) = NONE
            """);
    }

    private static void stones() {
        told("21: some, a ROOM 0 .. 4, v 1 .. 9", """
            stone({0..0}, 0, 1) = BAD
            stone(0, {0..4}, 1) = BAD
            stone(0, 0, {1..9}) = BAD
            fort down 0 1 0;one 1 0;
            stone({0..1}, 1, 9) = BAD
            stone(1, {0..4}, 9) = BAD
            stone(1, 1, {1..9}) = BAD
            """);
        told("21: the greatest some", """
            fort one 1 0;one 1 0;one 1 0;
            stone({0..7}, 1, 1) = BAD
            stone(7, 1, 1) = NONE
            stone(7, 0, 9) = NONE
            stone(0, 0, 9) = NONE
            """);
        told("21: v 1, v 9", """
            fort down 0 1 0;bridge 0 3 0;down 0 2 0;chain 0 1 0;one 1 0;
            way(1, 3, NONE) = NONE
            stone(1, 3, 1) = 1
            stone(1, 3, 9) = 1
            stone(1, 4, 9) = NONE
            stone(1, 2, 9) = NONE
            stone(1, 0, 9) = NONE
            weight(1) = 0
            """);
        told("21: one pound too few by RUST", """
            fort down 0 1 0;bridge 0 3 0;down 0 2 0;chain 0 1 8;one 1 0;
            stone(1, 3, 8) = NONE
            stone(1, 3, 9) = 1
            """);
        told("21: the least BRIDGE, the greatest BRIDGE", """
            fort bridge 0 3 0;down 0 1 0;down 0 2 0;bridge 0 3 0;bridge 0 3 0;
            fort chain 0 1 0;chain 2 4 0;one 1 0;
            stone(1, 3, 5) = 0
            load(1, 20) = 0
            stone(1, 3, 5) = 4
            """);
        told("21: v pounds more than the greatest BALLAST", """
            fort down 0 1 0;bridge 0 3 0;down 0 2 0;chain 0 1 4;one 1 0;load 0 20;load 1 20;
            stone(1, 3, 4) = NONE
            stone(1, 3, 5) = 1
            weight(1) = 20
            """);
        told("21: one STEP shorter", """
            fort down 0 1 0;down 1 2 0;bridge 0 2 0;down 3 4 0;chain 2 3 0;one 1 0;one 1 3;
            way(1, 2, NONE) = 4
            stone(1, 2, 5) = 2
            load(2, 5) = 0
            way(1, 2, NONE) = 3
            stone(1, 2, 5) = NONE
            """);
        told("21: the shortest, not the first", """
            fort bridge 0 1 0;bridge 0 2 0;down 1 2 0;down 3 4 0;down 3 4 0;
            fort chain 0 3 0;chain 1 4 0;one 1 0;one 1 3;
            stone(1, 2, 3) = 1
            stone(1, 1, 3) = 0
            """);
    }

    private static void keeps() {
        told("22: a PERSON who is there, a ROOM 0 .. 4, v 1 .. 9", """
            keep({0..-1}, 0, 1) = BAD
            fort down 0 1 0;one 1 0;
            keep({0..0}, 1, 1) = BAD
            keep(0, {0..4}, 9) = BAD
            keep(0, 1, {1..9}) = BAD
            fort one 1 0;one 1 2;
            keep({0..2}, 1, 1) = BAD
            keep(2, 1, 1) = 0
            """);
        told("22: he is there; he has no WAY; no stone helps", """
            fort down 0 1 0;one 5 0;
            keep(0, 0, 9) = NONE
            keep(0, 4, 1) = 0
            keep(0, 1, 9) = NONE
            """);
        told("22: v 1, v 9", """
            fort down 0 1 0;bridge 2 3 0;chain 0 1 0;one 1 0;load 1 1;
            keep(0, 1, 1) = 2
            load(1, 0) = 1
            keep(0, 1, 1) = NONE
            keep(0, 1, 9) = 2
            weight(1) = 0
            """);
        told("22: one pound too few by RUST", """
            fort down 0 1 0;bridge 2 3 0;chain 0 1 3;one 5 0;
            keep(0, 1, 8) = NONE
            keep(0, 1, 9) = 2
            """);
        told("22: least of like ones", """
            fort down 0 1 0;bridge 3 4 0;down 1 2 0;bridge 3 4 0;chain 0 1 0;chain 2 3 0;one 5 0;
            keep(0, 2, 9) = 2
            keep(0, 1, 9) = 2
            """);
        told("22: the fewest, not the least", """
            fort down 0 1 0;down 0 1 0;bridge 2 3 0;bridge 2 3 0;bridge 2 3 0;
            fort chain 0 2 0;chain 1 3 0;one 5 0;
            keep(0, 1, 9) = 0b1100
            read() = 0
            fort down 0 1 0;down 0 1 0;down 1 2 0;bridge 3 4 0;bridge 3 4 0;
            fort chain 0 3 0;chain 2 4 0;one 5 0;
            keep(0, 2, 9) = 0b10000
            keep(0, 1, 9) = NONE
            """);
        told("22: one alone, the others not there", """
            fort down 0 1 0;bridge 2 3 0;down 0 4 0;chain 0 1 0;one 9 0;one 5 0;
            step(0, 5) = 0b101
            keep(1, 1, 9) = 2
            keep(1, 1, 5) = NONE
            keep(0, 1, 9) = NONE
            """);
        told("22: one alone, the next one and the last one not there", """
            fort down 0 1 0;bridge 2 3 0;down 0 4 0;chain 0 1 0;one 5 0;one 9 0;one 9 0;
            step(1, 5) = 0b101
            keep(0, 1, 9) = 2
            undo() = 0b101
            step(2, 5) = 0b101
            keep(0, 1, 9) = 2
            keep(1, 1, 9) = NONE
            """);
        told("22: two of one CHAIN, either alone lets him in", """
            fort bridge 0 1 2;bridge 0 1 0;down 0 4 0;chain 0 1 0;one 1 0;load 1 9;
            way(1, 1, NONE) = 4
            keep(0, 1, 9) = 3
            keep(0, 1, 8) = NONE
            """);
        told("22: v pounds more than the greatest BALLAST", """
            fort down 0 1 0;bridge 2 3 0;chain 0 1 0;one 1 0;load 0 20;load 1 20;
            keep(0, 1, 1) = NONE
            keep(0, 1, 2) = 2
            """);
    }

    private static void wets() {
        told("23: a PERSON who is there, n 0 .. 6", """
            wet({0..-1}, 0, 0, 0) = BAD
            fort down 0 1 0;one 1 0;
            wet({0..0}, 0, 0, 0) = BAD
            wet(0, {0..6}, 0, 0) = BAD
            fort one 1 0;one 1 4;
            wet({0..2}, 0, 0, 0) = BAD
            wet(2, 0, 4, 0) = 1
            """);
        told("23: a PLACE that is there, bits of BRIDGES", """
            fort one 1 0;
            wet(0, 0, {0..4}, 0) = BAD
            wet(0, 0, 0, {0..0}) = BAD
            wet(0, 0, 0, 0) = 1
            fort down 0 1 0;
            wet(0, 0, {0..5}, 0) = BAD
            wet(0, 0, 0, {0..1}) = BAD
            """);
        told("23: the greatest PLACE, all BRIDGES", """
            fort down 0 1 0;down 0 1 0;down 0 1 0;down 0 1 0;down 0 1 0;one 1 0;
            wet(0, 1, {0..9}, 16) = BAD
            wet(0, 1, 9, {0..31}) = BAD
            wet(0, 1, 9, 16) = 1
            wet(0, 6, 0, 0b10101) = 24
            wet(0, 6, 0, 31) = 0
            wet(0, 6, 9, 31) = 0
            """);
        told("23: no STEP", """
            fort down 0 1 0;one 1 0;
            wet(0, 0, 0, 0) = 1
            wet(0, 0, 1, 0) = 0
            wet(0, 0, 0, 1) = 0
            wet(0, 0, 5, 1) = 0
            step(0, 5) = 1
            wet(0, 0, 5, 1) = 1
            wet(0, 0, 5, 0) = 0
            wet(0, 0, 0, 1) = 0
            """);
        told("23: 1 STEP to 6, where he is now and then, too", """
            fort down 0 1 0;one 1 0;
            wet(0, 1, 5, 1) = 1
            wet(0, 1, 5, 0) = 0
            wet(0, 2, 0, 1) = 1
            wet(0, 2, 0, 0) = 0
            wet(0, 3, 5, 1) = 2
            wet(0, 4, 1, 1) = 2
            wet(0, 5, 5, 1) = 4
            wet(0, 6, 0, 1) = 4
            wet(0, 6, 5, 1) = 0
            step(0, 5) = 1
            wet(0, 1, 0, 1) = 1
            wet(0, 1, 0, 0) = 0
            wet(0, 6, 5, 1) = 8
            """);
        told("23: just told BRIDGES", """
            fort down 0 1 0;down 0 1 0;down 1 2 0;one 5 0;
            wet(0, 4, 0, 0b011) = 4
            wet(0, 4, 0, 0b001) = 2
            wet(0, 4, 0, 0b111) = 0
            wet(0, 4, 2, 0b101) = 1
            wet(0, 4, 2, 0b110) = 1
            wet(0, 4, 2, 0b111) = 0
            wet(0, 6, 2, 0b111) = 4
            """);
        told("23: one alone, the others not there; he tips as he goes", """
            fort down 0 1 0;down 1 2 0;chain 0 1 0;one 5 0;one 9 1;
            step(1, 6) = 2
            wet(0, 0, 0, 0) = 1
            wet(0, 1, 5, 1) = 0
            wet(1, 1, 2, 2) = 1
            undo() = 3
            wet(0, 2, 1, 1) = 1
            wet(0, 4, 2, 3) = 0
            wet(1, 2, 2, 2) = 1
            wet(1, 4, 0, 3) = 0
            """);
        told("23: the next one and the last one hold no BRIDGE for him", """
            fort down 0 1 0;bridge 2 3 0;chain 0 1 0;one 5 0;one 9 0;one 9 0;
            step(1, 5) = 1
            load(1, 9) = 0
            wet(0, 2, 1, 1) = 0
            load(1, 0) = 9
            undo() = 1
            step(2, 5) = 1
            load(1, 9) = 0
            wet(0, 2, 1, 1) = 0
            wet(0, 1, 5, 1) = 1
            """);
        told("23: who is on one that is UP waits", """
            fort down 0 1 0;bridge 0 1 0;chain 0 1 0;load 1 9;one 1 0;
            step(0, 5) = 2
            wet(0, 0, 5, 1) = 1
            wet(0, 1, 0, 1) = 0
            wet(0, 6, 5, 1) = 0
            """);
    }

    // ---- promises 24 to 28

    private static void imagesKept() {
        told("24: IMAGES 0, 1", """
            image({0..1}) = BAD
            from({0..1}) = BAD
            from(0) = NO
            from(1) = NO
            image(1) = 1
            from(0) = NO
            from(1) = 1
            image(0) = 1
            from(0) = 1
            from({0..1}) = BAD
            image({0..1}) = BAD
            """);
        told("24: they keep all, each its own", FULL_FORT + """
            image(0) = 1
            fort load 4 20;
            step(0, 5) = 31
            image(1) = 1
            read() = 0
            fort down 4 3 5;one 9 4;
            from(0) = 1
            count(0) = 5
            count(1) = 2
            count(2) = 3
            count(3) = 0
            weight(4) = 0
            where(0) = 0
            from(1) = 1
            count(0) = 5
            count(3) = 1
            weight(4) = 20
            where(0) = 5
            """);
        told("24: kept anew, and as often as one likes", """
            fort down 0 1 0;one 1 0;
            image(0) = 1
            step(0, 5) = 1
            image(0) = 1
            step(0, 1) = 1
            from(0) = 1
            where(0) = 5
            step(0, 0) = 1
            from(0) = 1
            from(0) = 1
            where(0) = 5
            undo() = 1
            where(0) = 0
            from(0) = 1
            where(0) = 5
            """);
        told("24: STEPS that may be undone they keep, 16 of them", "fort down 0 1 0;one 1 0;\n"
            + walk(16) + """
            image(0) = 1
            one(9, 4) = 1
            undo() = NO
            from(0) = 1
            count(3) = 16
            count(2) = 1
            """ + walkBack(16) + "undo() = NO\n");
        told("24: other STEPS leave those of an IMAGE", """
            fort down 0 1 0;down 0 2 0;one 1 0;
            step(0, 5) = 3
            step(0, 1) = 3
            image(1) = 1
            undo() = 3
            undo() = 3
            step(0, 6) = 3
            step(0, 2) = 3
            from(1) = 1
            where(0) = 1
            undo() = 3
            where(0) = 5
            undo() = 3
            where(0) = 0
            step(0, 6) = 3
            from(1) = 1
            undo() = 3
            where(0) = 5
            undo() = 3
            undo() = NO
            """);
        told("25: THE TEXT, STATUS and the IMAGES go on", """
            type(59, 3) = 3
            image(0) = 1
            clear() = 3
            type(59, 5) = 5
            undo() = NO
            image(1) = 1
            from(0) = 1
            count(4) = 5
            status(1) = 1
            one(1, 0) = 0
            image(1) = 1
            from(0) = 1
            from(1) = 1
            count(2) = 1
            """);
        told("25: an IMAGE stays behind a read", """
            fort down 0 1 0;one 1 0;
            image(0) = 1
            text |one 5 4;|
            read() = 1
            from(0) = 1
            count(0) = 1
            where(0) = 0
            """);
    }

    private static void statuses() {
        told("26: another what counts as BAD", """
            status({0..2}) = -1 BAD
            status(0) = 4
            status(1) = 0
            status(2) = 0
            """);
        told("26: what is told as another answer counts, what is no refusal does not", """
            way(1, 0, 0) = -10 BAD
            way(0, 0, 0) = -5
            cut(0, 0) = NONE
            tie(0, 0) = NONE
            stone(0, 0, 1) = NONE
            text |gate|
            read() = -10
            clear() = 4
            text |one 0 0;|
            read() = -1000
            clear() = 8
            text |one 1 1;one 1 1;one 1 1;one 1 1;|
            read() = -1003
            status(0) = 1
            status(1) = 0
            status(2) = 0
            """);
        String[] calls = {"weight(0)", "undo()", "from(0)", "status(3)", "way(1, 0, 0)", "bridge(0, 0, 0, true)"};
        int[] reasons = {0, 1, 1, 0, 0, 0};
        for (int i = 0; i < calls.length; i++) {
            MiserBridges x = new MiserBridges();
            for (int n = 0; n < MOST_CALLS - 3; n++) {
                ask(x, calls[i]);
            }
            for (int r = 0; r < 3; r++) {
                due("26: behind 509 times " + calls[i], "status(" + r + ")", ask(x, "status(" + r + ")"),
                    r == reasons[i] ? MOST_CALLS - 3 : 0);
            }
        }
        MiserBridges x = new MiserBridges();
        for (int n = 0; n < 3; n++) {
            ask(x, "one(1, 0)");
        }
        for (int n = 0; n < MOST_CALLS - 4; n++) {
            ask(x, "one(1, 0)");
        }
        due("26: behind a fourth, 508 times", "status(2)", ask(x, "status(2)"), MOST_CALLS - 4);
    }

    private static void counts() {
        told("27: what is 0 .. 4", """
            count({0..4}) = BAD
            fort down 0 1 0;
            count({0..4}) = BAD
            count(0) = 1
            """);
        told("27: as many as can be", FULL_FORT + "text |" + " ".repeat(200) + "|\n" + """
            step(0, 5) = 31
            step(0, 0) = 31
            """.repeat(8) + """
            count(0) = 5
            count(1) = 2
            count(2) = 3
            count(3) = 16
            count(4) = 200
            """);
    }

    private static void digests() {
        told("28: of nothing", "digest() = " + hash(0, 0, 0, 0, 0, 0) + "\n");
        told("28: of a BRIDGE", "bridge(4, 3, 5, false) = 0\ndigest() = "
            + hash(1, 0, 0, 0, 0, 4, 3, 5, 0, 0) + "\n");
        told("28: of a PERSON", "one(9, 4) = 0\ndigest() = " + hash(0, 0, 1, 0, 0, 0, 9, 4) + "\n");
        told("28: of THE TEXT how long it is", "type(LMIN, 8) = 8\ndigest() = "
            + hash(0, 0, 0, 0, 8, 0) + "\n");
        told("28: of as many as can be, as told", """
            fort down 4 0 0;down 3 4 1;down 2 3 2;bridge 1 2 4;down 0 1 5;chain 4 1 9;chain 3 0 0;
            fort one 9 4;one 1 0;one 5 2;load 2 20;load 4 7;
            step(0, 5) = 21
            step(2, 7) = 21
            type(0, 8) = 8
            digest() = %d
            """.formatted(hash(5, 2, 3, 2, 8, 4, 0, 0, 0, 3, 4, 1, 0, 2, 3, 2, 20, 1, 2, 4, 0,
            0, 1, 5, 7, 21, 4, 1, 9, 3, 0, 0, 9, 5, 1, 0, 5, 7)));
    }

    private static long hash(int... parts) {
        long h = 773;
        for (int part : parts) {
            h = 31 * h + part;
        }
        return h;
    }

    // ---- what README.md shows

    /** A line there is a call, two strokes and its answer: "fort.lying();  // 5: words". */
    private static final Pattern SHOWN = Pattern.compile("fort\\.(.*\\)); *// (-?\\w+): .*");

    private static void shown() throws IOException {
        String page = Files.readString(Path.of("README.md"));
        int from = page.indexOf("```java");
        StringBuilder script = new StringBuilder();
        int lines = 0;
        for (String line : page.substring(from, page.indexOf("```", from + 3)).split("\n")) {
            Matcher m = SHOWN.matcher(line);
            if (m.matches()) {
                script.append(m.group(1).replace("MiserBridges.", "")).append(" = ").append(m.group(2)).append("\n");
                lines++;
            } else {
                due("README.md", "a line that shows no answer: " + line, line.startsWith("fort.") ? 1 : 0, 0);
            }
        }
        due("README.md", "some lines that show an answer", Math.min(lines, 10), 10);
        told("README.md", script.toString());
    }

    public static void main(String[] args) throws IOException {
        for (Method m : MiserBridges.class.getDeclaredMethods()) {
            if (Modifier.isPublic(m.getModifiers())) {
                FACE.put(m.getName(), m);
            }
        }
        newObject();
        firstReason();
        bridges();
        chains();
        loads();
        people();
        weights();
        wheres();
        lyings();
        types();
        clears();
        itemsAndFaults();
        eachByte();
        eachWord();
        eachNumber();
        refusedItems();
        toldAnew();
        steps();
        tipping();
        kindsThatMay();
        undos();
        whatLeavesNone();
        ways();
        reaches();
        cans();
        closes();
        children();
        cuts();
        ties();
        stones();
        keeps();
        wets();
        imagesKept();
        statuses();
        counts();
        digests();
        shown();
        System.out.println(asked + " answers, " + wrong + " not as due");
        if (wrong != 0) {
            System.exit(1);
        }
    }
}
