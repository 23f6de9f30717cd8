import java.util.ArrayDeque;
import java.util.ArrayList;
import java.util.Arrays;
import java.util.HashMap;
import java.util.LinkedHashSet;
import java.util.List;
import java.util.Map;
import java.util.Random;
import java.util.Set;
import java.util.TreeSet;
import java.util.regex.Matcher;
import java.util.regex.Pattern;

/**
 * Mixed runs of calls on the class and on a model of the document that is written another way:
 * states are lists, ways come from the goal backwards, texts are cut by a pattern.
 */
public final class MiserBridgesAgainstModel {
    private static final int RUNS = 3000;
    private static final int CALLS = 60;

    /** What an image keeps. Of bridges: a, b, kind, ballast; of chains: a, b, rust. */
    private static final class Told {
        List<int[]> bridges = new ArrayList<>();
        List<int[]> chains = new ArrayList<>();
        List<Integer> pounds = new ArrayList<>();
        /** The LYING, then the PLACE of each; null: not there. */
        List<Integer> state = new ArrayList<>(List.of(0));
        List<List<Integer>> past = new ArrayList<>();

        Told copy() {
            Told t = new Told();
            bridges.forEach(b -> t.bridges.add(b.clone()));
            chains.forEach(c -> t.chains.add(c.clone()));
            t.pounds.addAll(pounds);
            t.state = new ArrayList<>(state);
            t.past.addAll(past);
            return t;
        }

        int load(int bridge, List<Integer> at) {
            int sum = bridges.get(bridge)[3];
            for (int p = 0; p < pounds.size(); p++) {
                if (Integer.valueOf(5 + bridge).equals(at.get(1 + p))) {
                    sum += pounds.get(p);
                }
            }
            switch (bridges.get(bridge)[2]) {
                case 1:
                case 4:
                    return sum >> 1;
                case 2:
                    return sum + sum;
                case 5:
                    return sum == 0 ? 0 : sum + sum + 1;
                default:
                    return sum;
            }
        }

        /** How all is behind a step, or null. */
        List<Integer> stepped(List<Integer> at, int person, int to) {
            Integer here = at.get(1 + person);
            if (here == null) {
                return null;
            }
            int b = (here >= 5 ? here : to) - 5;
            int room = here >= 5 ? to : here;
            if (b < 0 || b >= bridges.size() || room >= 5 || (at.get(0) & 1 << b) == 0) {
                return null;
            }
            if (bridges.get(b)[0] != room && bridges.get(b)[1] != room) {
                return null;
            }
            List<Integer> then = new ArrayList<>(at);
            then.set(1 + person, to);
            for (int[] c : chains) {
                int first = load(c[0], then);
                int second = load(c[1], then);
                if (Math.abs(first - second) > c[2]) {
                    then.set(0, tipped(then.get(0), first > second ? c[0] : c[1],
                        first > second ? c[1] : c[0]));
                }
            }
            return then;
        }

        private int tipped(int lying, int heavy, int light) {
            boolean stuckUp = (lying & 1 << heavy) == 0 && bridges.get(heavy)[2] == 4;
            boolean stuckDown = (lying & 1 << light) != 0 && bridges.get(light)[2] == 3;
            return stuckUp || stuckDown ? lying : lying & ~(1 << light) | 1 << heavy;
        }

        Map<List<Integer>, Map<Integer, List<Integer>>> graph() {
            Map<List<Integer>, Map<Integer, List<Integer>>> graph = new HashMap<>();
            ArrayDeque<List<Integer>> open = new ArrayDeque<>(List.of(state));
            while (!open.isEmpty()) {
                List<Integer> at = open.pop();
                if (graph.containsKey(at)) {
                    continue;
                }
                Map<Integer, List<Integer>> next = new HashMap<>();
                for (int p = 0; p < pounds.size(); p++) {
                    for (int to = 0; to < 10; to++) {
                        List<Integer> then = stepped(at, p, to);
                        if (then != null) {
                            next.put(10 * p + to, then);
                            open.push(then);
                        }
                    }
                }
                graph.put(at, next);
            }
            return graph;
        }

        /** The first of the shortest rows, or null: by how far each state is from the goal. */
        List<Integer> way(int some, int room) {
            Map<List<Integer>, Map<Integer, List<Integer>>> graph = graph();
            Map<List<Integer>, List<List<Integer>>> back = new HashMap<>();
            graph.forEach((at, next) -> next.values().forEach(
                then -> back.computeIfAbsent(then, k -> new ArrayList<>()).add(at)));
            Map<List<Integer>, Integer> far = new HashMap<>();
            ArrayDeque<List<Integer>> open = new ArrayDeque<>();
            for (List<Integer> at : graph.keySet()) {
                boolean all = true;
                for (int p = 0; p < pounds.size(); p++) {
                    all &= (some & 1 << p) == 0 || Integer.valueOf(room).equals(at.get(1 + p));
                }
                if (all) {
                    far.put(at, 0);
                    open.add(at);
                }
            }
            while (!open.isEmpty()) {
                List<Integer> at = open.remove();
                for (List<Integer> from : back.getOrDefault(at, List.of())) {
                    if (far.putIfAbsent(from, far.get(at) + 1) == null) {
                        open.add(from);
                    }
                }
            }
            return far.containsKey(state) ? rowDown(graph, far) : null;
        }

        private List<Integer> rowDown(Map<List<Integer>, Map<Integer, List<Integer>>> graph,
                Map<List<Integer>, Integer> far) {
            List<Integer> row = new ArrayList<>();
            List<Integer> at = state;
            while (far.get(at) > 0) {
                int left = far.get(at);
                Map<Integer, List<Integer>> next = graph.get(at);
                for (int step : new TreeSet<>(next.keySet())) {
                    if (far.getOrDefault(next.get(step), Integer.MAX_VALUE) == left - 1) {
                        row.add(step);
                        at = next.get(step);
                        break;
                    }
                }
            }
            return row;
        }

        Set<Integer> lyings() {
            Set<Integer> lyings = new TreeSet<>();
            graph().keySet().forEach(at -> lyings.add(at.get(0)));
            return lyings;
        }

        Told without(int person) {
            Told t = copy();
            t.state.set(1 + person, null);
            return t;
        }

        Told alone(int person) {
            Told t = copy();
            for (int p = 0; p < pounds.size(); p++) {
                if (p != person) {
                    t.state.set(1 + p, null);
                }
            }
            return t;
        }

        boolean tied(int bridge) {
            return chains.stream().anyMatch(c -> c[0] == bridge || c[1] == bridge);
        }

        int bridge(int a, int b, int kind, boolean down) {
            if (out(a, 0, 4) || out(b, 0, 4) || a == b || out(kind, 0, 5)) {
                return -2;
            }
            if (bridges.size() == 5) {
                return -4;
            }
            bridges.add(new int[] {a, b, kind, 0});
            int n = bridges.size() - 1;
            state.set(0, state.get(0) + (down ? 1 << n : 0));
            past.clear();
            return n;
        }

        int chain(int a, int b, int rust) {
            int most = bridges.size() - 1;
            if (out(a, 0, most) || out(b, 0, most) || a == b || out(rust, 0, 9)) {
                return -2;
            }
            if (tied(a) || tied(b)) {
                return -3;
            }
            if (chains.size() == 2) {
                return -4;
            }
            chains.add(new int[] {a, b, rust});
            past.clear();
            return chains.size() - 1;
        }

        int load(int bridge, int n) {
            if (out(bridge, 0, bridges.size() - 1) || out(n, 0, 20)) {
                return -2;
            }
            int was = bridges.get(bridge)[3];
            bridges.get(bridge)[3] = n;
            return was;
        }

        int one(int weight, int room) {
            if (out(weight, 1, 9) || out(room, 0, 4)) {
                return -2;
            }
            if (pounds.size() == 3) {
                return -4;
            }
            pounds.add(weight);
            state.add(room);
            past.clear();
            return pounds.size() - 1;
        }
    }

    private static boolean out(int v, int least, int most) {
        return v < least || v > most;
    }

    private static final class Model {
        Told now = new Told();
        final Told[] images = new Told[2];
        String text = "";
        final int[] refused = new int[3];

        long told(long answer) {
            if (answer <= -2 && answer >= -4) {
                refused[(int) (-2 - answer)]++;
            }
            return answer;
        }

        long call(String name, long[] v) {
            int[] a = new int[v.length];
            for (int i = 0; i < v.length; i++) {
                a[i] = (int) v[i];
            }
            switch (name) {
                case "bridge": return told(now.bridge(a[0], a[1], a[2], a[3] == 1));
                case "chain": return told(now.chain(a[0], a[1], a[2]));
                case "load": return told(now.load(a[0], a[1]));
                case "one": return told(now.one(a[0], a[1]));
                case "weight": return told(noBridge(a[0]) ? -2 : now.load(a[0], now.state));
                case "where": return told(noPerson(a[0]) ? -2 : now.state.get(1 + a[0]));
                case "lying": return now.state.get(0);
                case "type": return told(type(v[0], a[1]));
                case "clear": return clear();
                case "read": return read();
                case "step": return told(step(a[0], a[1]));
                case "undo": return told(undo());
                case "way": return way(a[0], a[1], a[2]);
                case "reach": return told(reach(a[0]));
                case "can": return told(noBits(a[0]) ? -2 : now.lyings().contains(a[0]) ? 1 : 0);
                case "closed": return told(closed(a[0]));
                case "child": return told(child(a[0]));
                case "cut": return told(cut(a[0], a[1]));
                case "tie": return told(tie(a[0], a[1]));
                case "stone": return told(stone(a[0], a[1], a[2]));
                case "keep": return told(keep(a[0], a[1], a[2]));
                case "wet": return told(wet(a[0], a[1], a[2], a[3]));
                case "image": return told(image(a[0]));
                case "from": return told(from(a[0]));
                case "status": return out(a[0], 0, 2) ? told(-2) + 1 : refused[a[0]];
                case "count": return told(out(a[0], 0, 4) ? -2 : counts().get(a[0]));
                default: return digest();
            }
        }

        boolean noBridge(int b) {
            return out(b, 0, now.bridges.size() - 1);
        }

        boolean noPerson(int p) {
            return out(p, 0, now.pounds.size() - 1);
        }

        boolean noBits(int bits) {
            return bits < 0 || bits >> now.bridges.size() != 0;
        }

        boolean noSome(int some, int room) {
            return some < 0 || some >> now.pounds.size() != 0 || out(room, 0, 4);
        }

        boolean noPlace(int place) {
            return out(place, 0, 4 + now.bridges.size());
        }

        long type(long v, int n) {
            if (out(n, 1, 8)) {
                return -2;
            }
            if (text.length() + n > 200) {
                return -4;
            }
            String added = "";
            for (int i = 0; i < n; i++) {
                added = (char) (v & 255) + added;
                v >>= 8;
            }
            text += added;
            return text.length();
        }

        long clear() {
            int was = text.length();
            text = "";
            return was;
        }

        long read() {
            List<String> tokens = new ArrayList<>();
            List<Integer> starts = new ArrayList<>();
            Matcher m = Pattern.compile("[a-z]+|[0-9]+|[^ ]").matcher(text);
            while (m.find()) {
                tokens.add(m.group());
                starts.add(m.start());
            }
            starts.add(text.length());
            List<List<String>> items = new ArrayList<>();
            int i = 0;
            while (i < tokens.size()) {
                String word = tokens.get(i);
                int numbers = List.of("bridge", "down", "chain").contains(word) ? 3
                    : List.of("one", "load").contains(word) ? 2 : -1;
                if (numbers < 0) {
                    return -10 - starts.get(i);
                }
                List<String> item = new ArrayList<>(List.of(word));
                for (i++; numbers > 0; numbers--, i++) {
                    if (i == tokens.size() || !tokens.get(i).matches("[0-9]{1,2}")) {
                        return -10 - starts.get(i);
                    }
                    item.add(tokens.get(i));
                }
                if (i == tokens.size() || !tokens.get(i).equals(";")) {
                    return -10 - starts.get(i);
                }
                i++;
                items.add(item);
            }
            return tell(items);
        }

        private long tell(List<List<String>> items) {
            Told anew = new Told();
            for (int k = 0; k < items.size(); k++) {
                List<String> item = items.get(k);
                int a = Integer.parseInt(item.get(1));
                int b = Integer.parseInt(item.get(2));
                int c = item.size() > 3 ? Integer.parseInt(item.get(3)) : 0;
                String word = item.get(0);
                int answer = word.equals("chain") ? anew.chain(a, b, c)
                    : word.equals("one") ? anew.one(a, b)
                    : word.equals("load") ? anew.load(a, b)
                    : anew.bridge(a, b, c, word.equals("down"));
                if (answer < 0) {
                    return -1000 - k;
                }
            }
            now = anew;
            return items.size();
        }

        long step(int person, int place) {
            if (noPerson(person) || noPlace(place)) {
                return -2;
            }
            List<Integer> then = now.stepped(now.state, person, place);
            if (then == null) {
                return -3;
            }
            now.past.add(List.copyOf(now.state));
            if (now.past.size() > 16) {
                now.past.remove(0);
            }
            now.state = then;
            return then.get(0);
        }

        long undo() {
            if (now.past.isEmpty()) {
                return -3;
            }
            now.state = new ArrayList<>(now.past.remove(now.past.size() - 1));
            return now.state.get(0);
        }

        long way(int some, int room, int i) {
            if (noSome(some, room) || i < -1) {
                told(-2);
                return -10;
            }
            List<Integer> row = now.way(some, room);
            if (row == null) {
                return -1;
            }
            return i == -1 ? row.size() : i < row.size() ? row.get(i) : -5;
        }

        long reach(int what) {
            if (out(what, 0, 3)) {
                return -2;
            }
            if (what == 0) {
                return now.graph().size();
            }
            Set<Integer> lyings = now.lyings();
            if (what == 1) {
                return lyings.size();
            }
            int bits = 0;
            for (int b = 0; b < now.bridges.size(); b++) {
                int bit = 1 << b;
                if (lyings.stream().allMatch(l -> (l & bit) == (what == 2 ? bit : 0))) {
                    bits |= bit;
                }
            }
            return bits;
        }

        long closed(int room) {
            if (out(room, 0, 4)) {
                return -2;
            }
            for (int lying : now.lyings()) {
                boolean all = true;
                for (int b = 0; b < now.bridges.size(); b++) {
                    int[] bridge = now.bridges.get(b);
                    all &= bridge[0] != room && bridge[1] != room || (lying & 1 << b) == 0;
                }
                if (all) {
                    return 1;
                }
            }
            return 0;
        }

        long child(int person) {
            if (noPerson(person)) {
                return -2;
            }
            Set<Integer> lyings = new LinkedHashSet<>(now.lyings());
            lyings.removeAll(now.without(person).lyings());
            return lyings.size();
        }

        private static int steps(Told t, int some, int room) {
            List<Integer> row = t.way(some, room);
            return row == null ? Integer.MAX_VALUE : row.size();
        }

        /** The first of those whose way is least, if it is less than now. */
        private int best(List<Told> others, List<Integer> names, int some, int room) {
            int least = steps(now, some, room);
            int answer = -1;
            for (int i = 0; i < others.size(); i++) {
                int steps = steps(others.get(i), some, room);
                if (steps < least) {
                    least = steps;
                    answer = names.get(i);
                }
            }
            return answer;
        }

        long cut(int some, int room) {
            if (noSome(some, room)) {
                return -2;
            }
            List<Told> others = new ArrayList<>();
            for (int c = 0; c < now.chains.size(); c++) {
                Told t = now.copy();
                t.chains.remove(c);
                others.add(t);
            }
            return best(others, List.of(0, 1), some, room);
        }

        long tie(int some, int room) {
            if (noSome(some, room)) {
                return -2;
            }
            List<Told> others = new ArrayList<>();
            List<Integer> names = new ArrayList<>();
            for (int a = 0; a < now.bridges.size(); a++) {
                for (int b = a + 1; b < now.bridges.size(); b++) {
                    if (!now.tied(a) && !now.tied(b)) {
                        Told t = now.copy();
                        t.chains.add(new int[] {a, b, 0});
                        others.add(t);
                        names.add(10 * a + b);
                    }
                }
            }
            return best(others, names, some, room);
        }

        long stone(int some, int room, int v) {
            if (noSome(some, room) || out(v, 1, 9)) {
                return -2;
            }
            List<Told> others = new ArrayList<>();
            for (int b = 0; b < now.bridges.size(); b++) {
                Told t = now.copy();
                t.bridges.get(b)[3] += v;
                others.add(t);
            }
            return best(others, List.of(0, 1, 2, 3, 4), some, room);
        }

        long keep(int person, int room, int v) {
            if (noPerson(person) || out(room, 0, 4) || out(v, 1, 9)) {
                return -2;
            }
            int answer = -1;
            for (int bits = 0; bits < 1 << now.bridges.size(); bits++) {
                Told t = now.alone(person);
                for (int b = 0; b < now.bridges.size(); b++) {
                    t.bridges.get(b)[3] += (bits & 1 << b) == 0 ? 0 : v;
                }
                boolean fewer = answer < 0 || Integer.bitCount(bits) < Integer.bitCount(answer);
                if (fewer && t.way(1 << person, room) == null) {
                    answer = bits;
                }
            }
            return answer;
        }

        /** By rows of states with what is wet by then, one step after the other. */
        long wet(int person, int n, int place, int bridges) {
            if (noPerson(person) || out(n, 0, 6) || noPlace(place) || noBits(bridges)) {
                return -2;
            }
            Told t = now.alone(person);
            Map<List<Object>, Integer> rows = new HashMap<>();
            rows.put(List.of(t.state, bit(t.state.get(1 + person))), 1);
            for (int i = 0; i < n; i++) {
                Map<List<Object>, Integer> next = new HashMap<>();
                rows.forEach((at, many) -> {
                    for (int to = 0; to < 10; to++) {
                        @SuppressWarnings("unchecked")
                        List<Integer> state = (List<Integer>) at.get(0);
                        List<Integer> then = t.stepped(state, person, to);
                        if (then != null) {
                            next.merge(List.of(then, (int) at.get(1) | bit(to)), many, Integer::sum);
                        }
                    }
                });
                rows.clear();
                rows.putAll(next);
            }
            return rows.entrySet().stream()
                .filter(e -> (int) e.getKey().get(1) == bridges)
                .filter(e -> ((List<?>) e.getKey().get(0)).get(1 + person).equals(place))
                .mapToInt(Map.Entry::getValue).sum();
        }

        private static int bit(int place) {
            return place < 5 ? 0 : 1 << place - 5;
        }

        long image(int i) {
            if (out(i, 0, 1)) {
                return -2;
            }
            images[i] = now.copy();
            return 1;
        }

        long from(int i) {
            if (out(i, 0, 1)) {
                return -2;
            }
            if (images[i] == null) {
                return -3;
            }
            now = images[i].copy();
            return 1;
        }

        List<Integer> counts() {
            return List.of(now.bridges.size(), now.chains.size(), now.pounds.size(),
                now.past.size(), text.length());
        }

        long digest() {
            List<Integer> parts = new ArrayList<>(counts());
            now.bridges.forEach(b -> parts.addAll(List.of(b[0], b[1], b[2], b[3])));
            parts.add(now.state.get(0));
            now.chains.forEach(c -> parts.addAll(List.of(c[0], c[1], c[2])));
            for (int p = 0; p < now.pounds.size(); p++) {
                parts.addAll(List.of(now.pounds.get(p), now.state.get(1 + p)));
            }
            long h = 773;
            for (int part : parts) {
                h = 31 * h + part;
            }
            return h;
        }
    }

    private static long call(MiserBridges x, String name, long[] v) {
        int[] a = new int[v.length];
        for (int i = 0; i < v.length; i++) {
            a[i] = (int) v[i];
        }
        switch (name) {
            case "bridge": return x.bridge(a[0], a[1], a[2], a[3] == 1);
            case "chain": return x.chain(a[0], a[1], a[2]);
            case "load": return x.load(a[0], a[1]);
            case "one": return x.one(a[0], a[1]);
            case "weight": return x.weight(a[0]);
            case "where": return x.where(a[0]);
            case "lying": return x.lying();
            case "type": return x.type(v[0], a[1]);
            case "clear": return x.clear();
            case "read": return x.read();
            case "step": return x.step(a[0], a[1]);
            case "undo": return x.undo();
            case "way": return x.way(a[0], a[1], a[2]);
            case "reach": return x.reach(a[0]);
            case "can": return x.can(a[0]);
            case "closed": return x.closed(a[0]);
            case "child": return x.child(a[0]);
            case "cut": return x.cut(a[0], a[1]);
            case "tie": return x.tie(a[0], a[1]);
            case "stone": return x.stone(a[0], a[1], a[2]);
            case "keep": return x.keep(a[0], a[1], a[2]);
            case "wet": return x.wet(a[0], a[1], a[2], a[3]);
            case "image": return x.image(a[0]);
            case "from": return x.from(a[0]);
            case "status": return x.status(a[0]);
            case "count": return x.count(a[0]);
            default: return x.digest();
        }
    }

    /** A number from least to most; now and then one that is out of it. */
    private static int number(Random r, int least, int most) {
        int chance = r.nextInt(60);
        if (chance == 0) {
            int[] odd = {Integer.MIN_VALUE, -3, -2, -1, 0, 1, Integer.MAX_VALUE, 64, 32, 10};
            return odd[r.nextInt(odd.length)];
        }
        if (chance == 1) {
            return r.nextBoolean() ? least - 1 : most + 1;
        }
        return least + r.nextInt(Math.max(1, most - least + 1));
    }

    private static final String[] NAMES = {
        "step", "step", "step", "step", "step", "step", "step", "step", "step", "step", "step",
        "load", "load", "load", "undo", "undo", "weight", "where", "lying", "way", "way", "way",
        "reach", "reach", "can", "closed", "child", "cut", "tie", "stone", "keep", "wet", "wet",
        "image", "status", "count", "digest", "digest"
    };

    /** A fort of some size, whose chains can tip. */
    private static boolean tellAtFirst(int run, Random r, MiserBridges x, Model m) {
        boolean fine = true;
        int bridges = 2 + r.nextInt(4);
        int rooms = 3 + r.nextInt(3);
        for (int i = 0; i < bridges && fine; i++) {
            int a = r.nextInt(rooms);
            int b = (a + 1 + r.nextInt(rooms - 1)) % rooms;
            int kind = r.nextInt(3) == 0 ? r.nextInt(6) : r.nextInt(3);
            fine = alike(run, x, m, "bridge", a, b, kind, r.nextInt(3) == 0 ? 0 : 1);
        }
        for (int i = r.nextInt(4); i > 0 && fine; i--) {
            int a = r.nextInt(bridges);
            int b = (a + 1 + r.nextInt(bridges - 1)) % bridges;
            fine = alike(run, x, m, "chain", a, b, r.nextInt(4));
        }
        for (int i = r.nextInt(4); i > 0 && fine; i--) {
            fine = alike(run, x, m, "load", r.nextInt(bridges), r.nextInt(8));
        }
        for (int i = 1 + r.nextInt(3); i > 0 && fine; i--) {
            fine = alike(run, x, m, "one", 1 + r.nextInt(9), r.nextInt(rooms));
        }
        return fine;
    }

    private static String nextName(Random r) {
        if (r.nextInt(100) == 0) {
            return new String[] {"bridge", "chain", "one"}[r.nextInt(3)];
        }
        if (r.nextInt(80) == 0) {
            return "from";
        }
        return NAMES[r.nextInt(NAMES.length)];
    }

    /** Mostly a step that can be, where there is one. */
    private static long[] stepArguments(Random r, Model m) {
        int b = m.now.bridges.size();
        int p = m.now.pounds.size();
        for (int i = 0; i < 30; i++) {
            int person = r.nextInt(3);
            int place = r.nextInt(10);
            if (person < p && m.now.stepped(m.now.state, person, place) != null) {
                return new long[] {person, place};
            }
        }
        return new long[] {number(r, 0, p - 1), number(r, 0, 4 + b)};
    }

    /** Mostly what a walk of one alone leaves, so that the rows are some. */
    private static long[] wetArguments(Random r, Model m) {
        int b = m.now.bridges.size();
        int p = m.now.pounds.size();
        int n = number(r, 0, 6);
        if (p == 0 || r.nextInt(4) == 0) {
            return new long[] {number(r, 0, p - 1), n, number(r, 0, 4 + b), number(r, 0, (1 << b) - 1)};
        }
        int person = r.nextInt(p);
        Told t = m.now.alone(person);
        int wet = Model.bit(t.state.get(1 + person));
        int steps = 0;
        for (int i = 0; i < 200 && steps < n; i++) {
            int to = r.nextInt(10);
            List<Integer> then = t.stepped(t.state, person, to);
            if (then != null) {
                t.state = then;
                wet |= Model.bit(to);
                steps++;
            }
        }
        return new long[] {person, n, t.state.get(1 + person), wet};
    }

    private static long[] arguments(Random r, String name, Model m) {
        int b = m.now.bridges.size();
        int p = m.now.pounds.size();
        int bits = (1 << b) - 1;
        int some = r.nextBoolean() && p > 0 ? 1 << r.nextInt(p) : number(r, 0, (1 << p) - 1);
        switch (name) {
            case "bridge":
                return new long[] {number(r, 0, 4), number(r, 0, 4), number(r, 0, 5), r.nextInt(4) / 3 ^ 1};
            case "chain":
                return new long[] {number(r, 0, b - 1), number(r, 0, b - 1), r.nextInt(3) > 0 ? 0 : number(r, 0, 9)};
            case "load": return new long[] {number(r, 0, b - 1), number(r, 0, r.nextBoolean() ? 20 : 6)};
            case "one": return new long[] {number(r, 1, 9), number(r, 0, 4)};
            case "weight": return new long[] {number(r, 0, b - 1)};
            case "where":
            case "child": return new long[] {number(r, 0, p - 1)};
            case "step": return stepArguments(r, m);
            case "way": return new long[] {some, number(r, 0, 4), r.nextInt(3) == 0 ? -1 : number(r, -1, 9)};
            case "reach": return new long[] {number(r, 0, 3)};
            case "can":
                return new long[] {r.nextBoolean() ? m.now.state.get(0) ^ 1 << r.nextInt(5) : number(r, 0, bits)};
            case "closed": return new long[] {number(r, 0, 4)};
            case "cut":
            case "tie": return new long[] {some, number(r, 0, 4)};
            case "stone": return new long[] {some, number(r, 0, 4), number(r, 1, 9)};
            case "keep": return new long[] {number(r, 0, p - 1), number(r, 0, 4), number(r, 1, 9)};
            case "wet": return wetArguments(r, m);
            case "image":
            case "from": return new long[] {number(r, 0, 1)};
            case "status": return new long[] {number(r, 0, 2)};
            case "count": return new long[] {number(r, 0, 4)};
            default: return new long[0];
        }
    }

    private static String randomText(Random r) {
        StringBuilder s = new StringBuilder();
        int items = r.nextInt(9);
        String[] words = {"bridge", "down", "down", "down", "chain", "one", "load"};
        for (int i = 0; i < items; i++) {
            String word = words[i < 3 ? r.nextInt(3) : r.nextInt(words.length)];
            s.append(word);
            int numbers = word.equals("one") || word.equals("load") ? 2 : 3;
            for (int k = 0; k < numbers; k++) {
                s.append(r.nextInt(12) == 0 ? "  " : " ");
                s.append(r.nextInt(30) == 0 ? r.nextInt(130) : r.nextInt(word.equals("chain") ? 3 : 5));
            }
            s.append(r.nextInt(20) == 0 ? " ; " : ";");
        }
        String odd = " ;0a9bz-A\u00ff\t:/`{";
        while (r.nextInt(4) == 0) {
            int at = r.nextInt(s.length() + 1);
            if (r.nextBoolean() && at < s.length()) {
                s.deleteCharAt(at);
            } else {
                s.insert(at, odd.charAt(r.nextInt(odd.length())));
            }
        }
        return s.toString();
    }

    private static boolean alike(int run, MiserBridges x, Model m, String name, long... v) {
        long want = m.call(name, v);
        String told = "run " + run + ": " + name + Arrays.toString(v).replace('[', '(').replace(']', ')');
        try {
            long got = call(x, name, v);
            if (got != want) {
                System.out.println(told + " answered " + got + ", due is " + want);
            }
            return got == want;
        } catch (RuntimeException | Error e) {
            System.out.println(told + " threw " + e + ", due is " + want);
            return false;
        }
    }

    private static boolean typeAndRead(int run, Random r, MiserBridges x, Model m) {
        boolean fine = r.nextInt(8) == 0 || alike(run, x, m, "clear");
        String text = randomText(r);
        for (int at = 0; at < text.length() && fine; ) {
            int n = Math.min(1 + r.nextInt(8), text.length() - at);
            long v = r.nextInt();
            for (int i = 0; i < n; i++) {
                v = v << 8 | text.charAt(at + i);
            }
            at += n;
            fine = alike(run, x, m, "type", v, number(r, n, n));
        }
        return fine && alike(run, x, m, "read") && alike(run, x, m, "digest");
    }

    private static boolean runOf(int run, int calls) {
        Random r = new Random(run);
        MiserBridges x = new MiserBridges();
        Model m = new Model();
        boolean fine = tellAtFirst(run, r, x, m);
        for (int i = 0; i < calls && fine; i++) {
            if (r.nextInt(120) == 0) {
                fine = typeAndRead(run, r, x, m);
            } else {
                String name = nextName(r);
                fine = alike(run, x, m, name, arguments(r, name, m));
            }
        }
        return fine && alike(run, x, m, "digest") && alike(run, x, m, "status", 0)
            && alike(run, x, m, "status", 1) && alike(run, x, m, "status", 2);
    }

    public static void main(String[] args) {
        int from = args.length > 0 ? Integer.parseInt(args[0]) : 0;
        int runs = args.length > 1 ? Integer.parseInt(args[1]) : RUNS;
        int wrong = 0;
        for (int run = from; run < from + runs; run++) {
            wrong += runOf(run, CALLS) ? 0 : 1;
        }
        System.out.println(runs + " runs against the model, " + wrong + " not as due");
        if (wrong != 0) {
            System.exit(1);
        }
    }
}
