import java.math.BigInteger;
import java.util.ArrayDeque;
import java.util.ArrayList;
import java.util.Deque;
import java.util.HashMap;
import java.util.HashSet;
import java.util.LinkedHashMap;
import java.util.List;
import java.util.Map;
import java.util.Set;
import java.util.TreeSet;
import java.util.function.Predicate;
import java.util.regex.Matcher;
import java.util.regex.Pattern;

/**
 * The document's box once more, told by other means than the class that is tested: lists and sets instead of bits,
 * whole rows instead of ways back, rounds over all states instead of queues, patterns instead of a reader, Java's own
 * arrays as sheets. Slow, and only as clever as the document's words.
 */
final class Model {
    record Panel(String kind, int deep) { }

    record Lock(int panel, int way, int other, Set<Integer> places) { }

    record Past(List<Integer> places, Set<Integer> filed, long draw) { }

    record Whole(List<Panel> panels, List<Lock> locks, int lid, List<Integer> places, Set<Integer> filed, long draw,
            List<Past> past) { }

    private static final List<String> KINDS = List.of("plain", "sprung", "ring", "latch", "bolt");
    private static final BigInteger LEFT_OVER_BY = BigInteger.valueOf(1000003);

    private List<Panel> panels = new ArrayList<>();
    private List<Lock> locks = new ArrayList<>();
    private int lid = 0;
    private List<Integer> places = new ArrayList<>();
    private Set<Integer> filed = new TreeSet<>();
    private long draw = 1;
    private List<Past> past = new ArrayList<>();
    private Whole image = null;
    private final StringBuilder tape = new StringBuilder();
    private final Object[] sheets = new Object[4];

    // ---- panels, locks

    int panel(int kind, int deep) {
        if (kind < 0 || kind > 4 || deep < 1 || deep > 3) return -1;
        if (panels.size() == 5) return -3;
        panels.add(new Panel(KINDS.get(kind), deep));
        places.add(0);
        past.clear();
        return panels.size() - 1;
    }

    int lock(int panel, int way, int other, int set) {
        if (!has(panels, panel) || !has(panels, other) || panel == other) return -1;
        if (way < 0 || way > 2 || set < 1 || set > 15) return -1;
        if (locks.size() == 6) return -3;
        locks.add(new Lock(panel, way, other, elements(set)));
        past.clear();
        return locks.size() - 1;
    }

    int lid(int panel) {
        if (!has(panels, panel)) return -1;
        int was = lid;
        lid = panel;
        return was;
    }

    int of(int panel, int what) {
        if (!has(panels, panel) || what < 0 || what > 4) return -1;
        return List.of(KINDS.indexOf(panels.get(panel).kind), panels.get(panel).deep, places.get(panel),
            may(places, filed, 10 * panel) ? 1 : 0, may(places, filed, 10 * panel + 1) ? 1 : 0).get(what);
    }

    int at(int lock, int what) {
        if (!has(locks, lock) || what < 0 || what > 5) return -1;
        Lock it = locks.get(lock);
        return List.of(it.panel, it.way, it.other, set(it.places), filed.contains(lock) ? 1 : 0,
            it.places.contains(places.get(it.other)) ? 1 : 0).get(what);
    }

    int type(int letter) {
        if (letter < 32 || letter > 126) return -1;
        if (tape.length() == 90) return -3;
        tape.append((char) letter);
        return tape.length();
    }

    int count(int what) {
        Set<Integer> out = new TreeSet<>();
        for (int p = 0; p < panels.size(); p++) if (places.get(p) != 0) out.add(p);
        switch (what) {
            case 0: return panels.size();
            case 1: return locks.size();
            case 2: return lid;
            case 3: return isOpen(places) ? 1 : 0;
            case 4: return set(out);
            case 5: return set(filed);
            case 6: return slides(places, filed).size();
            case 7: return number(places);
            case 8: return past.size();
            default: return -1;
        }
    }

    // ---- texts

    private static final String PANEL = "[psrlb][123]";

    int box() {
        StringBuilder text = new StringBuilder();
        List<Integer> spots = new ArrayList<>();
        for (int k = 0; k < tape.length(); k++) {
            if (tape.charAt(k) == ' ') continue;
            text.append(tape.charAt(k));
            spots.add(k);
        }
        spots.add(tape.length());
        tape.setLength(0);
        int semicolon = text.indexOf(";");
        String head = semicolon < 0 ? text.toString() : text.substring(0, semicolon);
        int fault = fault(panelsPattern(), head);
        if (fault >= 0) return -20 - spots.get(fault);
        String[] told = head.split(",");
        if (semicolon >= 0) {
            String tail = text.substring(semicolon + 1);
            fault = fault(locksPattern(told), tail);
            if (fault >= 0) return -20 - spots.get(semicolon + 1 + fault);
            take(told, tail.split(","));
        } else {
            take(told, new String[0]);
        }
        return panels.size();
    }

    private static String panelsPattern() {
        List<String> rows = new ArrayList<>();
        for (int n = 1; n <= 5; n++) {
            for (int lid = -1; lid < n; lid++) {
                List<String> row = new ArrayList<>();
                for (int p = 0; p < n; p++) row.add(p == lid ? PANEL + "!" : PANEL);
                rows.add(String.join(",", row));
            }
        }
        return String.join("|", rows);
    }

    private static String locksPattern(String[] told) {
        List<String> locks = new ArrayList<>();
        for (int panel = 0; panel < told.length; panel++) {
            for (int other = 0; other < told.length; other++) {
                if (panel == other) continue;
                List<String> sets = new ArrayList<>();
                for (int set = 1; set < 2 << told[other].charAt(1) - '0'; set++) {
                    StringBuilder digits = new StringBuilder();
                    for (int place : elements(set)) digits.append(place);
                    sets.add(digits.toString());
                }
                locks.add(panel + "[<>=]" + other + "(" + String.join("|", sets) + ")");
            }
        }
        // Of one panel a lock may begin, but there is no other panel to tell.
        if (locks.isEmpty()) return "0[<>=][^ -~]";
        String lock = "(" + String.join("|", locks) + ")";
        return lock + "(," + lock + "){0,5}";
    }

    /** The place of the first letter behind which nothing could make it a text of the pattern; -1: it is one. */
    private static int fault(String pattern, String text) {
        Pattern wanted = Pattern.compile(pattern);
        for (int k = 1; k <= text.length(); k++) {
            Matcher m = wanted.matcher(text.substring(0, k));
            if (!m.matches() && !m.hitEnd()) return k - 1;
        }
        return wanted.matcher(text).matches() ? -1 : text.length();
    }

    private void take(String[] toldPanels, String[] toldLocks) {
        panels.clear();
        locks.clear();
        places.clear();
        filed.clear();
        past.clear();
        lid = 0;
        for (String told : toldPanels) {
            if (told.endsWith("!")) lid = panels.size();
            panels.add(new Panel(KINDS.get("psrlb".indexOf(told.charAt(0))), told.charAt(1) - '0'));
            places.add(0);
        }
        for (String told : toldLocks) {
            Set<Integer> set = new TreeSet<>();
            for (char digit : told.substring(3).toCharArray()) set.add(digit - '0');
            locks.add(new Lock(told.charAt(0) - '0', "<>=".indexOf(told.charAt(1)), told.charAt(2) - '0', set));
        }
    }

    // ---- what is done

    int slide(int panel, int way) {
        if (!has(panels, panel) || way < 0 || way > 1) return -1;
        if (!may(places, filed, 10 * panel + way)) return -2;
        know();
        places = behind(places, 10 * panel + way);
        return number(places);
    }

    int shut() {
        int out = 0;
        for (int place : places) if (place != 0) out++;
        if (out == 0) return -2;
        know();
        places.replaceAll(place -> 0);
        return out;
    }

    int file(int lock) {
        if (!has(locks, lock)) return -1;
        if (filed.contains(lock)) return -2;
        know();
        filed.add(lock);
        return set(filed);
    }

    int drift(int n) {
        if (n < 1 || n > 40) return -1;
        for (int time = 0; time < n; time++) {
            know();
            draw = (draw * 1103515245L + 12345L) & ((1L << 31) - 1);
            if (panels.isEmpty()) continue;
            int slide = (int) (10 * (draw / 65536 % panels.size()) + draw / 128 % 2);
            if (may(places, filed, slide)) places = behind(places, slide);
        }
        return number(places);
    }

    int undo() {
        if (past.isEmpty()) return -4;
        Past it = past.remove(past.size() - 1);
        places = new ArrayList<>(it.places);
        filed = new TreeSet<>(it.filed);
        draw = it.draw;
        return past.size();
    }

    int seed(int v) {
        if (v < 0) return -1;
        long was = draw;
        draw = v;
        return (int) was;
    }

    private void know() {
        past.add(new Past(List.copyOf(places), Set.copyOf(filed), draw));
        if (past.size() > 8) past.remove(0);
    }

    // ---- what the words mean

    private static boolean has(List<?> list, int k) {
        return 0 <= k && k < list.size();
    }

    private static Set<Integer> elements(int set) {
        Set<Integer> elements = new TreeSet<>();
        for (int k = 0; k < 31; k++) if ((set & 1 << k) != 0) elements.add(k);
        return elements;
    }

    private static int set(Set<Integer> elements) {
        int set = 0;
        for (int k : elements) set += 1 << k;
        return set;
    }

    private static int number(List<Integer> at) {
        int number = 0;
        for (int p = at.size() - 1; p >= 0; p--) number = 4 * number + at.get(p);
        return number;
    }

    private boolean isOpen(List<Integer> at) {
        return !panels.isEmpty() && at.get(lid) == panels.get(lid).deep;
    }

    private boolean may(List<Integer> at, Set<Integer> isFiled, int slide) {
        int panel = slide / 10;
        int way = slide % 10;
        int place = at.get(panel) + (way == 1 ? 1 : -1);
        if (place < 0 || place > panels.get(panel).deep) return false;
        for (int k = 0; k < locks.size(); k++) {
            Lock lock = locks.get(k);
            boolean asked = lock.panel == panel && (lock.way == 2 || lock.way == way) && !isFiled.contains(k);
            if (asked && !lock.places.contains(at.get(lock.other))) return false;
        }
        switch (panels.get(panel).kind) {
            case "ring": return ringMay(at, panel);
            case "bolt": return way == 0 || ringMay(at, panel);
            default: return true;
        }
    }

    private static boolean ringMay(List<Integer> at, int panel) {
        if (panel == 0) return true;
        if (at.get(panel - 1) == 0) return false;
        for (int lesser = 0; lesser < panel - 1; lesser++) if (at.get(lesser) != 0) return false;
        return true;
    }

    private List<Integer> behind(List<Integer> at, int slide) {
        List<Integer> then = new ArrayList<>(at);
        for (int p = 0; p < panels.size(); p++) {
            boolean allOut = at.get(p) == panels.get(p).deep;
            String kind = panels.get(p).kind;
            if (p == slide / 10) then.set(p, at.get(p) + (slide % 10 == 1 ? 1 : -1));
            else if (kind.equals("sprung") || kind.equals("latch") && !allOut) then.set(p, Math.max(0, at.get(p) - 1));
        }
        return then;
    }

    private List<Integer> slides(List<Integer> at, Set<Integer> isFiled) {
        List<Integer> slides = new ArrayList<>();
        for (int p = 0; p < panels.size(); p++) {
            if (may(at, isFiled, 10 * p)) slides.add(10 * p);
            if (may(at, isFiled, 10 * p + 1)) slides.add(10 * p + 1);
        }
        return slides;
    }

    // ---- foretold

    private static boolean isAhead(List<Integer> row, List<Integer> other) {
        for (int k = 0; k < row.size(); k++) {
            if (!row.get(k).equals(other.get(k))) return row.get(k) < other.get(k);
        }
        return false;
    }

    /** Of the shortest rows to what is wanted the first, or null: for each number of slides the first row to each state. */
    private List<Integer> firstRow(Set<Integer> isFiled, Predicate<List<Integer>> wanted) {
        Map<List<Integer>, List<Integer>> level = new HashMap<>();
        Set<List<Integer>> seen = new HashSet<>();
        level.put(places, List.of());
        while (!level.isEmpty()) {
            List<Integer> best = null;
            for (var entry : level.entrySet()) {
                if (wanted.test(entry.getKey()) && (best == null || isAhead(entry.getValue(), best))) best = entry.getValue();
            }
            if (best != null) return best;
            seen.addAll(level.keySet());
            Map<List<Integer>, List<Integer>> next = new HashMap<>();
            for (var entry : level.entrySet()) {
                for (int slide : slides(entry.getKey(), isFiled)) {
                    List<Integer> then = behind(entry.getKey(), slide);
                    if (seen.contains(then)) continue;
                    List<Integer> row = new ArrayList<>(entry.getValue());
                    row.add(slide);
                    if (!next.containsKey(then) || isAhead(row, next.get(then))) next.put(then, row);
                }
            }
            level = next;
        }
        return null;
    }

    private static int told(List<Integer> row, int k) {
        if (row == null) return -4;
        if (k == -1) return row.size();
        return has(row, k) ? row.get(k) : -4;
    }

    int opens(int k) {
        if (k < -1) return -1;
        return panels.isEmpty() ? -4 : told(firstRow(filed, this::isOpen), k);
    }

    /** All rows of that many slides, wherever they lead. */
    int rows() {
        if (panels.isEmpty()) return 0;
        List<Integer> row = firstRow(filed, this::isOpen);
        if (row == null) return 0;
        Map<List<Integer>, BigInteger> ways = Map.of(places, BigInteger.ONE);
        for (int k = 0; k < row.size(); k++) {
            Map<List<Integer>, BigInteger> next = new HashMap<>();
            for (var entry : ways.entrySet()) {
                for (int slide : slides(entry.getKey(), filed)) {
                    next.merge(behind(entry.getKey(), slide), entry.getValue(), BigInteger::add);
                }
            }
            ways = next;
        }
        BigInteger all = BigInteger.ZERO;
        for (var entry : ways.entrySet()) if (isOpen(entry.getKey())) all = all.add(entry.getValue());
        return all.mod(LEFT_OVER_BY).intValue();
    }

    /** All states that can be come to, and how many slides each needs. */
    private Map<List<Integer>, Integer> reached() {
        Map<List<Integer>, Integer> far = new LinkedHashMap<>();
        Deque<List<Integer>> toDo = new ArrayDeque<>();
        far.put(places, 0);
        toDo.add(places);
        while (!toDo.isEmpty()) {
            List<Integer> at = toDo.remove();
            for (int slide : slides(at, filed)) {
                List<Integer> then = behind(at, slide);
                if (far.putIfAbsent(then, far.get(at) + 1) == null) toDo.add(then);
            }
        }
        return far;
    }

    private Map<List<Integer>, List<List<Integer>>> graph() {
        Map<List<Integer>, List<List<Integer>>> graph = new LinkedHashMap<>();
        for (List<Integer> at : reached().keySet()) {
            List<List<Integer>> next = new ArrayList<>();
            for (int slide : slides(at, filed)) next.add(behind(at, slide));
            graph.put(at, next);
        }
        return graph;
    }

    int reach(int what) {
        if (what < 0 || what > 2) return -1;
        if (panels.isEmpty()) return what == 1 ? 0 : 1;
        Map<List<Integer>, Integer> far = reached();
        if (what == 0) return far.size();
        if (what == 1) return far.values().stream().mapToInt(n -> n).max().getAsInt();
        Map<List<Integer>, List<List<Integer>>> graph = graph();
        Set<List<Integer>> alive = new HashSet<>();
        boolean grows = true;
        while (grows) {
            grows = false;
            for (var entry : graph.entrySet()) {
                boolean lives = isOpen(entry.getKey()) || entry.getValue().stream().anyMatch(alive::contains);
                if (lives && alive.add(entry.getKey())) grows = true;
            }
        }
        return far.size() - alive.size();
    }

    private Set<Integer> with(Set<Integer> more) {
        Set<Integer> all = new TreeSet<>(filed);
        all.addAll(more);
        return all;
    }

    int key(int what) {
        if (what < 0 || what > 1) return -1;
        int best = -4;
        int least = -4;
        for (int k = 0; k < locks.size(); k++) {
            if (filed.contains(k)) continue;
            List<Integer> row = firstRow(with(Set.of(k)), this::isOpen);
            if (row == null || best >= 0 && row.size() >= least) continue;
            best = k;
            least = row.size();
        }
        return what == 0 ? best : least;
    }

    int files(int n, int what) {
        if (n < 0 || n > 60 || what < 0 || what > 1) return -1;
        if (panels.isEmpty()) return -4;
        for (int many = 0; many <= locks.size(); many++) {
            for (int set = 0; set < 64; set++) {
                Set<Integer> more = elements(set);
                if (more.size() != many || set >= 1 << locks.size() || more.stream().anyMatch(filed::contains)) continue;
                List<Integer> row = firstRow(with(more), this::isOpen);
                if (row != null && row.size() <= n) return what == 0 ? many : set;
            }
        }
        return -4;
    }

    int game(int what) {
        if (what < 0 || what > 2) return -1;
        if (panels.isEmpty()) return -4;
        Map<List<Integer>, List<List<Integer>>> graph = graph();
        Map<List<Integer>, Integer> loses = new HashMap<>();
        Map<List<Integer>, Integer> wins = new HashMap<>();
        for (var entry : graph.entrySet()) {
            if (isOpen(entry.getKey()) || entry.getValue().isEmpty()) loses.put(entry.getKey(), 0);
        }
        for (int n = 1; n <= graph.size() + 1; n++) {
            List<List<Integer>> nowWins = new ArrayList<>();
            List<List<Integer>> nowLoses = new ArrayList<>();
            for (var entry : graph.entrySet()) {
                if (wins.containsKey(entry.getKey()) || loses.containsKey(entry.getKey())) continue;
                if (entry.getValue().stream().anyMatch(loses::containsKey)) nowWins.add(entry.getKey());
                else if (entry.getValue().stream().allMatch(wins::containsKey)) nowLoses.add(entry.getKey());
            }
            for (List<Integer> at : nowWins) wins.put(at, n);
            for (List<Integer> at : nowLoses) loses.put(at, n);
        }
        int who = wins.containsKey(places) ? 1 : loses.containsKey(places) ? 2 : 0;
        if (what == 0) return who;
        if (what == 1) return who == 1 ? wins.get(places) : who == 2 ? loses.get(places) : 0;
        return firstOfGame(who, wins, loses);
    }

    private int firstOfGame(int who, Map<List<Integer>, Integer> wins, Map<List<Integer>, Integer> loses) {
        if (isOpen(places)) return -4;
        int best = -4;
        int by = 0;
        for (int slide : slides(places, filed)) {
            List<Integer> then = behind(places, slide);
            if (who == 0 && !wins.containsKey(then) && !loses.containsKey(then)) return slide;
            if (who == 1 && loses.containsKey(then) && (best < 0 || loses.get(then) < by)) {
                best = slide;
                by = loses.get(then);
            }
            if (who == 2 && (best < 0 || wins.get(then) > by)) {
                best = slide;
                by = wins.get(then);
            }
        }
        return best;
    }

    long fumble(int n, int what) {
        if (n < 0 || n > 3 || what < 0 || what > 1) return -1;
        BigInteger[] chance = chance(places, n);
        return chance[what].divide(chance[0].gcd(chance[1])).longValue();
    }

    private BigInteger[] chance(List<Integer> at, int n) {
        if (isOpen(at)) return new BigInteger[] {BigInteger.ONE, BigInteger.ONE};
        BigInteger above = BigInteger.ZERO;
        BigInteger below = BigInteger.ONE;
        if (n == 0 || panels.isEmpty()) return new BigInteger[] {above, below};
        List<Integer> slides = slides(at, filed);
        for (int slide : slides) {
            BigInteger[] one = chance(behind(at, slide), n - 1);
            above = above.multiply(one[1]).add(one[0].multiply(below));
            below = below.multiply(one[1]);
        }
        if (slides.isEmpty()) return new BigInteger[] {above, below};
        return new BigInteger[] {above, below.multiply(BigInteger.valueOf(slides.size()))};
    }

    int image() {
        image = new Whole(List.copyOf(panels), List.copyOf(locks), lid, List.copyOf(places), Set.copyOf(filed), draw,
            List.copyOf(past));
        return 1;
    }

    int restore() {
        if (image == null) return -4;
        panels = new ArrayList<>(image.panels);
        locks = new ArrayList<>(image.locks);
        lid = image.lid;
        places = new ArrayList<>(image.places);
        filed = new TreeSet<>(image.filed);
        draw = image.draw;
        past = new ArrayList<>(image.past);
        return 1;
    }

    // ---- sheets, as Java's own arrays

    private static boolean bad(int sheet, int lane) {
        return sheet < 0 || sheet > 3 || lane < 0 || lane > 3;
    }

    private static int lane(Object row) {
        return row instanceof byte[] ? 0 : row instanceof short[] ? 1 : row instanceof int[] ? 2 : 3;
    }

    private int machine(int sheet, int lane, int i, int n) {
        if (sheets[sheet] == null) return -11;
        if (lane(sheets[sheet]) != lane) return -12;
        return copyFault(sheets[sheet], i, sheets[sheet], i, n);
    }

    /** The machine itself tells whether such a copy can be. */
    private static int copyFault(Object from, int i, Object to, int j, int n) {
        Object spare = java.lang.reflect.Array.newInstance(to.getClass().getComponentType(), java.lang.reflect.Array.getLength(to));
        try {
            System.arraycopy(from, i, spare, j, n);
            return 0;
        } catch (IndexOutOfBoundsException e) {
            return -13;
        }
    }

    private long look(int sheet, int i) {
        return java.lang.reflect.Array.getLong(sheets[sheet], i);
    }

    private void put(int sheet, int i, long v) {
        Object row = sheets[sheet];
        if (row instanceof byte[] bytes) bytes[i] = (byte) v;
        if (row instanceof short[] shorts) shorts[i] = (short) v;
        if (row instanceof int[] ints) ints[i] = (int) v;
        if (row instanceof long[] longs) longs[i] = v;
    }

    int to(int sheet, int lane, int i, int k) {
        if (bad(sheet, lane) || k < -1 || panels.isEmpty()) return -1;
        int machine = machine(sheet, lane, i, panels.size());
        if (machine < 0) return machine;
        List<Integer> goal = new ArrayList<>();
        for (int p = 0; p < panels.size(); p++) {
            long place = look(sheet, i + p);
            if (place < 0 || place > panels.get(p).deep) return -2;
            goal.add((int) place);
        }
        return told(firstRow(filed, goal::equals), k);
    }

    int clicks(int panel, int sheet, int lane, int i, int n) {
        if (bad(sheet, lane) || panel != -4 && !has(panels, panel) || n < 1 || n > 8) return -1;
        int machine = machine(sheet, lane, i, 2 * n);
        if (machine < 0) return machine;
        Set<Long> known = new HashSet<>();
        for (long p = 0; p < panels.size(); p++) known.addAll(List.of(10 * p, 10 * p + 1));
        List<Integer> tried = new ArrayList<>();
        List<Boolean> done = new ArrayList<>();
        for (int k = 0; k < n; k++) {
            long slide = look(sheet, i + 2 * k);
            long was = look(sheet, i + 2 * k + 1);
            if (!known.contains(slide) || was != 0 && was != 1) return -2;
            tried.add((int) slide);
            done.add(was == 1);
        }
        Set<Integer> so = new TreeSet<>();
        if (panel == -4) {
            for (int k = 0; k < locks.size(); k++) {
                Set<Integer> otherwise = new TreeSet<>(filed);
                if (!otherwise.remove(k)) otherwise.add(k);
                if (clicks(otherwise, tried, done)) so.add(k);
            }
            if (clicks(filed, tried, done)) so.add(6);
            return set(so);
        }
        Panel is = panels.get(panel);
        for (int kind = 0; kind < 5; kind++) {
            panels.set(panel, new Panel(KINDS.get(kind), is.deep));
            if (clicks(filed, tried, done)) so.add(kind);
        }
        panels.set(panel, is);
        return set(so);
    }

    private boolean clicks(Set<Integer> isFiled, List<Integer> tried, List<Boolean> done) {
        List<Integer> at = places;
        for (int k = 0; k < tried.size(); k++) {
            boolean can = slides(at, isFiled).contains(tried.get(k));
            if (can != done.get(k)) return false;
            if (can) at = behind(at, tried.get(k));
        }
        return true;
    }

    int film(int sheet, int lane, int i) {
        if (bad(sheet, lane) || panels.isEmpty()) return -1;
        int machine = machine(sheet, lane, i, panels.size());
        if (machine < 0) return machine;
        for (int p = 0; p < panels.size(); p++) put(sheet, i + p, places.get(p));
        return panels.size();
    }

    int sheet(int sheet, int lane, int n) {
        if (bad(sheet, lane) || n > 24) return -1;
        try {
            sheets[sheet] = lane == 0 ? new byte[n] : lane == 1 ? new short[n] : lane == 2 ? (Object) new int[n] : new long[n];
            return n;
        } catch (NegativeArraySizeException e) {
            return -14;
        }
    }

    int drop(int sheet) {
        if (bad(sheet, 0)) return -1;
        if (sheets[sheet] == null) return -11;
        int had = java.lang.reflect.Array.getLength(sheets[sheet]);
        sheets[sheet] = null;
        return had;
    }

    int item(int sheet, int lane, int i, long v) {
        if (bad(sheet, lane)) return -1;
        int machine = machine(sheet, lane, i, 1);
        if (machine < 0) return machine;
        put(sheet, i, v);
        return 1;
    }

    int copy(int from, int i, int to, int j, int n) {
        if (bad(from, 0) || bad(to, 0)) return -1;
        if (sheets[from] == null || sheets[to] == null) return -11;
        if (lane(sheets[from]) != lane(sheets[to])) return -12;
        int machine = copyFault(sheets[from], i, sheets[to], j, n);
        if (machine < 0) return machine;
        System.arraycopy(sheets[from], i, sheets[to], j, n);
        return n;
    }
}
