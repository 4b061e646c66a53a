import java.util.ArrayList;
import java.util.HashMap;
import java.util.List;
import java.util.Map;
import java.util.TreeMap;

/** The document told a second time, as plainly as may be and without regard to cost: ModelTests holds the hall against it. */
final class Model {
    static final int BAD = -1, STATE = -2, FULL = -3, NONE = -4;
    static final int[][] DIRECTIONS = {{0, -1}, {1, -1}, {1, 0}, {1, 1}, {0, 1}, {-1, 1}, {-1, 0}, {-1, -1}};
    static final List<String> KINDS = List.of("plain", "turned", "moving", "raised", "listening");

    record Bench(int x, int y, int facing, int ear, int kind) { }

    record Want(int who, int whom, boolean joined) { }

    record Whisper(int hour, int one, int secret) { }

    record Step(int cell, int loud, int bounces) { }

    record Image(TreeMap<Integer, Integer> deaf, int warm, List<Integer> seats, List<Whisper> whispers) { }

    /** A text's FAULT, thrown as it is met. */
    static final class Fault extends RuntimeException {
        private static final long serialVersionUID = 1L;

        final int number;
        final int place;

        Fault(int faultNumber, int faultPlace) {
            super(null, null, false, false);
            number = faultNumber;
            place = faultPlace;
        }
    }

    String tape = "";
    int latestFault = 0;
    int latestTorn = 0;
    int wide = 9, high = 7, fade = 3, bounce = 5, warm = 0;
    List<Bench> benches = new ArrayList<>();
    List<Want> wants = new ArrayList<>();
    List<Whisper> whispers = new ArrayList<>();
    List<Integer> seats = new ArrayList<>();
    TreeMap<Integer, Integer> deaf = new TreeMap<>();
    Map<Integer, Image> images = new HashMap<>();
    Object[] sheets = new Object[4];

    // ---- the text

    int feed(long v) {
        if (tape.length() + 8 > 320) {
            return FULL;
        }
        for (int i = 7; i >= 0; i--) {
            tape += (char) (v >>> 8 * i & 255);
        }
        return tape.length();
    }

    int end(int n) {
        int had = tape.length();
        if (n < 0 || n > had) {
            return BAD;
        }
        tape = tape.substring(0, n);
        return had;
    }

    int text() {
        Model told = new Model();
        told.tape = tape;
        tape = "";
        try {
            int lines = told.parse();
            wide = told.wide;
            high = told.high;
            fade = told.fade;
            bounce = told.bounce;
            warm = told.warm;
            benches = told.benches;
            wants = told.wants;
            whispers = told.whispers;
            seats = told.seats;
            deaf = told.deaf;
            images.clear();
            latestFault = 0;
            return lines;
        } catch (Fault f) {
            latestFault = f.number;
            return -10 - f.place;
        }
    }

    private int at = 0;
    private int began = 0;

    private String token() {
        while (at < tape.length() && tape.charAt(at) == ' ') {
            at++;
        }
        began = at;
        String rest = tape.substring(at);
        if (rest.isEmpty()) {
            return "";
        }
        String found = rest.replaceFirst("(?s)^([a-z]+|[0-9]+|;).*$", "$1");
        if (!found.matches("[a-z]+|[0-9]{1,3}|;")) {
            throw new Fault(1, at);
        }
        at += found.length();
        return found;
    }

    private int number(int least, int most) {
        String t = token();
        if (!t.matches("[0-9]+")) {
            throw new Fault(2, began);
        }
        int v = Integer.parseInt(t);
        if (v < least || v > most) {
            throw new Fault(3, began);
        }
        return v;
    }

    private void sign(String t) {
        if (!t.equals(";")) {
            throw new Fault(2, began);
        }
    }

    private int parse() {
        int lines = 0;
        int people = -1;
        List<String> once = new ArrayList<>();
        for (String name = token(); !name.isEmpty(); name = token()) {
            lines++;
            if (List.of("hall", "fade", "bounce", "warm", "people").contains(name)) {
                if (once.contains(name)) {
                    throw new Fault(4, began);
                }
                once.add(name);
            }
            String behind = null;
            switch (name) {
                case "hall" -> {
                    wide = number(3, 9);
                    high = number(3, 9);
                }
                case "fade" -> fade = number(0, 20);
                case "bounce" -> bounce = number(0, 50);
                case "warm" -> warm = number(0, 9);
                case "people" -> people = number(0, 6);
                case "bench" -> {
                    limit(benches.size(), 8);
                    int[] n = {number(0, 8), number(0, 8), number(0, 7), number(1, 100)};
                    behind = token();
                    int kind = KINDS.indexOf(behind);
                    behind = kind < 0 ? behind : token();
                    benches.add(new Bench(n[0], n[1], n[2], n[3], Math.max(kind, 0)));
                }
                case "pillar", "curtain" -> {
                    int x = number(0, 8);
                    int c = 9 * number(0, 8) + x;
                    if (deaf.containsKey(c)) {
                        throw new Fault(4, began);
                    }
                    deaf.put(c, name.equals("pillar") ? 1 : 2);
                }
                case "join", "bar" -> {
                    limit(wants.size(), 8);
                    int p = number(0, 5);
                    int q = number(0, 5);
                    if (p == q) {
                        throw new Fault(4, began);
                    }
                    wants.add(new Want(p, q, name.equals("join")));
                }
                case "whisper" -> {
                    limit(whispers.size(), 12);
                    int least = whispers.isEmpty() ? 0 : whispers.get(whispers.size() - 1).hour;
                    whispers.add(new Whisper(number(least, 11), number(0, 5), number(0, 7)));
                }
                default -> throw new Fault(2, began);
            }
            sign(behind == null ? token() : behind);
        }
        int all = people < 0 ? Math.min(6, benches.size()) : people;
        boolean missing = all > benches.size();
        missing |= benches.stream().anyMatch(b -> b.x >= wide || b.y >= high);
        missing |= deaf.keySet().stream().anyMatch(c -> c % 9 >= wide || c / 9 >= high);
        missing |= wants.stream().anyMatch(w -> w.who >= all || w.whom >= all);
        missing |= whispers.stream().anyMatch(w -> w.one >= all);
        if (missing) {
            throw new Fault(6, tape.length());
        }
        if (benches.stream().anyMatch(b -> deaf.containsKey(9 * b.y + b.x))) {
            throw new Fault(7, tape.length());
        }
        for (int p = 0; p < all; p++) {
            seats.add(p);
        }
        return lines;
    }

    private void limit(int there, int most) {
        if (there >= most) {
            throw new Fault(5, began);
        }
    }

    int rule(int what) {
        return what < 0 || what > 4 ? BAD : new int[]{wide, high, fade, bounce, warm}[what];
    }

    private boolean noCell(int c) {
        return c < 0 || c > 80 || c % 9 >= wide || c / 9 >= high;
    }

    private static boolean noHour(int hour) {
        return hour < 0 || hour > 11;
    }

    private boolean noBench(int b) {
        return b < 0 || b >= benches.size();
    }

    private boolean noOne(int p) {
        return p < 0 || p >= seats.size();
    }

    private static boolean not(int v, int least, int most) {
        return v < least || v > most;
    }

    int cell(int c) {
        return noCell(c) ? BAD : deaf.getOrDefault(c, 0);
    }

    private int place(int b, int hour) {
        Bench n = benches.get(b);
        return 9 * n.y + (n.kind == 2 ? (n.x + hour) % wide : n.x);
    }

    private int facing(int b, int hour) {
        Bench n = benches.get(b);
        return n.kind == 1 || n.kind == 2 ? (n.facing + hour) % 8 : n.facing;
    }

    private int ear(int b) {
        Bench n = benches.get(b);
        return n.kind == 4 && n.ear > 1 ? n.ear / 2 : n.ear;
    }

    int bench(int b, int hour, int what) {
        if (noBench(b) || noHour(hour) || not(what, 0, 4)) {
            return BAD;
        }
        int who = seats.indexOf(b);
        return new int[]{place(b, hour), facing(b, hour), ear(b), benches.get(b).kind, who < 0 ? NONE : who}[what];
    }

    int want(int i, int what) {
        if (not(i, 0, wants.size() - 1) || not(what, 0, 2)) {
            return BAD;
        }
        Want w = wants.get(i);
        return new int[]{w.who, w.whom, w.joined ? 1 : 0}[what];
    }

    // ---- what is changed

    int hang(int c, int what) {
        if (noCell(c) || not(what, 0, 2)) {
            return BAD;
        }
        if (what > 0 && benches.stream().anyMatch(b -> 9 * b.y + b.x == c)) {
            return STATE;
        }
        int was = cell(c);
        put(c, what);
        return was;
    }

    private void put(int c, int what) {
        if (what == 0) {
            deaf.remove(c);
        } else {
            deaf.put(c, what);
        }
    }

    int warm(int v) {
        if (not(v, 0, 9)) {
            return BAD;
        }
        int was = warm;
        warm = v;
        return was;
    }

    int sit(int p, int b) {
        if (noOne(p) || noBench(b)) {
            return BAD;
        }
        int before = seats.get(p);
        int other = seats.indexOf(b);
        if (other >= 0) {
            seats.set(other, before);
        }
        seats.set(p, b);
        return before;
    }

    // ---- a whisper's way

    private List<Step> course(int start, int direction, boolean raised) {
        List<Step> course = new ArrayList<>();
        int x = start % 9;
        int y = start / 9;
        int[] d = DIRECTIONS[direction].clone();
        int bounces = 0;
        while (course.size() < 40) {
            int step = course.size() + 1;
            if (not(x + d[0], 0, wide - 1)) {
                d[0] = -d[0];
                bounces++;
            }
            if (not(y + d[1], 0, high - 1)) {
                d[1] = -d[1];
                bounces++;
            }
            x += d[0];
            y += d[1];
            if (warm >= 1 && step % warm == 0) {
                y = Math.min(y + 1, high - 1);
            }
            int there = deaf.getOrDefault(9 * y + x, 0);
            int loud = 100 - step * fade - bounces * bounce;
            if (loud <= 0 || there == 1 || there == 2 && !raised) {
                break;
            }
            course.add(new Step(9 * y + x, loud, bounces));
        }
        return course;
    }

    private List<Step> course(int b, int hour) {
        return course(place(b, hour), facing(b, hour), benches.get(b).kind == 3);
    }

    /** The STEP, from 1; 0. */
    private int late(List<Step> course, int c, int hour) {
        for (int i = 0; i < course.size(); i++) {
            if (course.get(i).cell == place(c, hour)) {
                return course.get(i).loud >= ear(c) ? i + 1 : 0;
            }
        }
        return 0;
    }

    private boolean benchHears(int b, int c, int hour) {
        return b != c && late(course(b, hour), c, hour) > 0;
    }

    int way(int b, int hour, int i) {
        if (noBench(b) || noHour(hour) || not(i, 0, 40)) {
            return BAD;
        }
        List<Step> course = course(b, hour);
        return i == 0 ? place(b, hour) : i > course.size() ? NONE : course.get(i - 1).cell;
    }

    int steps(int b, int hour) {
        return noBench(b) || noHour(hour) ? BAD : course(b, hour).size();
    }

    int hears(int b, int c, int hour, int what) {
        if (noBench(b) || noBench(c) || b == c || noHour(hour) || not(what, 0, 2)) {
            return BAD;
        }
        if (!benchHears(b, c, hour)) {
            return NONE;
        }
        int late = late(course(b, hour), c, hour);
        Step s = course(b, hour).get(late - 1);
        return new int[]{s.loud, late, s.bounces}[what];
    }

    int heard(int b, int hour) {
        if (noBench(b) || noHour(hour)) {
            return BAD;
        }
        int bits = 0;
        for (int c = 0; c < benches.size(); c++) {
            bits += benchHears(b, c, hour) ? 1 << c : 0;
        }
        return bits;
    }

    int answer(int b, int hour) {
        if (noBench(b) || noHour(hour)) {
            return BAD;
        }
        for (int c = 0; c < benches.size(); c++) {
            if (heard(b, hour) == 1 << c && heard(c, hour) == 1 << b) {
                return c;
            }
        }
        return NONE;
    }

    // ---- seats

    int can(int p, int q, int hour) {
        if (noOne(p) || noOne(q) || p == q || noHour(hour)) {
            return BAD;
        }
        return benchHears(seats.get(p), seats.get(q), hour) ? 1 : 0;
    }

    int broken(int hour) {
        if (noHour(hour)) {
            return BAD;
        }
        int bits = 0;
        for (int i = 0; i < wants.size(); i++) {
            Want w = wants.get(i);
            bits += (can(w.who, w.whom, hour) == 1) == w.joined ? 0 : 1 << i;
        }
        return bits;
    }

    private int howBroken(int hour) {
        return Integer.bitCount(broken(hour));
    }

    int seating(int hour, int what) {
        if (noHour(hour) || not(what, 0, 1) && not(what, 10, 9 + seats.size())) {
            return BAD;
        }
        boolean[][] hear = new boolean[8][8];
        for (int b = 0; b < benches.size(); b++) {
            for (int c = 0; c < benches.size(); c++) {
                hear[b][c] = benchHears(b, c, hour);
            }
        }
        int fewest = 99;
        int many = 0;
        List<Integer> first = null;
        // a SEATING is a number whose figures are the BENCHES, so they come in the order told
        int all = 1;
        for (int p = 0; p < seats.size(); p++) {
            all *= benches.size();
        }
        for (int s = 0; s < all; s++) {
            List<Integer> on = new ArrayList<>();
            int taken = 0;
            int rest = s;
            for (int p = 0; p < seats.size(); p++) {
                on.add(0, rest % benches.size());
                taken |= 1 << rest % benches.size();
                rest /= benches.size();
            }
            if (Integer.bitCount(taken) < seats.size()) {
                continue;
            }
            int broken = 0;
            for (Want w : wants) {
                broken += hear[on.get(w.who)][on.get(w.whom)] == w.joined ? 0 : 1;
            }
            if (broken < fewest) {
                fewest = broken;
                many = 0;
                first = on;
            }
            many += broken == fewest ? 1 : 0;
        }
        return what == 0 ? fewest : what == 1 ? many : first.get(what - 10);
    }

    private int change(int hour, int what, boolean hanging) {
        if (noHour(hour) || not(what, 0, 1)) {
            return BAD;
        }
        int[] found = {NONE, howBroken(hour)};
        for (int c = 0; c < 81; c++) {
            int was = cell(c);
            boolean sat = false;
            for (int b = 0; b < benches.size(); b++) {
                sat |= place(b, hour) == c;
            }
            if (was == BAD || (hanging ? was > 0 || sat : was == 0)) {
                continue;
            }
            put(c, hanging ? 2 : 0);
            if (howBroken(hour) < found[1]) {
                found = new int[]{c, howBroken(hour)};
            }
            put(c, was);
        }
        return found[0] == NONE ? NONE : found[what];
    }

    int curtain(int hour, int what) {
        return change(hour, what, true);
    }

    int clear(int hour, int what) {
        return change(hour, what, false);
    }

    int hours() {
        int bits = 0;
        for (int hour = 0; hour < 12; hour++) {
            bits += broken(hour) == 0 ? 1 << hour : 0;
        }
        return bits;
    }

    // ---- warm days

    int days(int hour, int v, int what) {
        if (noHour(hour) || not(v, 0, 9) || not(what, 0, 2)) {
            return BAD;
        }
        int now = 0;
        int both = 0;
        int others = 0;
        int was = warm;
        for (int b = 0; b < benches.size(); b++) {
            for (int c = 0; c < benches.size(); c++) {
                boolean hears = benchHears(b, c, hour);
                warm = v;
                boolean then = benchHears(b, c, hour);
                warm = was;
                now += hears ? 1 : 0;
                both += hears && then ? 1 : 0;
                others += then && !hears ? 1 : 0;
            }
        }
        return new int[]{now, both, others}[what];
    }

    int best(int hour, int what) {
        if (noHour(hour) || not(what, 0, 1)) {
            return BAD;
        }
        int was = warm;
        int[] found = {0, 99};
        for (warm = 0; warm <= 9; warm++) {
            if (howBroken(hour) < found[1]) {
                found = new int[]{warm, howBroken(hour)};
            }
        }
        warm = was;
        return found[what];
    }

    // ---- secrets

    int say(int hour, int p, int secret) {
        if (noHour(hour) || noOne(p) || not(secret, 0, 7)
                || !whispers.isEmpty() && hour < whispers.get(whispers.size() - 1).hour) {
            return BAD;
        }
        if (whispers.size() == 12) {
            return FULL;
        }
        whispers.add(new Whisper(hour, p, secret));
        return whispers.size();
    }

    int unsay(int n) {
        int had = whispers.size();
        if (not(n, 0, had)) {
            return BAD;
        }
        whispers = new ArrayList<>(whispers.subList(0, n));
        return had;
    }

    /** Row n is by SECRET who KNOWS it behind n WHISPERS; CELL 8 is whether the n-th was whispered. */
    private int[][] story(List<Whisper> told) {
        int[][] story = new int[told.size() + 1][9];
        for (int n = 1; n <= told.size(); n++) {
            Whisper w = told.get(n - 1);
            System.arraycopy(story[n - 1], 0, story[n], 0, 8);
            int known = story[n][w.secret];
            if (known != 0 && (known >> w.one & 1) == 0) {
                continue;
            }
            story[n][8] = 1;
            story[n][w.secret] |= 1 << w.one;
            for (int q = 0; q < seats.size(); q++) {
                story[n][w.secret] |= q != w.one && can(w.one, q, w.hour) == 1 ? 1 << q : 0;
            }
        }
        return story;
    }

    int said(int i, int what) {
        if (not(i, 0, whispers.size() - 1) || not(what, 0, 3)) {
            return BAD;
        }
        Whisper w = whispers.get(i);
        return new int[]{w.hour, w.one, w.secret, story(whispers)[i + 1][8]}[what];
    }

    int knows(int p, int n) {
        if (noOne(p) || not(n, 0, whispers.size())) {
            return BAD;
        }
        int bits = 0;
        for (int s = 0; s < 8; s++) {
            bits += (story(whispers)[n][s] >> p & 1) << s;
        }
        return bits;
    }

    int since(int p, int secret) {
        if (noOne(p) || not(secret, 0, 7)) {
            return BAD;
        }
        for (int i = 0; i < whispers.size(); i++) {
            if ((knows(p, i + 1) >> secret & 1) == 1) {
                return i;
            }
        }
        return NONE;
    }

    int leak(int secret, int some, int what) {
        if (not(secret, 0, 7) || not(some, 0, (1 << seats.size()) - 1) || not(what, 0, 2)) {
            return BAD;
        }
        for (int i = 0; i < whispers.size(); i++) {
            int others = story(whispers)[i + 1][secret] & ~some;
            if (others != 0) {
                return new int[]{i, whispers.get(i).one, others}[what];
            }
        }
        return NONE;
    }

    int without(int i) {
        if (not(i, 0, whispers.size() - 1)) {
            return BAD;
        }
        List<Whisper> others = new ArrayList<>(whispers);
        int secret = others.remove(i).secret;
        int fewer = Integer.bitCount(story(whispers)[whispers.size()][secret])
                - Integer.bitCount(story(others)[others.size()][secret]);
        return fewer < 0 ? fewer - 100 : fewer;
    }

    int murmur(int seed, int n, int hour) {
        if (not(n, 1, 12) || noHour(hour)) {
            return BAD;
        }
        if (seats.isEmpty()) {
            return STATE;
        }
        whispers = new ArrayList<>();
        long drawn = seed & 0xffffffffL;
        for (int i = 0; i < n; i++) {
            drawn = (drawn * 1103515245L + 12345) & 0xffffffffL;
            int p = (int) (drawn / 65536 % 32768 % seats.size());
            drawn = (drawn * 1103515245L + 12345) & 0xffffffffL;
            whispers.add(new Whisper(hour, p, (int) (drawn / 65536 % 32768 % 8)));
        }
        int whispered = 0;
        for (int[] row : story(whispers)) {
            whispered += row[8];
        }
        return whispered;
    }

    // ---- where it was said

    int from(int some, int hour) {
        if (not(some, 0, (1 << benches.size()) - 1) || noHour(hour)) {
            return BAD;
        }
        int bits = 0;
        for (int b = 0; b < benches.size(); b++) {
            bits += heard(b, hour) == some ? 1 << b : 0;
        }
        return bits;
    }

    int where(int some, int hour, int what) {
        if (not(some, 1, (1 << benches.size()) - 1) || noHour(hour) || not(what, 0, 2)) {
            return BAD;
        }
        List<int[]> found = new ArrayList<>();
        for (int c = 0; c < 81; c++) {
            for (int d = 0; d < 8 && cell(c) == 0; d++) {
                List<Step> course = course(c, d, false);
                int bits = 0;
                for (int b = 0; b < benches.size(); b++) {
                    bits += late(course, b, hour) > 0 ? 1 << b : 0;
                }
                if (bits == some) {
                    found.add(new int[]{c, d});
                    break;
                }
            }
        }
        if (what == 0) {
            return found.size();
        }
        return found.isEmpty() ? NONE : found.get(0)[what - 1];
    }

    // ---- images, sheets

    int keep(int k) {
        if (not(k, 0, 1)) {
            return BAD;
        }
        Image now = new Image(new TreeMap<>(deaf), warm, new ArrayList<>(seats), new ArrayList<>(whispers));
        return images.put(k, now) == null ? 0 : 1;
    }

    int back(int k) {
        if (not(k, 0, 1)) {
            return BAD;
        }
        Image image = images.get(k);
        if (image == null) {
            return STATE;
        }
        deaf = new TreeMap<>(image.deaf);
        warm = image.warm;
        seats = new ArrayList<>(image.seats);
        whispers = new ArrayList<>(image.whispers);
        return whispers.size();
    }

    int sheet(int k, int lane, int n) {
        if (not(k, 0, 3) || not(lane, 0, 2) || n > 40) {
            return BAD;
        }
        if (n < 0) {
            return -14;
        }
        sheets[k] = lane == 0 ? new byte[n] : lane == 1 ? new short[n] : new int[n];
        return 1;
    }

    int lay(int k, int i, int v) {
        if (not(k, 0, 3)) {
            return BAD;
        }
        try {
            if (sheets[k] instanceof byte[] row) {
                row[i] = (byte) v;
            } else if (sheets[k] instanceof short[] row) {
                row[i] = (short) v;
            } else {
                ((int[]) sheets[k])[i] = v;
            }
            return 1;
        } catch (NullPointerException e) {
            return -11;
        } catch (ArrayIndexOutOfBoundsException e) {
            return -12;
        }
    }

    private int read(int k, int lane, int i) {
        return switch (lane) {
            case 0 -> ((byte[]) sheets[k])[i];
            case 1 -> ((short[]) sheets[k])[i];
            default -> ((int[]) sheets[k])[i];
        };
    }

    int read(int k, int lane, int f, int n) {
        if (not(k, 0, 3) || not(lane, 0, 2) || not(n, 0, 12)) {
            return BAD;
        }
        List<Whisper> before = new ArrayList<>(whispers);
        int found = 0;
        int came = 0;
        try {
            for (; came < n; came++) {
                int i = f + 3 * came;
                if (say(read(k, lane, i), read(k, lane, i + 1), read(k, lane, i + 2)) < 0) {
                    whispers = before;
                    return -20 - came;
                }
            }
        } catch (NullPointerException e) {
            found = 1;
        } catch (ArrayIndexOutOfBoundsException e) {
            found = 2;
        } catch (ClassCastException e) {
            found = 3;
        }
        latestTorn = found;
        return came;
    }

    int count(int what) {
        Object row = sheets[0];
        int cells = row == null ? NONE : java.lang.reflect.Array.getLength(row);
        return not(what, 0, 7) ? BAD : new int[]{benches.size(), seats.size(), deaf.size(), wants.size(), whispers.size(),
            images.size(), tape.length(), cells}[what];
    }
}
