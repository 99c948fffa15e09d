import java.util.ArrayList;
import java.util.Arrays;
import java.util.HashMap;
import java.util.HashSet;
import java.util.List;
import java.util.Map;
import java.util.Set;
import java.util.TreeSet;
import java.util.regex.Matcher;
import java.util.regex.Pattern;

/**
 * The document told a second time, with the Java library and without any thrift: every question plays whole
 * stories of all THINGS from the first EVENT on. ModelTest holds ThreeVoices against it.
 */
final class Model {
    private static final int BAD = -1, STATE = -2, FULL = -3, NONE = -9, NO = -1000000;
    private static final List<String> SORTS = List.of("talk", "maybe", "think", "say", "move");
    private static final int STRANGER = 99;

    record Event(int sort, int day, int a, int b) {
    }

    record Voice(int who, int day, Set<Integer> origins) {
    }

    record Image(List<Event> events, int today) {
    }

    private StringBuilder text = new StringBuilder();
    private List<Integer> homes = new ArrayList<>();
    private List<Event> events = new ArrayList<>();
    private int today = 0;
    private final Map<Integer, Image> images = new HashMap<>();
    private long trace = 0;

    /** One story of all THINGS; "change" is made ahead of all EVENTS of a DAY and later ones. */
    private final class Told {
        final List<Map<Integer, Set<Integer>>> has = new ArrayList<>();
        final List<List<Voice>> voices = new ArrayList<>();
        final List<Integer> at = new ArrayList<>(homes);
        int still = -1;

        Told(Set<Integer> maybes, int day, Change change) {
            for (int t = 0; t < 4; t++) {
                has.add(new HashMap<>());
                voices.add(new ArrayList<>());
            }
            boolean changed = false;
            int maybe = 0;
            for (Event e : events) {
                if (!changed && e.day() >= day) {
                    change.make(this);
                    changed = true;
                }
                if (e.sort() == 1) {
                    if (maybes.contains(maybe)) {
                        talk(e.a(), e.b());
                    }
                    maybe++;
                } else {
                    happen(e);
                }
            }
            if (!changed) {
                change.make(this);
            }
        }

        void happen(Event e) {
            if (e.sort() == 0) {
                talk(e.a(), e.b());
            } else if (e.sort() == 2) {
                think(e.a(), e.b());
            } else if (e.sort() == 3) {
                think(e.a(), e.b());
                write(e.a(), e.b(), e.day());
                for (int q = 0; q < homes.size(); q++) {
                    if (q != e.a() && at.get(q).equals(at.get(e.a()))) {
                        come(q, e.b(), of(e.a(), e.b()));
                    }
                }
            } else if (e.a() != still) {
                at.set(e.a(), e.b());
            }
        }

        Set<Integer> of(int p, int t) {
            return new TreeSet<>(has.get(t).getOrDefault(p, Set.of()));
        }

        void come(int p, int t, Set<Integer> more) {
            if (!more.isEmpty()) {
                has.get(t).computeIfAbsent(p, k -> new TreeSet<>()).addAll(more);
            }
        }

        void talk(int a, int b) {
            for (int t = 0; t < 4; t++) {
                come(b, t, of(a, t));
            }
        }

        void think(int p, int t) {
            if (of(p, t).isEmpty()) {
                come(p, t, Set.of(p));
            }
        }

        void write(int p, int t, int day) {
            for (Voice v : voices.get(t)) {
                if (v.who() == p) {
                    return;
                }
            }
            voices.get(t).add(new Voice(p, day, of(p, t)));
        }

        void hint(int p, int t) {
            think(p, t);
            write(p, t, -1);
        }

        void stranger(int p, int t) {
            come(p, t, Set.of(STRANGER));
        }

        /** DAY and bits of THE THREE; null. */
        int[] law(int t) {
            List<Voice> come = voices.get(t);
            for (int n = 1; n <= come.size(); n++) {
                List<List<Integer>> threes = new ArrayList<>();
                List<Voice> first = come.subList(0, n);
                for (Voice v : first) {
                    for (Voice w : first) {
                        for (Voice x : first) {
                            if (v.who() < w.who() && w.who() < x.who() && apart(v, w) && apart(w, x) && apart(v, x)) {
                                threes.add(List.of(v.who(), w.who(), x.who()));
                            }
                        }
                    }
                }
                if (!threes.isEmpty()) {
                    threes.sort((l, m) -> {
                        for (int i = 0; i < 3; i++) {
                            if (!l.get(i).equals(m.get(i))) {
                                return l.get(i) - m.get(i);
                            }
                        }
                        return 0;
                    });
                    return new int[] {come.get(n - 1).day(), bits(threes.get(0))};
                }
            }
            return null;
        }

        private boolean apart(Voice v, Voice w) {
            Set<Integer> common = new HashSet<>(v.origins());
            common.retainAll(w.origins());
            return common.isEmpty();
        }
    }

    interface Change {
        void make(Told told);
    }

    private static int bits(Iterable<Integer> numbers) {
        int bits = 0;
        for (int n : numbers) {
            bits += 1 << n;
        }
        return bits;
    }

    private static Set<Integer> numbers(int bits) {
        Set<Integer> numbers = new TreeSet<>();
        for (int i = 0; i < 32; i++) {
            if ((bits >>> i & 1) == 1) {
                numbers.add(i);
            }
        }
        return numbers;
    }

    private Told story(Set<Integer> maybes) {
        return new Told(maybes, 1000, told -> { });
    }

    private Told changed(int day, Change change) {
        return new Told(Set.of(), day, change);
    }

    private int maybes() {
        return (int) events.stream().filter(e -> e.sort() == 1).count();
    }

    private boolean one(int p) {
        return p >= 0 && p < homes.size();
    }

    private static boolean in(int n, int most) {
        return n >= 0 && n <= most;
    }

    int type(long v, int n) {
        if (n < 1 || n > 8) {
            return BAD;
        }
        if (text.length() + n > 400) {
            return FULL;
        }
        byte[] all = java.nio.ByteBuffer.allocate(8).putLong(v).array();
        for (int i = 8 - n; i < 8; i++) {
            text.append((char) (all[i] & 255));
        }
        return text.length();
    }

    int clear() {
        int had = text.length();
        text.setLength(0);
        return had;
    }

    private record Token(String sign, int place) {
    }

    private static final Pattern TOKEN = Pattern.compile("[a-z]+|[0-9]+|[^ ]", Pattern.DOTALL);

    int tell() {
        List<Token> tokens = new ArrayList<>();
        Matcher m = TOKEN.matcher(text);
        while (m.find()) {
            tokens.add(new Token(m.group(), m.start()));
        }
        tokens.add(new Token("", text.length()));
        List<Integer> newHomes = new ArrayList<>();
        List<Event> newEvents = new ArrayList<>();
        int items = 0;
        int i = 0;
        while (!tokens.get(i).sign().isEmpty()) {
            String word = tokens.get(i).sign();
            int sort = SORTS.indexOf(word);
            if (word.equals("person") ? newHomes.size() == 8 : sort < 0 || newEvents.size() == 40
                    || sort == 1 && newEvents.stream().filter(e -> e.sort() == 1).count() == 6) {
                return -10 - tokens.get(i).place();
            }
            int[] got = new int[3];
            int need = sort < 0 ? 1 : 3;
            for (int k = 0; k < need; k++) {
                i++;
                String sign = tokens.get(i).sign();
                int n = sign.matches("0|[1-9][0-9]?") ? Integer.parseInt(sign) : -1;
                got[k] = n;
                if (n < 0 || !fits(sort, k, got, newHomes, newEvents)) {
                    return -10 - tokens.get(i).place();
                }
            }
            i++;
            if (!tokens.get(i).sign().equals(";")) {
                return -10 - tokens.get(i).place();
            }
            i++;
            items++;
            if (sort < 0) {
                newHomes.add(got[0]);
            } else {
                newEvents.add(new Event(sort, got[0], got[1], got[2]));
            }
        }
        homes = newHomes;
        events = newEvents;
        today = events.isEmpty() ? 0 : events.get(events.size() - 1).day();
        images.clear();
        text.setLength(0);
        return items;
    }

    private static boolean fits(int sort, int k, int[] got, List<Integer> folk, List<Event> past) {
        if (sort < 0) {
            return got[0] < 4;
        }
        if (k == 0) {
            return past.isEmpty() || past.get(past.size() - 1).day() <= got[0];
        }
        if (k == 1) {
            return got[1] < folk.size();
        }
        return sort < 2 ? got[2] < folk.size() && got[2] != got[1] : got[2] < 4;
    }

    int event(int k, int what) {
        if (k < 0 || k >= events.size() || !in(what, 3)) {
            return BAD;
        }
        Event e = events.get(k);
        return new int[] {e.sort(), e.day(), e.a(), e.b()}[what];
    }

    int comes(int sort, int a, int b) {
        if (!in(sort, 4) || !one(a) || !(sort < 2 ? one(b) && a != b : in(b, 3))) {
            return BAD;
        }
        if (events.size() == 40 || sort == 1 && maybes() == 6) {
            return FULL;
        }
        events.add(new Event(sort, today, a, b));
        return events.size();
    }

    int days(int n) {
        if (n < 1 || n > 99) {
            return BAD;
        }
        if (today + n > 99) {
            return STATE;
        }
        today += n;
        return today;
    }

    int undo() {
        if (events.isEmpty()) {
            return STATE;
        }
        events.remove(events.size() - 1);
        return events.size();
    }

    int origins(int p, int t, int set) {
        return one(p) && in(t, 3) ? bits(story(numbers(set)).of(p, t)) : BAD;
    }

    int voice(int p, int t, int set) {
        if (!one(p) || !in(t, 3)) {
            return BAD;
        }
        for (Voice v : story(numbers(set)).voices.get(t)) {
            if (v.who() == p) {
                return bits(v.origins());
            }
        }
        return NONE;
    }

    int law(int t, int set, int what) {
        if (!in(t, 3) || !in(what, 1)) {
            return BAD;
        }
        int[] law = story(numbers(set)).law(t);
        return law == null ? NONE : law[what];
    }

    int place(int p) {
        return one(p) ? story(Set.of()).at.get(p) : BAD;
    }

    int stands(int t) {
        if (!in(t, 3)) {
            return BAD;
        }
        for (int set = 0; set < 1 << maybes(); set++) {
            if (story(numbers(set)).law(t) == null) {
                return 0;
            }
        }
        return 1;
    }

    int falls(int t) {
        if (!in(t, 3)) {
            return BAD;
        }
        for (int n = 0; n <= maybes(); n++) {
            for (int set = 0; set < 1 << maybes(); set++) {
                if (numbers(set).size() == n && story(numbers(set)).law(t) == null) {
                    return set;
                }
            }
        }
        return NONE;
    }

    int alone(int t) {
        if (!in(t, 3)) {
            return BAD;
        }
        int set = 0;
        for (int i = 0; i < maybes(); i++) {
            if (story(Set.of()).law(t) != null && story(Set.of(i)).law(t) == null) {
                set += 1 << i;
            }
        }
        return set;
    }

    int empty() {
        int set = 0;
        List<Event> all = events;
        int i = 0;
        for (int k = 0; k < all.size(); k++) {
            if (all.get(k).sort() == 1) {
                events = all.subList(0, k);
                Told ahead = story(Set.of());
                boolean nothing = true;
                for (int t = 0; t < 4; t++) {
                    nothing = nothing && ahead.of(all.get(k).a(), t).isEmpty();
                }
                if (nothing) {
                    set += 1 << i;
                }
                i++;
            }
        }
        events = all;
        return set;
    }

    int hints(int t, int day) {
        return choose(t, day, true);
    }

    int hinder(int t, int day) {
        return choose(t, day, false);
    }

    private int choose(int t, int day, boolean hint) {
        if (!in(t, 3) || !in(day, 99)) {
            return BAD;
        }
        for (int n = 0; n <= homes.size(); n++) {
            for (int set = 0; set < 1 << homes.size(); set++) {
                Set<Integer> chosen = numbers(set);
                if (chosen.size() != n) {
                    continue;
                }
                Told told = changed(day, x -> {
                    for (int p : chosen) {
                        if (hint) {
                            x.hint(p, t);
                        } else {
                            x.stranger(p, t);
                        }
                    }
                });
                if (told.law(t) != null == hint) {
                    return set;
                }
            }
        }
        return NONE;
    }

    int turns(int t, int day, int n) {
        if (!in(t, 3) || !in(day, 99) || n < 1 || n > 2) {
            return BAD;
        }
        return best(t, day, new ArrayList<>(), 2 * n) ? 1 : 0;
    }

    private boolean best(int t, int day, List<Integer> chosen, int all) {
        if (chosen.size() == all) {
            return changed(day, x -> {
                for (int i = 0; i < all; i++) {
                    if (chosen.get(i) >= 0 && i % 2 == 0) {
                        x.hint(chosen.get(i), t);
                    } else if (chosen.get(i) >= 0) {
                        x.stranger(chosen.get(i), t);
                    }
                }
            }).law(t) != null;
        }
        boolean wants = chosen.size() % 2 == 0;
        for (int p = -1; p < homes.size(); p++) {
            List<Integer> next = new ArrayList<>(chosen);
            next.add(p);
            if (best(t, day, next, all) == wants) {
                return wants;
            }
        }
        return !wants;
    }

    int keepAt(int p, int day) {
        if (!one(p) || !in(day, 99)) {
            return BAD;
        }
        int[] had = new int[4];
        for (int where = 0; where < 4; where++) {
            int there = where;
            Told told = changed(day, x -> {
                x.at.set(p, there);
                x.still = p;
            });
            for (int t = 0; t < 4; t++) {
                had[where] += told.of(p, t).isEmpty() ? 0 : 1;
            }
        }
        int least = Arrays.stream(had).min().getAsInt();
        int where = 0;
        while (had[where] != least) {
            where++;
        }
        return where;
    }

    long chance(int t, int day, int a, int b, int what) {
        if (!in(t, 3) || !in(day, 99) || a < 0 || a > 9 || b < 1 || b > 9 || a > b || !in(what, 1)) {
            return BAD;
        }
        List<Integer> without = new ArrayList<>();
        changed(day, x -> {
            for (int p = 0; p < homes.size(); p++) {
                if (x.of(p, t).isEmpty()) {
                    without.add(p);
                }
            }
        });
        long upper = weigh(t, day, a, b, without, new ArrayList<>(), 0);
        long lower = 1;
        for (int i = 0; i < without.size(); i++) {
            lower *= b;
        }
        long common = java.math.BigInteger.valueOf(upper).gcd(java.math.BigInteger.valueOf(lower)).longValue();
        return (what == 0 ? upper : lower) / common;
    }

    private long weigh(int t, int day, int a, int b, List<Integer> without, List<Integer> hinted, int i) {
        if (i == without.size()) {
            return changed(day, x -> hinted.forEach(p -> x.hint(p, t))).law(t) != null ? 1 : 0;
        }
        long not = (b - a) * weigh(t, day, a, b, without, hinted, i + 1);
        List<Integer> more = new ArrayList<>(hinted);
        more.add(without.get(i));
        return not + a * weigh(t, day, a, b, without, more, i + 1);
    }

    /** Kinds over one another, as classes are: each calls the one above it. */
    private class Saying {
        int of(int p, int t) {
            trace += 1;
            return story(Set.of()).of(p, t).size();
        }
    }

    private class Heard extends Saying {
        @Override
        int of(int p, int t) {
            trace += 10;
            return super.of(p, t) * 2;
        }
    }

    private class Own extends Saying {
        @Override
        int of(int p, int t) {
            trace += 100;
            return super.of(p, t) + p;
        }
    }

    private class Song extends Heard {
        @Override
        int of(int p, int t) {
            trace += 1000;
            return super.of(p, t) + t;
        }
    }

    private class Hum extends Own {
        @Override
        int of(int p, int t) {
            trace += 10000;
            return super.of(p, t) - place(p);
        }
    }

    private class Written extends Saying {
        @Override
        int of(int p, int t) {
            trace += 100000;
            return super.of(p, t) + events.size();
        }
    }

    int mark(int kind, int p, int t) {
        List<Saying> kinds = List.of(new Saying(), new Heard(), new Own(), new Song(), new Hum(), new Written());
        return in(kind, 5) && one(p) && in(t, 3) ? kinds.get(kind).of(p, t) : NO;
    }

    int keep(int image) {
        if (!in(image, 1)) {
            return BAD;
        }
        images.put(image, new Image(List.copyOf(events), today));
        return events.size();
    }

    int back(int image) {
        if (!in(image, 1)) {
            return BAD;
        }
        if (!images.containsKey(image)) {
            return STATE;
        }
        events = new ArrayList<>(images.get(image).events());
        today = images.get(image).today();
        return events.size();
    }

    int count(int what) {
        return in(what, 4) ? new int[] {homes.size(), events.size(), maybes(), today, text.length()}[what] : BAD;
    }

    long trace() {
        return trace;
    }
}
