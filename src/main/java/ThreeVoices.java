/**
 * People who hear, think and say things, day by day, and which of these are law because three have said
 * them whom no way joins. The document (DOC.md) has the promises; README.md tells how to use this class.
 */
public final class ThreeVoices {
    public static final int BAD = -1, STATE = -2, FULL = -3, NONE = -9;
    public static final int NO = -1000000;

    private static final int TALK = 0, MAYBE = 1, THINK = 2, SAY = 3, MOVE = 4;
    private static final int SAYING = 0, HEARD = 1, OWN = 2, SONG = 3, HUM = 4, WRITTEN = 5;
    private static final int PEOPLE_MOST = 8, EVENTS_MOST = 40, MAYBE_MOST = 6, BYTES_MOST = 400;
    private static final int PLACES = 4, THINGS = 4, LAST_DAY = 99;

    // A stranger is one ORIGIN more, above the bits of all people.
    private static final int STRANGER = 1 << PEOPLE_MOST;

    private final Text text = new Text();
    private final Folk folk = new Folk();
    private final Events events = new Events();
    private final Reader reader = new Reader(text);
    private final Events image0 = new Events();
    private final Events image1 = new Events();
    private boolean kept0 = false;
    private boolean kept1 = false;

    // Two stories made once serve all calls: as things are ahead of a DAY, and a try from there to the end.
    private final Story ahead = new Story();
    private final Story story = new Story();
    private long traced = 0;

    public ThreeVoices() {
    }

    // ---- events

    public int type(long v, int n) {
        if (n < 1 || n > 8) {
            return BAD;
        }
        if (text.size + n > BYTES_MOST) {
            return FULL;
        }
        for (int i = n - 1; i >= 0; i--) {
            text.add((int) (v >> (8 * i)) & 255);
        }
        return text.size;
    }

    public int clear() {
        int had = text.size;
        text.size = 0;
        return had;
    }

    public int tell() {
        int items = reader.readText();
        if (items < 0) {
            return -10 - reader.start;
        }
        folk.takeFrom(reader.folk);
        events.takeFrom(reader.events);
        text.size = 0;
        kept0 = false;
        kept1 = false;
        return items;
    }

    public int event(int k, int what) {
        if (k < 0 || k >= events.size) {
            return BAD;
        }
        switch (what) {
            case 0:
                return events.sorts[k];
            case 1:
                return events.dates[k];
            case 2:
                return events.actors[k];
            case 3:
                return events.objects[k];
            default:
                return BAD;
        }
    }

    public int comes(int sort, int a, int b) {
        if (sort < TALK || sort > MOVE || !folk.knows(a) || !folk.allows(sort, a, b)) {
            return BAD;
        }
        if (!events.hasRoomFor(sort)) {
            return FULL;
        }
        events.add(sort, a, b);
        return events.size;
    }

    public int days(int n) {
        if (n < 1 || n > LAST_DAY) {
            return BAD;
        }
        if (events.today + n > LAST_DAY) {
            return STATE;
        }
        events.today += n;
        return events.today;
    }

    public int undo() {
        if (events.size == 0) {
            return STATE;
        }
        events.dropLast();
        return events.size;
    }

    // ---- a story

    public int origins(int p, int t, int set) {
        if (!folk.knows(p) || !isThing(t)) {
            return BAD;
        }
        tellStory(t, set);
        return story.from[p];
    }

    public int voice(int p, int t, int set) {
        if (!folk.knows(p) || !isThing(t)) {
            return BAD;
        }
        tellStory(t, set);
        return story.voices[p] == 0 ? NONE : story.voices[p];
    }

    public int law(int t, int set, int what) {
        if (!isThing(t) || what < 0 || what > 1) {
            return BAD;
        }
        tellStory(t, set);
        if (story.three == 0) {
            return NONE;
        }
        return what == 0 ? story.lawDay : story.three;
    }

    public int place(int p) {
        if (!folk.knows(p)) {
            return BAD;
        }
        tellStory(0, 0);
        return story.at[p];
    }

    // ---- stories

    public int stands(int t) {
        if (!isThing(t)) {
            return BAD;
        }
        return fewestAgainst(t) == NONE ? 1 : 0;
    }

    public int falls(int t) {
        if (!isThing(t)) {
            return BAD;
        }
        return fewestAgainst(t);
    }

    public int alone(int t) {
        if (!isThing(t)) {
            return BAD;
        }
        if (!isLawWith(t, 0)) {
            return 0;
        }
        int breaking = 0;
        for (int i = 0; i < events.maybes; i++) {
            if (!isLawWith(t, 1 << i)) {
                breaking |= 1 << i;
            }
        }
        return breaking;
    }

    public int empty() {
        int full = 0;
        for (int t = 0; t < THINGS; t++) {
            full |= maybesThatCarry(t);
        }
        return ~full & ((1 << events.maybes) - 1);
    }

    // ---- hints

    public int hints(int t, int day) {
        if (!isThing(t) || !isDay(day)) {
            return BAD;
        }
        return fewestChosen(t, day, true);
    }

    public int hinder(int t, int day) {
        if (!isThing(t) || !isDay(day)) {
            return BAD;
        }
        return fewestChosen(t, day, false);
    }

    public int turns(int t, int day, int n) {
        if (!isThing(t) || !isDay(day) || n < 1 || n > 2) {
            return BAD;
        }
        tellAhead(t, day);
        return isLawByTurns(2 * n, events.firstFrom(day)) ? 1 : 0;
    }

    public int keepAt(int p, int day) {
        if (!folk.knows(p) || !isDay(day)) {
            return BAD;
        }
        int best = 0;
        int fewest = THINGS + 1;
        for (int where = 0; where < PLACES; where++) {
            int had = thingsHadAt(p, day, where);
            if (had < fewest) {
                fewest = had;
                best = where;
            }
        }
        return best;
    }

    public long chance(int t, int day, int a, int b, int what) {
        if (!isThing(t) || !isDay(day) || !isShare(a, b) || what < 0 || what > 1) {
            return BAD;
        }
        tellAhead(t, day);
        int without = ahead.thoseWithout();
        int first = events.firstFrom(day);
        long upper = 0;
        for (int set = 0; set <= without; set++) {
            if ((set & ~without) == 0 && isLawIf(set, true, first)) {
                upper += power(a, Integer.bitCount(set)) * power(b - a, Integer.bitCount(without & ~set));
            }
        }
        long lower = power(b, Integer.bitCount(without));
        long common = commonDivisor(upper, lower);
        long asked = what == 0 ? upper : lower;
        return common > 0 ? asked / common : asked;
    }

    // ---- kinds, images

    public int mark(int kind, int p, int t) {
        if (kind < SAYING || kind > WRITTEN || !folk.knows(p) || !isThing(t)) {
            return NO;
        }
        tellStory(t, 0);
        switch (kind) {
            case HEARD:
                return markHeard(p);
            case OWN:
                return markOwn(p);
            case SONG:
                return markSong(p, t);
            case HUM:
                return markHum(p);
            case WRITTEN:
                return markWritten(p);
            default:
                return markSaying(p);
        }
    }

    public int keep(int image) {
        if (image == 0) {
            image0.takeFrom(events);
            kept0 = true;
        } else if (image == 1) {
            image1.takeFrom(events);
            kept1 = true;
        } else {
            return BAD;
        }
        return events.size;
    }

    public int back(int image) {
        if (image < 0 || image > 1) {
            return BAD;
        }
        if (!(image == 0 ? kept0 : kept1)) {
            return STATE;
        }
        events.takeFrom(image == 0 ? image0 : image1);
        return events.size;
    }

    public int count(int what) {
        switch (what) {
            case 0:
                return folk.size;
            case 1:
                return events.size;
            case 2:
                return events.maybes;
            case 3:
                return events.today;
            case 4:
                return text.size;
            default:
                return BAD;
        }
    }

    public long trace() {
        return traced;
    }

    // ---- what numbers may be

    private static boolean isThing(int t) {
        return t >= 0 && t < THINGS;
    }

    private static boolean isDay(int day) {
        return day >= 0 && day <= LAST_DAY;
    }

    private static boolean isShare(int a, int b) {
        return a >= 0 && b >= 1 && b <= 9 && a <= b;
    }

    // ---- stories told to their end

    private void tellStory(int t, int set) {
        story.begin(folk, t);
        story.play(events, 0, events.size, set);
    }

    private boolean isLawWith(int t, int set) {
        tellStory(t, set);
        return story.three != 0;
    }

    /** The fewest MAYBE ones with just which a THING is no LAW; NONE. */
    private int fewestAgainst(int t) {
        int best = NONE;
        int fewest = MAYBE_MOST + 1;
        int end = 1 << events.maybes;
        for (int set = 0; set < end; set++) {
            if (Integer.bitCount(set) < fewest && !isLawWith(t, set)) {
                best = set;
                fewest = Integer.bitCount(set);
            }
        }
        return best;
    }

    /** The MAYBE ones whose A HAS this THING as they come, were they alone. */
    private int maybesThatCarry(int t) {
        int carry = 0;
        story.begin(folk, t);
        for (int k = 0; k < events.size; k++) {
            if (events.sorts[k] == MAYBE && story.from[events.actors[k]] != 0) {
                carry |= events.bits[k];
            }
            story.play(events, k, k + 1, 0);
        }
        return carry;
    }

    // ---- tries ahead of a DAY

    private void tellAhead(int t, int day) {
        ahead.begin(folk, t);
        ahead.play(events, 0, events.firstFrom(day), 0);
    }

    /** Whether it is LAW in the end if those of a set get a HINT, or are told by A STRANGER. */
    private boolean isLawIf(int set, boolean hinted, int first) {
        story.takeFrom(ahead);
        for (int p = 0; p < folk.size; p++) {
            if ((set >> p & 1) != 0) {
                story.choose(p, hinted);
            }
        }
        story.play(events, first, events.size, 0);
        return story.leastThree() != 0;
    }

    /** The fewest people by whose HINTS it is LAW, or by whom, told by A STRANGER, it is none; NONE. */
    private int fewestChosen(int t, int day, boolean hinted) {
        tellAhead(t, day);
        int first = events.firstFrom(day);
        int best = NONE;
        int fewest = PEOPLE_MOST + 1;
        int end = 1 << folk.size;
        for (int set = 0; set < end; set++) {
            if (Integer.bitCount(set) < fewest && isLawIf(set, hinted, first) == hinted) {
                best = set;
                fewest = Integer.bitCount(set);
            }
        }
        return best;
    }

    /** With so many choices left from "ahead" on: of an even number, the one who wants the LAW is next. */
    private boolean isLawByTurns(int left, int first) {
        if (left <= 0) {
            return isLawIf(0, true, first);
        }
        boolean wanting = left % 2 == 0;
        boolean reached = isLawByTurns(left - 1, first) == wanting;
        for (int p = 0; p < folk.size && !reached; p++) {
            reached = isReachedBy(p, left, first);
        }
        return reached == wanting;
    }

    /** Whether the one who is next gets what it is after by choosing this one. */
    private boolean isReachedBy(int p, int left, int first) {
        boolean wanting = left % 2 == 0;
        int hadFrom = ahead.from[p];
        int hadVoice = ahead.voices[p];
        if (!ahead.choose(p, wanting)) {
            // Nothing has changed, so this is the choice of nobody again.
            return false;
        }
        boolean law = isLawByTurns(left - 1, first);
        ahead.from[p] = hadFrom;
        ahead.voices[p] = hadVoice;
        return law == wanting;
    }

    private int thingsHadAt(int p, int day, int where) {
        int had = 0;
        int first = events.firstFrom(day);
        for (int t = 0; t < THINGS; t++) {
            story.begin(folk, t);
            story.play(events, 0, first, 0);
            story.stay(p, where);
            story.play(events, first, events.size, 0);
            if (story.from[p] != 0) {
                had++;
            }
        }
        return had;
    }

    private static long power(int base, int times) {
        long product = 1;
        for (int i = 0; i < times; i++) {
            product *= base;
        }
        return product;
    }

    private static long commonDivisor(long a, long b) {
        long larger = a;
        long smaller = b;
        // The numbers stay below 2 to the 26th: far fewer steps than these.
        for (int step = 0; step < 100 && smaller > 0; step++) {
            long rest = larger % smaller;
            larger = smaller;
            smaller = rest;
        }
        return larger;
    }

    // ---- kinds: each asks the one above it

    private int markSaying(int p) {
        traced += 1;
        return Integer.bitCount(story.from[p]);
    }

    private int markHeard(int p) {
        traced += 10;
        return markSaying(p) * 2;
    }

    private int markOwn(int p) {
        traced += 100;
        return markSaying(p) + p;
    }

    private int markSong(int p, int t) {
        traced += 1000;
        return markHeard(p) + t;
    }

    private int markHum(int p) {
        traced += 10000;
        return markOwn(p) - story.at[p];
    }

    private int markWritten(int p) {
        traced += 100000;
        return markSaying(p) + events.size;
    }

    /** THE TEXT. */
    private static final class Text {
        final int[] bytes = new int[BYTES_MOST];
        int size = 0;

        void add(int b) {
            if (size < BYTES_MOST) {
                bytes[size] = b;
                size++;
            }
        }

        /** The byte there; -1 where there is none. */
        int byteAt(int i) {
            return i >= 0 && i < size ? bytes[i] : -1;
        }
    }

    /** PEOPLE, each with the PLACE at which it is at first. */
    private static final class Folk {
        final int[] homes = new int[PEOPLE_MOST];
        int size = 0;

        void add(int home) {
            if (size < PEOPLE_MOST) {
                homes[size] = home;
                size++;
            }
        }

        void takeFrom(Folk other) {
            System.arraycopy(other.homes, 0, homes, 0, PEOPLE_MOST);
            size = other.size;
        }

        boolean knows(int p) {
            return p >= 0 && p < size;
        }

        /** Whether b (one, a THING or a PLACE) may stand behind a in an EVENT of a sort. */
        boolean allows(int sort, int a, int b) {
            if (sort == TALK || sort == MAYBE) {
                return knows(b) && b != a;
            }
            return b >= 0 && b < (sort == MOVE ? PLACES : THINGS);
        }
    }

    /** EVENTS, one behind another, and TODAY. */
    private static final class Events {
        final int[] sorts = new int[EVENTS_MOST];
        final int[] dates = new int[EVENTS_MOST];
        final int[] actors = new int[EVENTS_MOST];
        final int[] objects = new int[EVENTS_MOST];
        // Of a MAYBE one its bit, by their order; 0 of all others.
        final int[] bits = new int[EVENTS_MOST];
        int size = 0;
        int maybes = 0;
        int today = 0;

        boolean hasRoomFor(int sort) {
            return size < EVENTS_MOST && (sort != MAYBE || maybes < MAYBE_MOST);
        }

        void add(int sort, int a, int b) {
            if (!hasRoomFor(sort)) {
                return;
            }
            sorts[size] = sort;
            dates[size] = today;
            actors[size] = a;
            objects[size] = b;
            bits[size] = sort == MAYBE ? 1 << maybes : 0;
            if (sort == MAYBE) {
                maybes++;
            }
            size++;
        }

        void dropLast() {
            if (size > 0) {
                size--;
                if (sorts[size] == MAYBE) {
                    maybes--;
                }
            }
        }

        void forget() {
            size = 0;
            maybes = 0;
            today = 0;
        }

        void takeFrom(Events other) {
            System.arraycopy(other.sorts, 0, sorts, 0, EVENTS_MOST);
            System.arraycopy(other.dates, 0, dates, 0, EVENTS_MOST);
            System.arraycopy(other.actors, 0, actors, 0, EVENTS_MOST);
            System.arraycopy(other.objects, 0, objects, 0, EVENTS_MOST);
            System.arraycopy(other.bits, 0, bits, 0, EVENTS_MOST);
            size = other.size;
            maybes = other.maybes;
            today = other.today;
        }

        /** The first EVENT of a DAY or later ones; how many there are, if there is none such. */
        int firstFrom(int day) {
            for (int k = 0; k < size; k++) {
                if (dates[k] >= day) {
                    return k;
                }
            }
            return size;
        }
    }

    /** One THING in one STORY, as far as it has been played: no THING changes what becomes of another. */
    private static final class Story {
        final int[] at = new int[PEOPLE_MOST];
        final int[] from = new int[PEOPLE_MOST];
        final int[] voices = new int[PEOPLE_MOST];
        int size = 0;
        int thing = 0;
        int staying = NONE;
        int lawDay = NONE;
        int three = 0;

        void begin(Folk folk, int t) {
            for (int p = 0; p < PEOPLE_MOST; p++) {
                at[p] = folk.homes[p];
                from[p] = 0;
                voices[p] = 0;
            }
            size = folk.size;
            thing = t;
            staying = NONE;
            lawDay = NONE;
            three = 0;
        }

        void takeFrom(Story other) {
            System.arraycopy(other.at, 0, at, 0, PEOPLE_MOST);
            System.arraycopy(other.from, 0, from, 0, PEOPLE_MOST);
            System.arraycopy(other.voices, 0, voices, 0, PEOPLE_MOST);
            size = other.size;
            thing = other.thing;
            staying = other.staying;
            lawDay = other.lawDay;
            three = other.three;
        }

        /** The EVENTS first .. end - 1, of MAYBE ones those of a set. */
        void play(Events events, int first, int end, int set) {
            for (int k = Math.max(first, 0); k < end && k < events.size; k++) {
                int a = events.actors[k];
                int b = events.objects[k];
                switch (events.sorts[k]) {
                    case TALK:
                        from[b] |= from[a];
                        break;
                    case MAYBE:
                        if ((set & events.bits[k]) != 0) {
                            from[b] |= from[a];
                        }
                        break;
                    case THINK:
                        if (b == thing) {
                            think(a);
                        }
                        break;
                    case SAY:
                        if (b == thing) {
                            say(a, events.dates[k]);
                        }
                        break;
                    default:
                        if (a != staying) {
                            at[a] = b;
                        }
                }
            }
        }

        private void think(int p) {
            if (from[p] == 0) {
                from[p] = 1 << p;
            }
        }

        private void say(int p, int day) {
            think(p);
            if (voices[p] == 0) {
                voices[p] = from[p];
                if (three == 0) {
                    three = leastThree();
                    lawDay = three == 0 ? NONE : day;
                }
            }
            for (int q = 0; q < size; q++) {
                if (at[q] == at[p]) {
                    from[q] |= from[p];
                }
            }
        }

        /** One gets a HINT, or is told by A STRANGER: whether that changes a thing. */
        boolean choose(int p, boolean hinted) {
            if (hinted) {
                think(p);
                if (voices[p] != 0) {
                    return false;
                }
                voices[p] = from[p];
                return true;
            }
            boolean news = (from[p] & STRANGER) == 0;
            from[p] |= STRANGER;
            return news;
        }

        void stay(int p, int where) {
            at[p] = where;
            staying = p;
        }

        int thoseWithout() {
            int without = 0;
            for (int p = 0; p < size; p++) {
                if (from[p] == 0) {
                    without |= 1 << p;
                }
            }
            return without;
        }

        /** Three whose VOICES have nobody in common, the least numbers of several; 0: there are none. */
        int leastThree() {
            for (int i = 0; i < size; i++) {
                for (int j = i + 1; j < size && voices[i] != 0; j++) {
                    if (voices[j] != 0 && (voices[i] & voices[j]) == 0) {
                        int third = leastThird(j + 1, voices[i] | voices[j]);
                        if (third != 0) {
                            return 1 << i | 1 << j | third;
                        }
                    }
                }
            }
            return 0;
        }

        private int leastThird(int least, int taken) {
            for (int p = least; p < size; p++) {
                if (voices[p] != 0 && (voices[p] & taken) == 0) {
                    return 1 << p;
                }
            }
            return 0;
        }
    }

    /** Reads THE TEXT into PEOPLE and EVENTS of its own, so that a FAULT changes nothing outside. */
    private static final class Reader {
        private static final int END = 0, WORD = 1, NUMBER = 2, STOP = 3, WRONG = 4;

        final Folk folk = new Folk();
        final Events events = new Events();
        private final Text source;
        private int position = 0;
        private int token = END;
        private int number = 0;
        // Where the TOKEN read last begins: the FAULT, if it can't stand there.
        int start = 0;

        Reader(Text text) {
            source = text;
        }

        /** How many ITEMS; -1 if there is a FAULT: "start" is its place then. */
        int readText() {
            position = 0;
            folk.size = 0;
            events.forget();
            for (int items = 0; items <= BYTES_MOST; items++) {
                readToken();
                if (token == END) {
                    return items;
                }
                if (!readItem()) {
                    return -1;
                }
            }
            return -1;
        }

        private boolean readItem() {
            if (token != WORD) {
                return false;
            }
            if (isWord("person")) {
                return readPerson();
            }
            int sort = sortOfWord();
            return sort >= 0 && readEvent(sort);
        }

        private boolean readPerson() {
            if (folk.size >= PEOPLE_MOST || !readNumber(0, PLACES - 1)) {
                return false;
            }
            int home = number;
            if (!readStop()) {
                return false;
            }
            folk.add(home);
            return true;
        }

        private boolean readEvent(int sort) {
            if (!events.hasRoomFor(sort) || !readNumber(events.today, LAST_DAY)) {
                return false;
            }
            int day = number;
            if (!readNumber(0, folk.size - 1)) {
                return false;
            }
            int a = number;
            if (!readNumber(0, LAST_DAY) || !folk.allows(sort, a, number)) {
                return false;
            }
            int b = number;
            if (!readStop()) {
                return false;
            }
            events.today = day;
            events.add(sort, a, b);
            return true;
        }

        private boolean readNumber(int least, int most) {
            readToken();
            return token == NUMBER && number >= least && number <= most;
        }

        private boolean readStop() {
            readToken();
            return token == STOP;
        }

        private int sortOfWord() {
            if (isWord("talk")) {
                return TALK;
            }
            if (isWord("maybe")) {
                return MAYBE;
            }
            if (isWord("think")) {
                return THINK;
            }
            if (isWord("say")) {
                return SAY;
            }
            return isWord("move") ? MOVE : -1;
        }

        private boolean isWord(String word) {
            if (position - start != word.length()) {
                return false;
            }
            for (int i = 0; i < word.length(); i++) {
                if (source.byteAt(start + i) != word.charAt(i)) {
                    return false;
                }
            }
            return true;
        }

        private void readToken() {
            while (position < source.size && source.byteAt(position) == ' ') {
                position++;
            }
            start = position;
            int b = source.byteAt(position);
            if (b < 0) {
                token = END;
            } else if (isLetter(b)) {
                readWord();
            } else if (isDigit(b)) {
                readDigits();
            } else {
                position++;
                token = b == ';' ? STOP : WRONG;
            }
        }

        private void readWord() {
            while (position < source.size && isLetter(source.byteAt(position))) {
                position++;
            }
            token = WORD;
        }

        private void readDigits() {
            number = 0;
            while (position < source.size && isDigit(source.byteAt(position))) {
                // Held down, so that no row of digits comes round to a small number.
                number = Math.min(number * 10 + source.byteAt(position) - '0', LAST_DAY + 1);
                position++;
            }
            boolean zeroAhead = source.byteAt(start) == '0' && position - start > 1;
            token = zeroAhead || number > LAST_DAY ? WRONG : NUMBER;
        }

        private static boolean isLetter(int b) {
            return b >= 'a' && b <= 'z';
        }

        private static boolean isDigit(int b) {
            return b >= '0' && b <= '9';
        }
    }
}
