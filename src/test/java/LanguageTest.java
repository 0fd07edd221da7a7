import java.io.IOException;
import java.lang.reflect.Field;
import java.lang.reflect.Method;
import java.lang.reflect.Modifier;
import java.nio.file.Files;
import java.nio.file.Path;
import java.util.Arrays;
import java.util.Set;
import java.util.TreeSet;
import java.util.regex.Matcher;
import java.util.regex.Pattern;

/** The document's face, and what of LANGUAGE.md can be seen in the class and in its source. */
final class LanguageTest {
    private static final String SOURCE = "src/main/java/RoadsThanked.java";
    private static final String FACE = """
        int act(int,int,int); int anger(int); int back(); int best(int); int body(int); int byTurns(int,int,int);
        int count(int); int drawn(int,int,int); int feed(int); int goes(int,int,int); int hours(int); int image();
        int judge(int); int keep(int,int); int law(); int least(int,int,int); int led(int); int longer(int,int);
        int mend(int,int,int); int needed(int); int night(); int of(int,int); int peace(int); int put(int,int,long);
        int reach(int,int,int); int redo(); int ring(int,int); int road(int,int); int roads(int,int,int);
        int round(int,int,int); int row(int,int,int); int shift(int,int,int,int,int); int sunday(int,int);
        int taken(int,int); int trace(int); int traveller(int); int trip(int,int,int); int undo(); int way(int,int);
        long element(int,int)""";
    private static final Due due = new Due("LanguageTest");

    public static void main(String[] args) throws IOException, ReflectiveOperationException {
        faceOfTheClass();
        constants();
        for (Class<?> inside : RoadsThanked.class.getDeclaredClasses()) {
            classInside(inside);
        }
        due.is("twelve classes at most", Math.max(12, 1 + RoadsThanked.class.getDeclaredClasses().length), 12);
        sourceText(Files.readString(Path.of(SOURCE)));
        due.end();
    }

    private static String told(Method m) {
        String parameters = String.join(",", Arrays.stream(m.getParameterTypes()).map(Class::getName).toList());
        return m.getReturnType().getName() + " " + m.getName() + "(" + parameters + ")";
    }

    private static Set<String> faceNames() {
        Set<String> names = new TreeSet<>();
        for (String call : FACE.split(";\\s*")) {
            names.add(call.trim().replaceAll("^\\w+ (\\w+).*", "$1"));
        }
        return names;
    }

    private static void faceOfTheClass() {
        Set<String> want = new TreeSet<>();
        for (String call : FACE.split(";\\s*")) {
            want.add(call.trim());
        }
        Set<String> got = new TreeSet<>();
        for (Method m : RoadsThanked.class.getDeclaredMethods()) {
            if (Modifier.isPublic(m.getModifiers())) {
                got.add(told(m));
            } else {
                due.is("private: " + m, Modifier.isPrivate(m.getModifiers()) ? 1 : 0, 1);
                due.is("no name of the face: " + m, faceNames().contains(m.getName()) ? 1 : 0, 0);
            }
        }
        due.is("40 calls", want.size(), 40);
        due.is("the face is " + want + ", got " + got, want.equals(got) ? 1 : 0, 1);
        due.is("final", Modifier.isFinal(RoadsThanked.class.getModifiers()) ? 1 : 0, 1);
        due.is("one constructor", RoadsThanked.class.getDeclaredConstructors().length, 1);
        due.is("no interfaces", RoadsThanked.class.getInterfaces().length, 0);
    }

    private static void constants() throws ReflectiveOperationException {
        Set<String> open = new TreeSet<>();
        for (Field f : RoadsThanked.class.getDeclaredFields()) {
            if (!Modifier.isPrivate(f.getModifiers())) {
                open.add(f.getName());
            }
        }
        due.is("constants " + open, open.equals(Set.of("BAD", "NOT", "FULL", "STATE", "VOID")) ? 1 : 0, 1);
        due.is("BAD", RoadsThanked.class.getField("BAD").getInt(null), -1);
        due.is("NOT", RoadsThanked.class.getField("NOT").getInt(null), -2);
        due.is("FULL", RoadsThanked.class.getField("FULL").getInt(null), -3);
        due.is("STATE", RoadsThanked.class.getField("STATE").getInt(null), -5);
        due.is("VOID", RoadsThanked.class.getField("VOID").getInt(null), -2000000000);
        fieldsOf(RoadsThanked.class);
    }

    private static void fieldsOf(Class<?> c) {
        int many = 0;
        for (Field f : c.getDeclaredFields()) {
            boolean shared = Modifier.isStatic(f.getModifiers());
            many += shared ? 0 : 1;
            due.is("static fields are final: " + f, shared && !Modifier.isFinal(f.getModifiers()) ? 1 : 0, 0);
        }
        due.is("twenty fields at most in " + c, Math.max(20, many), 20);
    }

    private static void classInside(Class<?> inside) {
        due.is("static: " + inside, Modifier.isStatic(inside.getModifiers()) ? 1 : 0, 1);
        due.is("private or package-visible: " + inside, inside.getModifiers() & (Modifier.PUBLIC | Modifier.PROTECTED), 0);
        fieldsOf(inside);
        for (Method m : inside.getDeclaredMethods()) {
            due.is("no name of the face: " + m, Modifier.isPrivate(m.getModifiers()) && faceNames().contains(m.getName()) ? 1 : 0, 0);
            due.is("seven parameters at most: " + m, Math.max(7, m.getParameterCount()), 7);
        }
    }

    private static void sourceText(String source) {
        for (int i = 0; i < source.length(); i++) {
            if (source.charAt(i) > 126) {
                due.is("a sign above 126 at " + i, source.charAt(i), 0);
            }
        }
        String code = source.replaceAll("(?s)/\\*.*?\\*/", "").replaceAll("//[^\n]*", "");
        String[] words = {"throw", "throws", "try", "catch", "synchronized", "assert", "package", "transient", "volatile", "native",
            "Object", "Exception", "Error", "Thread", "Runtime", "hashCode", "toString", "Random", "nanoTime", "currentTimeMillis"};
        for (String word : words) {
            due.is("word " + word, Pattern.compile("\\b" + word + "\\b").matcher(code).find() ? 1 : 0, 0);
        }
        for (String sign : new String[] {"::", "Exact("}) {
            due.is("sign " + sign, code.contains(sign) ? 1 : 0, 0);
        }
        due.is("lambdas", Pattern.compile("[\\w)]\\s*->").matcher(code.replaceAll("(case [^;{}]*?|default)\\s*->", "")).find() ? 1 : 0, 0);
        libraryOf(code);
        methodsOf(code);
    }

    /** The library of rule 4, as far as it is called by the name of a class. */
    private static void libraryOf(String code) {
        Matcher imports = Pattern.compile("import ([\\w.*]+);").matcher(code);
        while (imports.find()) {
            boolean listed = imports.group(1).matches("java\\.util\\.(Arrays|ArrayList|List|Iterator)");
            due.is("import " + imports.group(1), listed ? 1 : 0, 1);
        }
        Matcher calls = Pattern.compile("\\b(Math|Integer|Long|Arrays|System)\\.(\\w+)").matcher(code);
        String numbers = "(Math|Integer|Long)\\.(compare|max|min|abs|bitCount|floorDiv|floorMod|signum|sum|numberOf\\w+|M\\w+_VALUE)";
        while (calls.find()) {
            boolean listed = calls.group().matches(numbers + "|Arrays\\.(fill|copyOf|copyOfRange)|System\\.arraycopy");
            due.is("call " + calls.group(), listed ? 1 : 0, 1);
        }
    }

    /** A method begins with a line that ends in ") {" and has no word of a statement ahead. */
    private static void methodsOf(String code) {
        String[] lines = code.split("\n");
        for (int i = 0; i < lines.length; i++) {
            boolean begins = lines[i].matches("\\s+(public |private |static |final )*[\\w\\[\\]]+( \\w+)?\\([^()]*\\) \\{")
                && !lines[i].matches("\\s+(if|for|while|switch|else)\\b.*");
            if (begins) {
                String indent = lines[i].replaceAll("\\S.*", "");
                int end = i + 1;
                while (end < lines.length && !lines[end].equals(indent + "}")) {
                    end++;
                }
                due.is("sixty lines at most from line " + (i + 1), Math.max(60, end - i + 1), 60);
            }
        }
    }
}
