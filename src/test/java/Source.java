import java.io.IOException;
import java.nio.charset.StandardCharsets;
import java.nio.file.Files;
import java.nio.file.Path;
import java.util.ArrayDeque;
import java.util.ArrayList;
import java.util.Deque;
import java.util.List;
import java.util.regex.Matcher;
import java.util.regex.Pattern;

/** The program's text, cut into its classes and methods; comments are left out and written texts are emptied. */
final class Source {
    /** A constructor bears the name of its class; the body stands without its outermost braces. */
    record Method(String owner, String name, String parameters, String body, int lines) {
        boolean isConstructor() {
            return owner.equals(name);
        }
    }

    private static final Pattern CLASS = Pattern.compile("\\b(?:class|interface|enum|record) (\\w+)");
    private static final Pattern METHOD = Pattern.compile("(\\w+)\\s*\\(([^()]*)\\)\\s*(?:throws [\\w,\\s]+)?$");
    private static final Pattern COMMENT_OR_TEXT =
            Pattern.compile("//[^\\n]*|/\\*.*?\\*/|\"(?:\\\\.|[^\"\\\\])*\"|'(?:\\\\.|[^'\\\\])'", Pattern.DOTALL);

    final String text;
    final String code;
    final List<String> classes = new ArrayList<>();
    final List<String> classesInMethods = new ArrayList<>();
    final List<Method> methods = new ArrayList<>();

    private record Open(String kind, String name, String parameters, int begin) {
    }

    Source(Path path) throws IOException {
        text = Files.readString(path, StandardCharsets.UTF_8);
        code = withoutComments(text);
        cut();
    }

    /** Line ends stay, so that lines can be counted. */
    private static String withoutComments(String text) {
        return COMMENT_OR_TEXT.matcher(text).replaceAll(found -> {
            String what = found.group();
            String lines = what.replaceAll("[^\\n]", "");
            return what.startsWith("\"") ? "\"\"" : what.startsWith("'") ? "' '" : lines;
        });
    }

    private void cut() {
        Deque<Open> open = new ArrayDeque<>();
        int headBegin = 0;
        for (int i = 0; i < code.length(); i++) {
            char c = code.charAt(i);
            if (c == '{') {
                open.push(read(code.substring(headBegin, i).strip(), i + 1, open));
            } else if (c == '}') {
                close(open.pop(), i, open);
            }
            if (c == '{' || c == '}' || c == ';') {
                headBegin = i + 1;
            }
        }
    }

    private Open read(String head, int begin, Deque<Open> open) {
        boolean isInMethod = open.stream().anyMatch(o -> o.kind.equals("method"));
        Matcher type = CLASS.matcher(head);
        if (type.find()) {
            (isInMethod ? classesInMethods : classes).add(type.group(1));
            return new Open("class", type.group(1), "", begin);
        }
        Matcher method = METHOD.matcher(head);
        if (!isInMethod && method.find()) {
            return new Open("method", method.group(1), method.group(2), begin);
        }
        return new Open(isInMethod ? "block" : "initialiser", head, "", begin);
    }

    private void close(Open closed, int end, Deque<Open> open) {
        String body = code.substring(closed.begin, end);
        int lines = (int) body.chars().filter(c -> c == '\n').count() + 1;
        if (closed.kind.equals("method") && !open.isEmpty()) {
            methods.add(new Method(open.peek().name, closed.name, closed.parameters, body, lines));
        } else if (closed.kind.equals("initialiser")) {
            methods.add(new Method(open.isEmpty() ? "" : open.peek().name, "", "", body, lines));
        }
    }
}
